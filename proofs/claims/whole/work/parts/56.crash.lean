/-! A CRASH -/
theorem sN_1 (k : Nat) : sN k (fun _ => 1) = k := by
  induction k with
  | zero => rfl
  | succ k ih => show sN k _ + 1 = _; rw [ih]
theorem fre_leave {w w' : RS} {e : Nat} (he : e < 10) (hI : ID w) (h : leV w (stN e) (stN e + szN e) w') (hb : ∀ b, b < szN e → w 18 (stN e + b) ≠ -1) : sN 9 (fun s => fre (w' 19 s)) = sN 9 (fun s => fre (w 19 s)) + szN e := by
  have f1 := free_used w 9
  have f2 := free_used w' 9
  have u1 := used_eq hI
  have u2 := used_eq (leave_ID hI h)
  have key : sN 23 (fun p => usd (w 18 p)) = sN 23 (fun p => usd (w' 18 p)) + szN e := by
    rw [pos_sum, pos_sum]
    have e1 : sN 10 (fun x => if x = e then szN e else 0) = szN e := by
      rw [sN_one he fun j _ hne => if_neg hne, if_pos rfl]
    rw [← e1]
    conv => rhs; rw [e1]
    rw [← e1, ← sN_add]
    refine sN_cg fun x hx => ?_
    by_cases c : x = e
    · subst c
      have q1 : ∀ b, b < szN x → usd (w 18 (stN x + b)) = (fun _ => 1) b := fun b hb2 => if_neg (hb b hb2)
      have q2 : ∀ b, b < szN x → usd (w' 18 (stN x + b)) = (fun _ => 0) b := fun b hb2 => by
        rw [h.2.1, if_pos (by omega)]
        exact if_pos rfl
      rw [if_pos rfl, sN_cg q1, sN_1, sN_cg q2, sN_0, Nat.zero_add]
    · rw [if_neg c, Nat.add_zero]
      refine sN_cg fun b hb2 => ?_
      rw [h.2.1, if_neg]
      intro q
      have := (pos_inj he (show stN x + b - stN e < szN e by omega) hx hb2 (by omega)).1
      exact c this.symm
  omega
def CI (w : RS) (a : Nat → Int32) (m i fd : Nat) (wi : RS) (ai : Nat → Int32) : Prop :=
  (∀ c, c ≠ 18 → c ≠ 19 → wi c = w c) ∧ row 23 139 (wi 18) ai ∧ ID wi ∧ ai 17 = nI (m - i) ∧ (∀ j, j < m - i → ai (200 + 4 * j) = w 24 (i + j) ∧ ai (200 + 4 * j + 1) = w 25 (i + j)) ∧ (∀ k, k ≠ 17 → (k < 139 ∨ 162 ≤ k) → (k < 200 ∨ 240 ≤ k) → ai k = a k) ∧
  (∀ e, e < 10 → ∀ b, b < szN e → (wi 18 (stN e + b) ≠ -1 ↔ (w 3 e = 1 ∨ ∃ j, i ≤ j ∧ j < m ∧ w 24 j = nI e ∧ w 26 j = 1))) ∧ sN 9 (fun s => fre (wi 19 s)) = sN 9 (fun s => fre (w 19 s)) + fd
theorem CI_fd {w : RS} {a : Nat → Int32} {m i fd : Nat} {wi : RS} {ai : Nat → Int32} (h : CI w a m i fd wi ai) : fd ≤ 9 := by
  have := free_used wi 9
  have := h.2.2.2.2.2.2.2
  omega
/-- the move at the head goes -/
theorem CI_out {w w2 : RS} {a a2 : Nat → Int32} {m i fd : Nat} (hm : m ≤ 10) (hi : i < m) (h1 : ∀ c, c ≠ 18 → c ≠ 19 → w2 c = w c) (h2 : row 23 139 (w2 18) a2) (h3 : ID w2) (h4 : a2 17 = nI (m - i)) (h5 : ∀ j, j < m - i → a2 (200 + 4 * j) = w 24 (i + j) ∧ a2 (200 + 4 * j + 1) = w 25 (i + j)) (h6 : ∀ k, k ≠ 17 → (k < 139 ∨ 162 ≤ k) → (k < 200 ∨ 240 ≤ k) → a2 k = a k)
    (h7 : ∀ e, e < 10 → ∀ b, b < szN e → (w2 18 (stN e + b) ≠ -1 ↔ (w 3 e = 1 ∨ ∃ j, i + 1 ≤ j ∧ j < m ∧ w 24 j = nI e ∧ w 26 j = 1))) (h8 : sN 9 (fun s => fre (w2 19 s)) = sN 9 (fun s => fre (w 19 s)) + fd) : CI w a m (i + 1) fd w2 (outA a2 (m - i) 0) := by
  have o : ∀ k, k ≠ 17 → (k < 200 ∨ 240 ≤ k) → outA a2 (m - i) 0 k = a2 k := fun k k1 k2 => outA_out (by omega) (by omega) k1 k2
  refine ⟨h1, fun p hp => by rw [o _ (by omega) (by omega)]; exact h2 p hp, h3, by rw [outA_17]; congr 1, fun j hj => ⟨?_, ?_⟩, fun k k1 k2 k3 => by rw [o k k1 k3]; exact h6 k k1 k2 k3, h7, h8⟩
  · have := outA_at (a := a2) (m := m - i) (i := 0) (by omega) 0 (by omega) j (by omega)
    rw [show 200 + 0 + 4 * j = 200 + 4 * j from by omega] at this
    rw [this]
    unfold rm
    rw [if_neg (by omega), show i + 1 + j = i + (j + 1) from by omega]
    exact (h5 (j + 1) (by omega)).1
  · have := outA_at (a := a2) (m := m - i) (i := 0) (by omega) 1 (by omega) j (by omega)
    rw [show 200 + 1 + 4 * j = 200 + 4 * j + 1 from by omega] at this
    rw [this]
    unfold rm
    rw [if_neg (by omega), show i + 1 + j = i + (j + 1) from by omega]
    show a2 (200 + 1 + 4 * (j + 1)) = _
    rw [show 200 + 1 + 4 * (j + 1) = 200 + 4 * (j + 1) + 1 from by omega]
    exact (h5 (j + 1) (by omega)).2
def crC (N : Nat) (x1 x2 : Int32) (ww : RS) : Option (Int32 × RS) := thn (st ww 23 0 0) fun ww_1 => thn (st ww_1 20 0 0) fun ww_2 => bnd (fX2_forget N ww_2) fun r3 => thn (st r3 1 12 ((r3 1 12) + 1)) fun ww_4 => bnd (fX10_writeDown N 4 x1 x2 ww_4) fun r5 => some (x1, r5)
theorem crash_moves {N m : Nat} (hN : 97 ≤ N) (hm : m ≤ 10) {w mm : RS} {a : Nat → Int32} {x2 : Int32} (hr : RW w a) (hi : IW w) (h23 : w 23 0 = nI m) :
    ∀ d i fd k k2 wi ai, m - i = d → i ≤ m → d < k → d < k2 → CI w a m i fd wi ai →
      ∃ fd' w' a', fX10_loseMemory_L12 N k (nI m) (nI fd) (nI i) wi = crC N (nI m) (nI fd') w' ∧ fX12_crashNow_L13 N k2 (nI m) x2 (sr mm 1 ai) = fX12_crashNow_L51 N N (nI m) x2 (sr mm 1 a') ∧ CI w a m m fd' w' a' := by
  intro d
  induction d with
  | zero =>
    intro i fd k k2 wi ai h1 h2 h3 h4 hc
    obtain ⟨k, rfl⟩ : ∃ j, k = j + 1 := ⟨k - 1, by omega⟩
    obtain ⟨k2, rfl⟩ : ∃ j, k2 = j + 1 := ⟨k2 - 1, by omega⟩
    have : i = m := by omega
    subst this
    refine ⟨fd, wi, ai, ?_, ?_, hc⟩
    · rw [fX10_loseMemory_L12, hc.1 23 (by decide) (by decide), h23, if_pos (nI_le (Nat.le_refl _) (by omega))]
      rfl
    · rw [fX12_crashNow_L13, sr_e, hc.2.2.2.1, show i - i = 0 from by omega, if_pos (by decide)]
  | succ d ih =>
    intro i fd k k2 wi ai h1 h2 h3 h4 hc
    obtain ⟨k, rfl⟩ : ∃ j, k = j + 1 := ⟨k - 1, by omega⟩
    obtain ⟨k2, rfl⟩ : ∃ j, k2 = j + 1 := ⟨k2 - 1, by omega⟩
    have him : i < m := by omega
    obtain ⟨e, hv⟩ := mv_ex hr hi h23 hm him
    obtain ⟨-, -, -, -, he, v24, v25, v26, -, -, -, -, vu⟩ := hv
    obtain ⟨c1, c2, c3, c4, c5, c6, c7, c8⟩ := id hc
    obtain ⟨m0, m1⟩ := c5 0 (by omega)
    rw [show i + 0 = i from rfl, v24] at m0
    rw [show i + 0 = i from rfl] at m1
    have o0 : fX12_ofMove N 0 0 (sr mm 1 ai) = some (nI e) := (ofM (i := 0) (c := 0) (by omega) (by omega)).trans (congrArg some m0)
    have o1 : fX12_ofMove N 0 1 (sr mm 1 ai) = some (w 25 i) := (ofM (i := 0) (c := 1) (by omega) (by omega)).trans (congrArg some m1)
    have hfd := CI_fd hc
    have hz := szN_le e
    have hC : fX10_loseMemory_L12 N (k + 1) (nI m) (nI fd) (nI i) wi = (bnd (if w 26 i = 1 then (if w 25 i = 1 then (some (1 : Int32)) else (some 0)) else (some 0)) fun r6 => if r6 = 0 then fX10_loseMemory_L12 N k (nI m) (nI fd) (nI (i + 1)) wi else (bnd (fX1_leaveSlots N (nI e) wi) fun r9 => ck (inb (r9 24 i) 10) <| thn (nI fd + sizeT (r9 24 i).toNatClampNeg) fun x2_11 => fX10_loseMemory_L12 N k (nI m) x2_11 (nI (i + 1)) r9)) := by
      rw [fX10_loseMemory_L12, c1 23 (by decide) (by decide), h23, if_neg (nI_ge him (by omega))]
      unfold fX5_holdsSlots fX10_loseMemory_L66
      rw [inb_nI (by omega) (by omega), ck_t, ck_t, cl_nI (by omega), c1 26 (by decide) (by decide), c1 25 (by decide) (by decide), c1 24 (by decide) (by decide), v24, j1]
    have hM : fX12_crashNow_L13 N (k2 + 1) (nI m) x2 (sr mm 1 ai) = (if w 25 i = 1 then (bnd (fX12_freeSlots N (nI e) (sr mm 1 ai)) fun r3 => bnd (fX12_outMove N 0 r3) fun r1 => fX12_crashNow_L13 N k2 (nI m) x2 r1) else (bnd (fX12_outMove N 0 (sr mm 1 ai)) fun r1 => fX12_crashNow_L13 N k2 (nI m) x2 r1)) := by
      rw [fX12_crashNow_L13, sr_e, c4, if_neg (fun q => absurd ((ge_0 (by omega)).mp q) (by omega)), o1, bnd_s, o0, bnd_s]
      rfl
    have out : ∀ a2 : Nat → Int32, a2 17 = nI (m - i) → fX12_outMove N 0 (sr mm 1 a2) = some (sr mm 1 (outA a2 (m - i) 0)) := fun a2 h => outM_ok (N := N) (i := 0) (by omega) (by omega) (by omega) h
    -- what stands of another extent
    have oth : ∀ f, f < 10 → f ≠ e → ((w 3 f = 1 ∨ ∃ j, i ≤ j ∧ j < m ∧ w 24 j = nI f ∧ w 26 j = 1) ↔ (w 3 f = 1 ∨ ∃ j, i + 1 ≤ j ∧ j < m ∧ w 24 j = nI f ∧ w 26 j = 1)) := by
      intro f hf hne
      constructor
      · rintro (z | ⟨j, z1, z2, z3, z4⟩)
        · exact Or.inl z
        · by_cases q : j = i
          · subst q
            rw [v24] at z3
            exact absurd ((eq_nI (by omega) (by omega)).mp z3).symm hne
          · exact Or.inr ⟨j, by omega, z2, z3, z4⟩
      · rintro (z | ⟨j, z1, z2, z3, z4⟩)
        · exact Or.inl z
        · exact Or.inr ⟨j, by omega, z2, z3, z4⟩
    have own : ¬ ∃ j, i + 1 ≤ j ∧ j < m ∧ w 24 j = nI e ∧ w 26 j = 1 := fun ⟨j, z1, z2, z3, _⟩ => by have := vu j z2 z3; omega
    by_cases cA : w 26 i = 1 ∧ w 25 i = 1
    · obtain ⟨cA1, cA2⟩ := cA
      have w30 : ¬ w 3 e = 1 := by
        intro q
        rw [q] at v25
        rw [v25] at cA2
        exact absurd cA2 (by decide)
      obtain ⟨w2, g1, g2⟩ := leave_ok (N := N) (by omega) he c3
      have g3 := fre_leave he c3 g2 (fun b hb => (c7 e he b hb).mpr (Or.inr ⟨i, Nat.le_refl _, him, v24, cA1⟩))
      have e24 : w2 24 = w 24 := (g2.1 24 (by decide) (by decide)).trans (c1 24 (by decide) (by decide))
      have hCI : CI w a m (i + 1) (fd + szN e) w2 (outA (frA ai (stN e) (stN e + szN e)) (m - i) 0) := by
        have fo : ∀ k, (k < 139 ∨ 162 ≤ k) → frA ai (stN e) (stN e + szN e) k = ai k := fun k hk => frA_out (stN_le e he) hk
        refine CI_out hm him (fun c q1 q2 => (g2.1 c q1 q2).trans (c1 c q1 q2)) (free_row g2 c2) (leave_ID c3 g2) (by rw [fo 17 (by omega)]; exact c4) (fun j hj => by rw [fo _ (by omega), fo _ (by omega)]; exact c5 j hj) (fun k k1 k2 k3 => by rw [fo k k2]; exact c6 k k1 k2 k3) (fun f hf b hb => ?_) (by rw [g3, c8]; omega)
        by_cases q : f = e
        · subst q
          rw [g2.2.1, if_pos (by omega)]
          constructor
          · intro z; exact absurd rfl z
          · rintro (z | z)
            · exact absurd z w30
            · exact absurd z own
        · rw [g2.2.1, if_neg, c7 f hf b hb]
          · exact oth f hf q
          · intro z
            exact q (pos_inj hf hb he (show stN f + b - stN e < szN e by omega) (by omega)).1
      obtain ⟨fd', w', a', i1, i2, i3⟩ := ih (i + 1) (fd + szN e) k k2 w2 _ (by omega) (by omega) (by omega) (by omega) hCI
      refine ⟨fd', w', a', ?_, ?_, i3⟩
      · rw [hC, if_pos cA1, if_pos cA2, bnd_s, if_neg (by decide), g1, bnd_s, e24, v24, inb_nI he (by omega), ck_t, thn_e, cl_nI (by omega), sizeT_N e he, nI_add]
        exact i1
      · rw [hM, if_pos cA2, freeM_ok (by omega) he, bnd_s, out _ (by rw [frA_out (stN_le e he) (by omega)]; exact c4), bnd_s]
        exact i2
    · have hC2 : fX10_loseMemory_L12 N (k + 1) (nI m) (nI fd) (nI i) wi = fX10_loseMemory_L12 N k (nI m) (nI fd) (nI (i + 1)) wi := by
        rw [hC]
        by_cases z : w 26 i = 1
        · rw [if_pos z, if_neg (fun y => cA ⟨z, y⟩), bnd_s, if_pos rfl]
        · rw [if_neg z, bnd_s, if_pos rfl]
      have hIS : ∀ f, f < 10 → ∀ b, b < szN f → (wi 18 (stN f + b) ≠ -1 ↔ (w 3 f = 1 ∨ ∃ j, i + 1 ≤ j ∧ j < m ∧ w 24 j = nI f ∧ w 26 j = 1)) := by
        intro f hf b hb
        rw [c7 f hf b hb]
        by_cases q : f = e
        · subst q
          constructor
          · rintro (z | ⟨j, z1, z2, z3, z4⟩)
            · exact Or.inl z
            · have := vu j z2 z3
              subst this
              rcases hi.1.1 f hf with y | y
              · exact absurd ⟨z4, by rw [v25, y]; decide⟩ cA
              · exact Or.inl y
          · rintro (z | z)
            · exact Or.inl z
            · exact absurd z own
        · exact oth f hf q
      by_cases cB : w 25 i = 1
      · have w30 : ¬ w 3 e = 1 := by
          intro q
          rw [q] at v25
          rw [v25] at cB
          exact absurd cB (by decide)
        have fo : ∀ k, (k < 139 ∨ 162 ≤ k) → frA ai (stN e) (stN e + szN e) k = ai k := fun k hk => frA_out (stN_le e he) hk
        have hrow : row 23 139 (wi 18) (frA ai (stN e) (stN e + szN e)) := fun p hp => by
          unfold frA
          by_cases y : 139 + stN e ≤ 139 + p ∧ 139 + p < 139 + (stN e + szN e)
          · rw [if_pos y]
            have := hIS e he (p - stN e) (by omega)
            rw [show stN e + (p - stN e) = p from by omega] at this
            by_cases x : wi 18 p = -1
            · exact x.symm
            · rcases this.mp x with z | z
              · exact absurd z w30
              · exact absurd z own
          · rw [if_neg y]
            exact c2 p hp
        have hCI : CI w a m (i + 1) fd wi (outA (frA ai (stN e) (stN e + szN e)) (m - i) 0) :=
          CI_out hm him c1 hrow c3 (by rw [fo 17 (by omega)]; exact c4) (fun j hj => by rw [fo _ (by omega), fo _ (by omega)]; exact c5 j hj) (fun k k1 k2 k3 => by rw [fo k k2]; exact c6 k k1 k2 k3) hIS c8
        obtain ⟨fd', w', a', i1, i2, i3⟩ := ih (i + 1) fd k k2 wi _ (by omega) (by omega) (by omega) (by omega) hCI
        refine ⟨fd', w', a', hC2.trans i1, ?_, i3⟩
        rw [hM, if_pos cB, freeM_ok (by omega) he, bnd_s, out _ (by rw [fo 17 (by omega)]; exact c4), bnd_s]
        exact i2
      · obtain ⟨fd', w', a', i1, i2, i3⟩ := ih (i + 1) fd k k2 wi _ (by omega) (by omega) (by omega) (by omega) (CI_out hm him c1 c2 c3 c4 c5 c6 hIS c8)
        refine ⟨fd', w', a', hC2.trans i1, ?_, i3⟩
        rw [hM, if_neg cB, out _ c4, bnd_s]
        exact i2
