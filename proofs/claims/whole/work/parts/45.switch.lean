/-! SWITCHES AND DROPS -/
theorem rm_IVS {w w' : RS} {a : Nat → Int32} {m i e : Nat} (hi : IW w) (h : mvI w a m i e) (h23 : w' 23 0 = nI (m - 1)) (h24 : ∀ j, j < m - 1 → w' 24 j = rm (w 24) i j) (h25 : ∀ j, j < m - 1 → w' 25 j = rm (w 25) i j) (h26 : ∀ j, j < m - 1 → w' 26 j = rm (w 26) i j)
    (h3 : ∀ f, f ≠ e → w' 3 f = w 3 f) (h18 : ∀ q, (q < stN e ∨ stN e + szN e ≤ q) → w' 18 q = w 18 q) (h18e : ∀ b, b < szN e → (w' 18 (stN e + b) ≠ -1 ↔ w' 3 e = 1)) : IV w' ∧ IS w' := by
  obtain ⟨h1, h2, h3', h4, h5, h6, h7, h8, h9, h10, h11, h12, h13⟩ := h
  obtain ⟨n, u1, u2, u3, u4⟩ := hi.2.2.2.1
  have en : n = m := (eq_nI (by omega) (by omega)).mp (u2.symm.trans h2)
  subst en
  have hne : ∀ j, j < n → j ≠ i → ∀ f, f < 10 → w 24 j = nI f → f ≠ e := fun j hj hji f hf q c => hji (h13 j hj (by rw [q, c]))
  constructor
  · refine ⟨n - 1, by omega, h23, fun j hj => ?_, fun j hj k hk q => ?_⟩
    · rw [h24 j hj, h25 j hj, h26 j hj]
      unfold rm
      by_cases c : j < i
      · rw [if_pos c, if_pos c, if_pos c]
        obtain ⟨f, f1, f2, f3, f4⟩ := u3 j (by omega)
        exact ⟨f, f1, f2, by rw [h3 f (hne j (by omega) (by omega) f f1 f2)]; exact f3, f4⟩
      · rw [if_neg c, if_neg c, if_neg c]
        obtain ⟨f, f1, f2, f3, f4⟩ := u3 (j + 1) (by omega)
        exact ⟨f, f1, f2, by rw [h3 f (hne (j + 1) (by omega) (by omega) f f1 f2)]; exact f3, f4⟩
    · rw [h24 j hj, h24 k hk] at q
      unfold rm at q
      by_cases c : j < i
      · rw [if_pos c] at q
        by_cases c2 : k < i
        · rw [if_pos c2] at q
          exact u4 j (by omega) k (by omega) q
        · rw [if_neg c2] at q
          have := u4 j (by omega) (k + 1) (by omega) q
          omega
      · rw [if_neg c] at q
        by_cases c2 : k < i
        · rw [if_pos c2] at q
          have := u4 (j + 1) (by omega) k (by omega) q
          omega
        · rw [if_neg c2] at q
          have := u4 (j + 1) (by omega) (k + 1) (by omega) q
          omega
  · intro f hf b hb
    rw [HSl_iff h23 (by omega)]
    by_cases c : f = e
    · subst c
      rw [h18e b hb]
      constructor
      · exact Or.inl
      · rintro (z | ⟨j, j1, j2, -⟩)
        · exact z
        · rw [h24 j j1] at j2
          unfold rm at j2
          by_cases q : j < i
          · rw [if_pos q] at j2
            have := h13 j (by omega) j2
            omega
          · rw [if_neg q] at j2
            have := h13 (j + 1) (by omega) j2
            omega
    · have hq : w' 18 (stN f + b) = w 18 (stN f + b) := by
        apply h18
        by_cases q : stN e ≤ stN f + b ∧ stN f + b < stN e + szN e
        · exact absurd (pos_inj hf hb h5 (c := stN f + b - stN e) (by omega) (by omega)).1 c
        · omega
      rw [hq, hi.2.2.2.2.1 f hf b hb, HSl_iff h2 h1, h3 f c]
      constructor
      · rintro (z | ⟨j, j1, j2, j3⟩)
        · exact Or.inl z
        · have hji : j ≠ i := fun q => c ((eq_nI (by omega) (by omega)).mp (by rw [← j2, q, h6]))
          by_cases q : j < i
          · exact Or.inr ⟨j, by omega, by rw [h24 j (by omega)]; unfold rm; rw [if_pos q]; exact j2, by rw [h26 j (by omega)]; unfold rm; rw [if_pos q]; exact j3⟩
          · exact Or.inr ⟨j - 1, by omega, by rw [h24 _ (by omega)]; unfold rm; rw [if_neg (by omega), show j - 1 + 1 = j from by omega]; exact j2, by rw [h26 _ (by omega)]; unfold rm; rw [if_neg (by omega), show j - 1 + 1 = j from by omega]; exact j3⟩
      · rintro (z | ⟨j, j1, j2, j3⟩)
        · exact Or.inl z
        · rw [h24 j j1] at j2
          rw [h26 j j1] at j3
          unfold rm at j2 j3
          by_cases q : j < i
          · rw [if_pos q] at j2 j3
            exact Or.inr ⟨j, by omega, j2, j3⟩
          · rw [if_neg q] at j2 j3
            exact Or.inr ⟨j + 1, by omega, j2, j3⟩
theorem RW_ae {w : RS} {a a' : Nat → Int32} (h : ∀ k, a' k = a k) (g : RW w a) : RW w a' := (funext h : a' = a) ▸ g
/-- the i-th move is out -/
theorem out_RW {w : RS} {a : Nat → Int32} {m i e : Nat} (hr : RW w a) (h : mvI w a m i e) : RW (rmW w m i) (outA a m i) := by
  obtain ⟨n, v1, v2, v3, v4, v5, v6, v7⟩ := hr.2.2.2.2.2.1
  have en : n = m := (eq_nI (by have := h.1; omega) (by have := h.1; omega)).mp (v2.symm.trans h.2.1)
  subst en
  exact RW_V hr (fun c hc => rmW_out hc) (fun k k1 k2 => outA_out v1 h.2.2.2.1 k1 k2) (out_RV v1 h.2.2.2.1 v4 v5 v6 v7)
/-- a drop -/
theorem drop_ok {N : Nat} (hN : 97 ≤ N) {w mm : RS} {a : Nat → Int32} {m i e : Nat} (hr : RW w a) (hi : IW w) (h : mvI w a m i e) :
    ∃ w' a', fX10_dropMove N (nI i) w = some w' ∧ fX12_dropMove N (nI i) (sr mm 1 a) = some (sr mm 1 a') ∧ SM 0 w a w' a' ∧ w' 23 0 = nI (m - 1) ∧ w' 3 = w 3 ∧ ∀ j, j < m - 1 → w' 26 j = rm (w 26) i j := by
  have h' := h
  obtain ⟨h1, h2, h3, h4, h5, h6, h7, h8, h9, h10, h11, h12, h13⟩ := h
  have hz := szN_le e
  have hs := stN_le e h5
  have fin : ∀ w1 a1, RW w1 a1 → ID w1 → (∀ c, c ≠ 18 → c ≠ 19 → w1 c = w c) → (∀ k, (k < 139 ∨ 162 ≤ k) → a1 k = a k) → (∀ q, (q < stN e ∨ stN e + szN e ≤ q) → w1 18 q = w 18 q) → (∀ b, b < szN e → (w1 18 (stN e + b) ≠ -1 ↔ w 3 e = 1)) →
      ∃ w' a', fX10_dropMove_L39 N (nI i) (nI e) (w 25 i) w1 = some w' ∧ fX12_dropMove_L24 N (nI i) (nI e) (w 25 i) (sr mm 1 a1) = some (sr mm 1 a') ∧ SM 0 w a w' a' ∧ w' 23 0 = nI (m - 1) ∧ w' 3 = w 3 ∧ ∀ j, j < m - 1 → w' 26 j = rm (w 26) i j := by
    intro w1 a1 g1 gD g2 g3 g4 g5
    have hv1 : mvI w1 a1 m i e := by
      unfold mvI
      rw [g2 23 (by decide) (by decide), g2 24 (by decide) (by decide), g2 25 (by decide) (by decide), g2 26 (by decide) (by decide), g2 27 (by decide) (by decide), g2 3 (by decide) (by decide), g3 17 (by omega), g3 _ (by omega), g3 _ (by omega), g3 _ (by omega), g3 _ (by omega)]
      exact h'
    obtain ⟨r24, r25, r26, r23⟩ := rmW_at (w := w1) h4
    have o := fun c hc => rmW_out (w := w1) (m := m) (i := i) (c := c) hc
    have iVS := rm_IVS (w' := rmW w1 m i) hi h' r23 (fun j hj => by rw [r24 j hj, g2 24 (by decide) (by decide)]) (fun j hj => by rw [r25 j hj, g2 25 (by decide) (by decide)]) (fun j hj => by rw [r26 j hj, g2 26 (by decide) (by decide)]) (fun f _ => by rw [o 3 (by omega), g2 3 (by decide) (by decide)]) (fun q hq => by rw [o 18 (by omega)]; exact g4 q hq) (fun b hb => by rw [o 18 (by omega), o 3 (by omega), g2 3 (by decide) (by decide)]; exact g5 b hb)
    have hi2 : IW (rmW w1 m i) := ⟨IX_cg (fun c hc => by rw [o c (by omega), g2 c (by omega) (by omega)]) hi.1, ID_cg (o 18 (by omega)) (o 19 (by omega)) gD, IH_cg (by rw [o 20 (by omega), g2 20 (by decide) (by decide)]) (by rw [o 21 (by omega), g2 21 (by decide) (by decide)]) hi.2.2.1, iVS.1, iVS.2, IC_cg (fun k _ => by rw [o 1 (by omega), g2 1 (by decide) (by decide)]) hi.2.2.2.2.2⟩
    obtain ⟨w', a', k1, k2, k3, k4⟩ := wd_SM (mm := mm) hN (out_RW g1 hv1) hi2 2 (nI e) (w 25 i)
    refine ⟨w', a', ?_, ?_, ⟨k3.1, k3.2.1, fun k hk => ?_, fun K hK => k3.2.2.2 K (IK_cg ?_ ?_ ?_ hK)⟩, ?_, ?_, fun j hj => ?_⟩
    · unfold fX10_dropMove_L39
      rw [remove_ok h4 h1 (by rw [g2 23 (by decide) (by decide)]; exact h2), bnd_s, k1, bnd_s]
    · unfold fX12_dropMove_L24
      rw [outM_ok (by omega) h4 h1 (by rw [g3 17 (by omega)]; exact h3), bnd_s, k2, bnd_s]
    · rw [k3.2.2.1 k hk, outA_out h1 h4 (by omega) (by omega), g3 k (by omega)]
    · rw [o 1 (by omega), g2 1 (by decide) (by decide)]
    · rw [o 1 (by omega), g2 1 (by decide) (by decide)]
    · rw [o 1 (by omega), g2 1 (by decide) (by decide)]
    · rw [k4 23 (by decide)]; exact r23
    · rw [k4 3 (by decide), o 3 (by omega), g2 3 (by decide) (by decide)]
    · rw [k4 26 (by decide), r26 j hj, g2 26 (by decide) (by decide)]
  have q0 := @ofM N i 0 mm a (by omega) (by omega)
  have q1 := @ofM N i 1 mm a (by omega) (by omega)
  rw [Nat.add_zero, h9] at q0
  rw [h10] at q1
  have q1' : fX12_ofMove N (nI i) 1 (sr mm 1 a) = some (w 25 i) := q1
  have q0' : fX12_ofMove N (nI i) 0 (sr mm 1 a) = some (nI e) := q0
  have hC : ∀ X, fX10_dropMove N (nI i) w = X ↔ (bnd (fX5_holdsSlots N (nI i) w) fun r4 => if r4 = 0 then (fX10_dropMove_L39 N (nI i) (nI e) (w 25 i) w) else (bnd (fX1_leaveSlots N (nI e) w) fun r6 => fX10_dropMove_L39 N (nI i) (nI e) (w 25 i) r6)) = X := by
    intro X
    unfold fX10_dropMove
    rw [inb_nI (by omega) (by omega), ck_t, thn_e, thn_e, cl_nI (by omega), h6]
  have hM : ∀ X, fX12_dropMove N (nI i) (sr mm 1 a) = X ↔ (if w 25 i = 1 then (fX12_dropMove_L24 N (nI i) (nI e) (w 25 i) (sr mm 1 (frA a (stN e) (stN e + szN e)))) else (fX12_dropMove_L24 N (nI i) (nI e) (w 25 i) (sr mm 1 a))) = X := by
    intro X
    unfold fX12_dropMove
    rw [q0', bnd_s, q1', bnd_s, freeM_ok (by omega) h5, bnd_s]
  have hH : fX5_holdsSlots N (nI i) w = some (if w 26 i = 1 then (if w 25 i = 1 then 1 else 0) else 0) := by
    unfold fX5_holdsSlots
    rw [inb_nI (by omega) (by omega), ck_t, cl_nI (by omega)]
    split
    · split <;> rfl
    · rfl
  rcases hi.1.1 e h5 with hf | hf
  · have h25 : w 25 i = 1 := by rw [h7, hf]; rfl
    rcases h8 with hb | hb
    · have hno := mv_none hi h' hb hf
      have hr1 : RW w (frA a (stN e) (stN e + szN e)) := RW_D hr (fun _ _ _ => rfl) (fun k hk => frA_out (by omega) hk) (fun p hp => by
        unfold frA
        by_cases c : stN e ≤ p ∧ p < stN e + szN e
        · rw [if_pos (by omega), hno p c.1 c.2]
        · rw [if_neg (by omega)]
          exact hr.2.2.1.2.1 p hp)
      obtain ⟨w', a', k1, k2, k3⟩ := fin w _ hr1 hi.2.1 (fun _ _ _ => rfl) (fun k hk => frA_out (by omega) hk) (fun _ _ => rfl) (fun b hb => by
        rw [hno _ (by omega) (by omega), hf]
        exact ⟨fun q => absurd rfl q, fun q => absurd q (by decide)⟩)
      refine ⟨w', a', ?_, ?_, k3⟩
      · rw [hC, hH, hb, if_neg (by decide), bnd_s, if_pos rfl]
        exact k1
      · rw [hM, if_pos h25]
        exact k2
    · obtain ⟨w1, l1, l2⟩ := leave_ok (N := N) (by omega) h5 hi.2.1
      have hr1 : RW w1 (frA a (stN e) (stN e + szN e)) := RW_D hr l2.1 (fun k hk => frA_out (by omega) hk) (free_row l2 hr.2.2.1.2.1)
      obtain ⟨w', a', k1, k2, k3⟩ := fin w1 _ hr1 (leave_ID hi.2.1 l2) l2.1 (fun k hk => frA_out (by omega) hk) (fun q hq => by rw [l2.2.1, if_neg (by omega)]) (fun b hb => by
        rw [l2.2.1, if_pos (by omega), hf]
        exact ⟨fun q => absurd rfl q, fun q => absurd q (by decide)⟩)
      refine ⟨w', a', ?_, ?_, k3⟩
      · rw [hC, hH, hb, if_pos rfl, if_pos h25, bnd_s, if_neg (by decide), l1, bnd_s]
        exact k1
      · rw [hM, if_pos h25]
        exact k2
  · have h25 : ¬ w 25 i = 1 := by rw [h7, hf]; decide
    obtain ⟨w', a', k1, k2, k3⟩ := fin w a hr hi.2.1 (fun _ _ _ => rfl) (fun _ _ => rfl) (fun _ _ => rfl) (fun b hb => by
      rw [hi.2.2.2.2.1 e h5 b hb, hf]
      exact ⟨fun _ => rfl, fun _ => Or.inl hf⟩)
    refine ⟨w', a', ?_, ?_, k3⟩
    · rw [hC, hH]
      rcases h8 with hb | hb
      · rw [hb, if_neg (by decide), bnd_s, if_pos rfl]
        exact k1
      · rw [hb, if_pos rfl, if_neg h25, bnd_s, if_pos rfl]
        exact k1
    · rw [hM, if_neg h25]
      exact k2
