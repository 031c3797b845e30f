/-! MOVES THAT BEGIN -/
def SM (n : Nat) (w : RS) (a : Nat → Int32) (w' : RS) (a' : Nat → Int32) : Prop := RW w' a' ∧ IW w' ∧ FA a a' ∧ ∀ K, IK K w → IK (K + n) w'
theorem SM.rf {w : RS} {a : Nat → Int32} (hr : RW w a) (hi : IW w) : SM 0 w a w a := ⟨hr, hi, FA.rf, fun _ h => h⟩
theorem SM.tr {n m : Nat} {w w1 w2 : RS} {a a1 a2 : Nat → Int32} (h1 : SM n w a w1 a1) (h2 : SM m w1 a1 w2 a2) : SM (n + m) w a w2 a2 :=
  ⟨h2.1, h2.2.1, h1.2.2.1.tr h2.2.2.1, fun K h => by rw [← Nat.add_assoc]; exact h2.2.2.2 _ (h1.2.2.2 K h)⟩
theorem SM.le {n m : Nat} {w w1 : RS} {a a1 : Nat → Int32} (h : SM n w a w1 a1) (hm : n ≤ m) : SM m w a w1 a1 := ⟨h.1, h.2.1, h.2.2.1, fun K hk => IK_le (h.2.2.2 K hk) (by omega)⟩
theorem SC.sm {n : Nat} {w w1 : RS} {a a1 : Nat → Int32} (h : SC n w a w1 a1) : SM n w a w1 a1 := ⟨h.1, h.2.1, h.2.2.1, h.2.2.2.2⟩
theorem IK_cg {K : Nat} {w w' : RS} (h1 : w' 1 3 = w 1 3) (h2 : w' 1 7 = w 1 7) (h3 : w' 1 8 = w 1 8) (h : IK K w) : IK K w' := by
  unfold IK at *
  rw [h1, h2, h3]
  exact h
theorem wd_RW {N : Nat} (hN : 97 ≤ N) {w mm : RS} {a : Nat → Int32} (hr : RW w a) (hi : IW w) (x1 x2 x3 : Int32) :
    ∃ w' a', fX10_writeDown N x1 x2 x3 w = some w' ∧ fX12_writeDown N x1 x2 x3 (sr mm 1 a) = some (sr mm 1 a') ∧ RW w' a' ∧ IW w' ∧ FA a a' ∧ (∀ c, c < 28 → w' c = w c) := by
  obtain ⟨w', a', h1, h2, h3, h4, h5⟩ := wd_ok (mm := mm) hN (row13_iff.mp hr.1).1 hr.2.2.2.2.2.2 x1 x2 x3
  exact ⟨w', a', h1, h2, RW_B hr h4 h5 h3, IW_cg hi (fun c hc => h4 c (by omega) (by omega)) (fun i _ => by rw [h4 1 (by decide) (by decide)]), fun k hk => h5 k (by omega) (by omega), fun c hc => h4 c (by omega) (by omega)⟩
theorem wd_SM {N : Nat} (hN : 97 ≤ N) {w mm : RS} {a : Nat → Int32} (hr : RW w a) (hi : IW w) (x1 x2 x3 : Int32) :
    ∃ w' a', fX10_writeDown N x1 x2 x3 w = some w' ∧ fX12_writeDown N x1 x2 x3 (sr mm 1 a) = some (sr mm 1 a') ∧ SM 0 w a w' a' ∧ (∀ c, c < 28 → w' c = w c) := by
  obtain ⟨w', a', h1, h2, h3, h4, h5, h6⟩ := wd_RW (mm := mm) hN hr hi x1 x2 x3
  exact ⟨w', a', h1, h2, ⟨h3, h4, h5, fun K hK => IK_cg (by rw [h6 1 (by decide)]) (by rw [h6 1 (by decide)]) (by rw [h6 1 (by decide)]) hK⟩, h6⟩
theorem RW_s26 {w : RS} {a : Nat → Int32} {i m : Nat} {x : Int32} (hm : w 23 0 = nI m) (hm2 : m ≤ 10) (hi : i < m) (h : RW w a) : RW (sr w 26 (upd (w 26) i x)) (upd a (202 + 4 * i) x) := by
  obtain ⟨n, v1, v2, v3, v4, v5, v6, v7⟩ := h.2.2.2.2.2.1
  have e : n = m := (eq_nI (by omega) (by omega)).mp (v2.symm.trans hm)
  subst e
  refine RW_V h (fun c hc => sr_n (by omega)) (fun k k1 k2 => upd_n (by omega)) ?_
  exact ⟨n, v1, by rw [sr_n (by decide)]; exact v2, by rw [upd_n (by omega)]; exact v3, by rw [sr_n (by decide)]; exact rws_out (by omega) v4, by rw [sr_n (by decide)]; exact rws_out (by omega) v5, by rw [sr_e]; exact rws_set (by omega) rfl v6, by rw [sr_n (by decide)]; exact rws_out (by omega) v7⟩
/-- what is known of the i-th move -/
def mvI (w : RS) (a : Nat → Int32) (m i e : Nat) : Prop := m ≤ 10 ∧ w 23 0 = nI m ∧ a 17 = nI m ∧ i < m ∧ e < 10 ∧ w 24 i = nI e ∧ w 25 i = 1 - w 3 e ∧ bit1 (w 26 i) ∧ a (200 + 4 * i) = nI e ∧ a (200 + 4 * i + 1) = w 25 i ∧ a (200 + 4 * i + 2) = w 26 i ∧ a (200 + 4 * i + 3) = w 27 i ∧ ∀ j, j < m → w 24 j = nI e → j = i
theorem mv_ex {w : RS} {a : Nat → Int32} {m i : Nat} (hr : RW w a) (hi : IW w) (hm : w 23 0 = nI m) (hm2 : m ≤ 10) (h : i < m) : ∃ e, mvI w a m i e := by
  obtain ⟨n, v1, v2, v3, v4, v5, v6, v7⟩ := hr.2.2.2.2.2.1
  have e1 : n = m := (eq_nI (by omega) (by omega)).mp (v2.symm.trans hm)
  subst e1
  obtain ⟨n', u1, u2, u3, u4⟩ := hi.2.2.2.1
  have e2 : n' = n := (eq_nI (by omega) (by omega)).mp (u2.symm.trans hm)
  subst e2
  obtain ⟨e, he, h1, h2, h3⟩ := u3 i h
  exact ⟨e, hm2, hm, v3, h, he, h1, h2, h3, (v4 i h).trans h1, by rw [show 200 + 4 * i + 1 = 201 + 4 * i from by omega]; exact v5 i h, by rw [show 200 + 4 * i + 2 = 202 + 4 * i from by omega]; exact v6 i h, by rw [show 200 + 4 * i + 3 = 203 + 4 * i from by omega]; exact v7 i h, fun j hj q => u4 j hj i h (q.trans h1.symm)⟩
theorem ofM {N i c : Nat} {mm : RS} {a : Nat → Int32} (hi : i < 10) (hc : c < 4) : fX12_ofMove N (nI i) (nI c) (sr mm 1 a) = some (a (200 + 4 * i + c)) := by
  unfold fX12_ofMove
  rw [m4, i200, nI_add, inb_nI (by omega) (by omega), ck_t, cl_nI (by omega), sr_e]
theorem HSl_iff {w : RS} {m e : Nat} (hm : w 23 0 = nI m) (hm2 : m ≤ 10) : HSl w e ↔ (w 3 e = 1 ∨ ∃ i, i < m ∧ w 24 i = nI e ∧ w 26 i = 1) := by
  constructor
  · rintro (h | ⟨n, i, h1, h2, h3, h4, h5⟩)
    · exact Or.inl h
    · have q : n = m := (eq_nI (by omega) (by omega)).mp (h2.symm.trans hm)
      subst q
      exact Or.inr ⟨i, h3, h4, h5⟩
  · rintro (h | ⟨i, h3, h4, h5⟩)
    · exact Or.inl h
    · exact Or.inr ⟨m, i, hm2, hm, h3, h4, h5⟩
/-- a move that isn't begun, to fast: its extent has no slots -/
theorem mv_none {w : RS} {a : Nat → Int32} {m i e : Nat} (hi : IW w) (h : mvI w a m i e) (hb : w 26 i = 0) (hf : w 3 e = 0) : ∀ q, stN e ≤ q → q < stN e + szN e → w 18 q = -1 := by
  obtain ⟨h1, h2, h3, h4, h5, h6, h7, h8, h9, h10, h11, h12, h13⟩ := h
  intro q q1 q2
  by_cases c : w 18 q = -1
  · exact c
  · exfalso
    have := (hi.2.2.2.2.1 e h5 (q - stN e) (by omega)).mp (by rw [show stN e + (q - stN e) = q from by omega]; exact c)
    rcases (HSl_iff h2 h1).mp this with z | ⟨j, j1, j2, j3⟩
    · rw [hf] at z; exact absurd z (by decide)
    · have := h13 j j1 j2
      subst this
      rw [hb] at j3
      exact absurd j3 (by decide)
/-- the i-th move is begun now -/
theorem begun_IW {w w' : RS} {a : Nat → Int32} {m i e : Nat} (hi : IW w) (h : mvI w a m i e) (hD : ID w') (hw : ∀ c, c ≠ 18 → c ≠ 19 → c ≠ 26 → w' c = w c) (h26 : w' 26 = upd (w 26) i 1)
    (h18 : ∀ q, (q < stN e ∨ stN e + szN e ≤ q) → w' 18 q = w 18 q) (h18e : ∀ q, stN e ≤ q → q < stN e + szN e → w' 18 q ≠ -1) : IW w' := by
  obtain ⟨h1, h2, h3, h4, h5, h6, h7, h8, h9, h10, h11, h12, h13⟩ := h
  obtain ⟨iX, iD, iH, iV, iS, iC⟩ := hi
  have g3 := hw 3 (by decide) (by decide) (by decide)
  have g23 := hw 23 (by decide) (by decide) (by decide)
  have g24 := hw 24 (by decide) (by decide) (by decide)
  have g25 := hw 25 (by decide) (by decide) (by decide)
  refine ⟨IX_cg (fun c hc => hw c (by omega) (by omega) (by omega)) iX, hD, IH_cg (hw 20 (by decide) (by decide) (by decide)) (hw 21 (by decide) (by decide) (by decide)) iH, ?_, ?_, IC_cg (fun k _ => by rw [hw 1 (by decide) (by decide) (by decide)]) iC⟩
  · obtain ⟨n, u1, u2, u3, u4⟩ := iV
    refine ⟨n, u1, by rw [g23]; exact u2, fun j hj => ?_, by rw [g24]; exact u4⟩
    obtain ⟨f, f1, f2, f3, f4⟩ := u3 j hj
    refine ⟨f, f1, by rw [g24]; exact f2, by rw [g25, g3]; exact f3, ?_⟩
    rw [h26]
    by_cases c : j = i
    · subst c; rw [upd_e]; exact Or.inr rfl
    · rw [upd_n c]; exact f4
  · intro f hf b hb
    by_cases c : f = e
    · subst c
      have : HSl w' f := (HSl_iff (by rw [g23]; exact h2) h1).mpr (Or.inr ⟨i, h4, by rw [g24]; exact h6, by rw [h26, upd_e]⟩)
      exact ⟨fun _ => this, fun _ => h18e _ (by omega) (by omega)⟩
    · have hq : w' 18 (stN f + b) = w 18 (stN f + b) := by
        apply h18
        by_cases q : stN e ≤ stN f + b ∧ stN f + b < stN e + szN e
        · exact absurd (pos_inj hf hb h5 (c := stN f + b - stN e) (by omega) (by omega)).1 c
        · omega
      rw [hq, iS f hf b hb, HSl_iff h2 h1, HSl_iff (w := w') (by rw [g23]; exact h2) h1, g3, g24, h26]
      constructor
      · rintro (z | ⟨j, j1, j2, j3⟩)
        · exact Or.inl z
        · refine Or.inr ⟨j, j1, j2, ?_⟩
          by_cases q : j = i
          · subst q; rw [upd_e]
          · rw [upd_n q]; exact j3
      · rintro (z | ⟨j, j1, j2, j3⟩)
        · exact Or.inl z
        · refine Or.inr ⟨j, j1, j2, ?_⟩
          by_cases q : j = i
          · subst q
            exact absurd ((eq_nI (by omega) (by omega)).mp (j2.symm.trans h6)) c
          · rw [upd_n q] at j3; exact j3
theorem begin_ok {N : Nat} (hN : 97 ≤ N) {w mm : RS} {a : Nat → Int32} {m i e : Nat} (hr : RW w a) (hi : IW w) (h : mvI w a m i e) (hb : w 26 i = 0) :
    ∃ r w' a', fX10_begin N (nI i) w = some (r, w') ∧ fX12_isBegun N (nI i) (sr mm 1 a) = some (r, sr mm 1 a') ∧ SM 0 w a w' a' ∧ w' 3 = w 3 ∧ w' 1 = w 1 ∧ w' 23 = w 23 ∧ ((r = 0 ∧ w' = w ∧ a' = a) ∨ (r = 1 ∧ w' 26 i = 1)) := by
  have h' := h
  obtain ⟨h1, h2, h3, h4, h5, h6, h7, h8, h9, h10, h11, h12, h13⟩ := h
  have hc0 : ∀ X, fX10_begin N (nI i) w = X ↔ (if (w 25 i) = 1 then (bnd (fX1_freeSlots N w) fun r3 => ck (inb (nI e) 10) <| if (sizeT (nI e).toNatClampNeg) ≤ r3 then (bnd (fX1_takeSlots N (nI e) w) fun r5 => fX10_begin_L48 N (nI i) (nI e) r5) else (some (0, w))) else (fX10_begin_L48 N (nI i) (nI e) w)) = X := by
    intro X
    unfold fX10_begin
    rw [inb_nI (by omega) (by omega), ck_t, thn_e, cl_nI (by omega), h6]
  have hm0 : ∀ X, fX12_isBegun N (nI i) (sr mm 1 a) = X ↔ (if w 25 i = 1 then (bnd (fX12_manyFree N (sr mm 1 a)) fun r4 => if (fX12_sizeOf (nI e)) ≤ r4 then (fX12_isBegun_L44 N (nI i) N (nI e) 0 (sr mm 1 a)) else (some (0, sr mm 1 a))) else (fX12_isBegun_L78 N (nI i) (nI e) (sr mm 1 a))) = X := by
    intro X
    have q2 := @ofM N i 2 mm a (by omega) (by omega)
    have q0 := @ofM N i 0 mm a (by omega) (by omega)
    have q1 := @ofM N i 1 mm a (by omega) (by omega)
    rw [h11, hb] at q2
    rw [Nat.add_zero, h9] at q0
    rw [h10] at q1
    have q2' : fX12_ofMove N (nI i) 2 (sr mm 1 a) = some 0 := q2
    have q1' : fX12_ofMove N (nI i) 1 (sr mm 1 a) = some (w 25 i) := q1
    have q0' : fX12_ofMove N (nI i) 0 (sr mm 1 a) = some (nI e) := q0
    unfold fX12_isBegun
    rw [q2', bnd_s, if_neg (by decide), q0', bnd_s, q1', bnd_s]
  have L48 : ∀ w1, w1 25 = w 25 → fX10_begin_L48 N (nI i) (nI e) w1 = bnd (fX10_writeDown N 0 (nI e) (w 25 i) (sr w1 26 (upd (w1 26) i 1))) fun r3 => some (1, r3) := by
    intro w1 q
    unfold fX10_begin_L48
    rw [inb_nI (by omega) (by omega), ck_t, thn_e, cl_nI (by omega), st_d, sr_n (by decide), q]
  have L78 : ∀ a1, a1 (200 + 4 * i + 1) = w 25 i → fX12_isBegun_L78 N (nI i) (nI e) (sr mm 1 a1) = bnd (fX12_writeDown N 0 (nI e) (w 25 i) (sr mm 1 (upd a1 (202 + 4 * i) 1))) fun r4 => some (1, r4) := by
    intro a1 q
    have q1 := @ofM N i 1 mm (upd a1 (202 + 4 * i) 1) (by omega) (by omega)
    rw [upd_n (by omega), q] at q1
    have q1' : fX12_ofMove N (nI i) 1 (sr mm 1 (upd a1 (202 + 4 * i) 1)) = some (w 25 i) := q1
    unfold fX12_isBegun_L78
    rw [m4, i200, j2, inb_nI (by omega) (by omega), ck_t, thn_e, cl_nI (by omega), st_sr, show 200 + 4 * i + 2 = 202 + 4 * i from by omega, q1', bnd_s]
  have fin : ∀ w1 a1, RW w1 a1 → IW (sr w1 26 (upd (w1 26) i 1)) → FA a a1 → w1 3 = w 3 → w1 1 = w 1 → w1 23 = w 23 → ∃ w' a', (bnd (fX10_writeDown N 0 (nI e) (w 25 i) (sr w1 26 (upd (w1 26) i 1))) fun r3 => some ((1 : Int32), r3)) = some (1, w') ∧ (bnd (fX12_writeDown N 0 (nI e) (w 25 i) (sr mm 1 (upd a1 (202 + 4 * i) 1))) fun r4 => some ((1 : Int32), r4)) = some (1, sr mm 1 a') ∧ SM 0 w a w' a' ∧ w' 3 = w 3 ∧ w' 1 = w 1 ∧ w' 23 = w 23 ∧ w' 26 i = 1 := by
    intro w1 a1 g1 g2 g3 g4 g5 g6
    obtain ⟨w', a', k1, k2, k3, k4⟩ := wd_SM (mm := mm) hN (RW_s26 (x := 1) (by rw [g6]; exact h2) h1 h4 g1) g2 0 (nI e) (w 25 i)
    refine ⟨w', a', by rw [k1]; rfl, by rw [k2]; rfl, ⟨k3.1, k3.2.1, fun k hk => ?_, fun K hK => k3.2.2.2 K (IK_cg ?_ ?_ ?_ hK)⟩, ?_, ?_, ?_, ?_⟩
    · rw [k3.2.2.1 k hk, upd_n (by omega)]
      exact g3 k hk
    · rw [sr_n (by decide), g5]
    · rw [sr_n (by decide), g5]
    · rw [sr_n (by decide), g5]
    · rw [k4 3 (by decide), sr_n (by decide), g4]
    · rw [k4 1 (by decide), sr_n (by decide), g5]
    · rw [k4 23 (by decide), sr_n (by decide), g6]
    · rw [k4 26 (by decide), sr_e, upd_e]
  rcases hi.1.1 e h5 with hf | hf
  · have h25 : w 25 i = 1 := by rw [h7, hf]; rfl
    have hF := freeSlots_ok (by omega : 10 ≤ N) (w := w)
    have hM := manyFreeM_ok (mm := mm) (by omega : 24 ≤ N) hr.2.2.1.2.1 hi.2.1
    have hz := szN_le e
    have hu := free_used w 9
    by_cases c : szN e ≤ sN 9 fun s => fre (w 19 s)
    · obtain ⟨w1, a1, t1, t2, t0, t3⟩ := take_ok (x1 := nI i) (mm := mm) (by omega : 24 ≤ N) h5 (mv_none hi h' hb hf) hr.2.2.1.2.1 hi.2.1 c
      obtain ⟨g1, g2, g3, g4, g5, g6, g7, g8⟩ := t3
      have hrw1 : RW w1 a1 := RW_D hr g1 g2 g3
      have hiw1 : IW (sr w1 26 (upd (w1 26) i 1)) := by
        refine begun_IW hi h' (ID_cg (sr_n (by decide)) (sr_n (by decide)) g4) (fun c c1 c2 c3 => by rw [sr_n c3]; exact g1 c c1 c2) ?_ (fun q hq => by rw [sr_n (by decide)]; exact g7 q hq) (fun q q1 q2 => by rw [sr_n (by decide)]; exact g8 q q1 q2)
        rw [sr_e, g1 26 (by decide) (by decide)]
      obtain ⟨w', a', k1, k2, k3, k4, k5, k6, k7⟩ := fin w1 a1 hrw1 hiw1 (fun k hk => g2 k (by omega)) (g1 3 (by decide) (by decide)) (g1 1 (by decide) (by decide)) (g1 23 (by decide) (by decide))
      refine ⟨1, w', a', ?_, ?_, k3, k4, k5, k6, Or.inr ⟨rfl, k7⟩⟩
      · rw [hc0, if_pos h25, hF, bnd_s, inb_nI h5 (by omega), ck_t, cl_nI (by omega), sizeT_N e h5, if_pos (nI_le c (by omega)), t1, bnd_s, L48 w1 (g1 25 (by decide) (by decide))]
        exact k1
      · rw [hm0, if_pos h25, hM, bnd_s, sizeM_N e h5, if_pos (nI_le c (by omega)), t2, L78 a1 (by rw [g2 _ (by omega)]; exact h10)]
        exact k2
    · refine ⟨0, w, a, ?_, ?_, SM.rf hr hi, rfl, rfl, rfl, Or.inl ⟨rfl, rfl, rfl⟩⟩
      · rw [hc0, if_pos h25, hF, bnd_s, inb_nI h5 (by omega), ck_t, cl_nI (by omega), sizeT_N e h5, if_neg (nI_ge (by omega) (by omega))]
      · rw [hm0, if_pos h25, hM, bnd_s, sizeM_N e h5, if_neg (nI_ge (by omega) (by omega))]
  · have h25 : ¬ w 25 i = 1 := by rw [h7, hf]; decide
    have hiw1 : IW (sr w 26 (upd (w 26) i 1)) := by
      refine begun_IW hi h' (ID_cg (sr_n (by decide)) (sr_n (by decide)) hi.2.1) (fun c c1 c2 c3 => sr_n c3) sr_e (fun q hq => by rw [sr_n (by decide)]) (fun q q1 q2 => ?_)
      rw [sr_n (by decide)]
      have := (hi.2.2.2.2.1 e h5 (q - stN e) (by omega)).mpr (Or.inl hf)
      rw [show stN e + (q - stN e) = q from by omega] at this
      exact this
    obtain ⟨w', a', k1, k2, k3, k4, k5, k6, k7⟩ := fin w a hr hiw1 FA.rf rfl rfl rfl
    refine ⟨1, w', a', ?_, ?_, k3, k4, k5, k6, Or.inr ⟨rfl, k7⟩⟩
    · rw [hc0, if_neg h25, L48 w rfl]
      exact k1
    · rw [hm0, if_neg h25, L78 a h10]
      exact k2
