/-! THE PLAN MADE; A TICK; TICKS -/
theorem bgn_free {w : RS} {m e : Nat} (hb : ∀ j, j < m → w 26 j = 1) (h : bgn w m e = false) : ∀ i, i < m → w 24 i ≠ nI e := fun i hi q => by
  have : bgn w m e = true := bgn_iff.mpr ⟨i, hi, q, hb i hi⟩
  rw [h] at this
  cases this
/-- the new moves are added -/
theorem adds_ok {N m s n : Nat} (hN : 97 ≤ N) (hm : m ≤ 10) (hn : n ≤ 10) {w mm p : RS} {F a : Nat → Int32} {L : Nat → Nat} (hb : ∀ j, j < m → w 26 j = 1) (h23 : w 23 0 = nI m) (h12 : p 0 12 = nI n) (h9 : p 0 9 = nI s) (hs : same n L (p 8) F) (hL : LQ w m n L) :
    ∀ d j k k2 wj aj, n - j = d → j ≤ n → d < k → d < k2 → SM 0 w a wj aj → wj 23 0 = nI (m + j) → wj 3 = w 3 → (∀ i, i < m → wj 24 i = w 24 i) → (∀ i, i < j → wj 24 (m + i) = nI (L i)) → m + j ≤ 10 →
      ∃ w' a', fX10_makePlan_L65 N k (nI j) wj p = some (w', p) ∧ fX12_makePlan_L57 N k2 (nI s) (nI n) (nI j) (MM mm F aj) = some (MM mm F a') ∧ SM 0 w a w' a' := by
  intro d
  induction d with
  | zero =>
    intro j k k2 wj aj h1 h2 h3 h4 hS q1 q2 q3 q4 q5
    obtain ⟨k, rfl⟩ : ∃ j, k = j + 1 := ⟨k - 1, by omega⟩
    obtain ⟨k2, rfl⟩ : ∃ j, k2 = j + 1 := ⟨k2 - 1, by omega⟩
    have : j = n := by omega
    subst this
    obtain ⟨w', a', g1, g2, g3, -⟩ := wd_SM (mm := sr mm 6 F) hN hS.1 hS.2.1 3 (nI s) (nI j)
    refine ⟨w', a', ?_, ?_, (hS.tr g3).le (by omega)⟩
    · rw [fX10_makePlan_L65, h12, if_pos (nI_le (Nat.le_refl _) (by omega)), h9, g1, bnd_s]
    · rw [fX12_makePlan_L57, if_pos (nI_le (Nat.le_refl _) (by omega))]
      unfold MM
      rw [g2, bnd_s]
  | succ d ih =>
    intro j k k2 wj aj h1 h2 h3 h4 hS q1 q2 q3 q4 q5
    obtain ⟨k, rfl⟩ : ∃ j, k = j + 1 := ⟨k - 1, by omega⟩
    obtain ⟨k2, rfl⟩ : ∃ j, k2 = j + 1 := ⟨k2 - 1, by omega⟩
    have hj : j < n := by omega
    obtain ⟨l1, l2⟩ := hL.1 j hj
    obtain ⟨s1, s2⟩ := hs j hj
    have fr := bgn_free hb l2
    obtain ⟨w1, a1, g1, g2, g3, g4, g5, g6, g7, g8⟩ := add_SM (N := N) (mm := sr mm 6 F) q5 l1 hS.1 hS.2.1 q1 (fun i hi z => by
      by_cases c : i < m
      · rw [q3 i c] at z
        exact fr i c z
      · have := q4 (i - m) (by omega)
        rw [show m + (i - m) = i from by omega, z] at this
        have := hL.2 (i - m) (by omega) j hj ((eq_nI (by omega) (by have := (hL.1 (i - m) (by omega)).1; omega)).mp this).symm
        omega)
    have hm' : m + j < 10 := by
      obtain ⟨n', u1, u2, -⟩ := g3.2.1.2.2.2.1
      have := (eq_nI (by omega) (by omega)).mp (u2.symm.trans g4)
      omega
    obtain ⟨w', a', i1, i2, i3⟩ := ih (j + 1) k k2 w1 a1 (by omega) (by omega) (by omega) (by omega) ((hS.tr g3).le (by omega)) g4 (g5.trans q2) (fun i hi => (g6 i (by omega)).trans (q3 i hi)) (fun i hi => by
      by_cases c : i = j
      · subst c; exact g7
      · rw [g6 (m + i) (by omega)]; exact q4 i (by omega)) (by omega)
    refine ⟨w', a', ?_, ?_, i3⟩
    · rw [fX10_makePlan_L65, h12, if_neg (nI_ge (by omega) (by omega)), inb_nI (by omega) (by omega), ck_t, thn_e, cl_nI (by omega), s1, inb_nI l1 (by omega), ck_t, cl_nI (by omega), g1, bnd_s, j1]
      exact i1
    · rw [fX12_makePlan_L57, if_neg (nI_ge (by omega) (by omega)), inb_nI (by omega) (by omega), ck_t, cl_nI (n := j) (by omega), MM_6, s2]
      have g2' : fX12_addMove N (nI (L j)) (MM mm F aj) = some (MM mm F a1) := g2
      rw [g2', bnd_s, j1]
      exact i2
theorem plan_ok {N m : Nat} (hN : 2000 ≤ N) {w mm : RS} {a : Nat → Int32} (hm : m ≤ 10) (hr : RW w a) (hi : IW w) (h23 : w 23 0 = nI m) (hb : ∀ j, j < m → w 26 j = 1) (pp : RS) :
    ∃ w' a' p' F, planC N w pp = some (w', p') ∧ planM N (sr mm 1 a) = some (MM mm F a') ∧ SM 0 w a w' a' := by
  obtain ⟨bu, b1, b2⟩ := hi.2.2.2.2.2.2.2.1
  have e8 : a 8 = nI bu := ((row13_iff.mp hr.1).2.2.2.2.2.1).trans b2
  obtain ⟨p1, g1, g2, g3, g4⟩ := makeFor_ok (N := N) (bu := bu) (by omega) hm (by omega) hi h23 pp
  obtain ⟨z1, z2, z3, z4⟩ := bestW_ok hm hi h23 bu
  obtain ⟨n, p2, F, L, k1, k2, k3, k4, k5, k6, k7⟩ := list_ok (N := N) (mm := mm) (by omega) hm z2 hr hi h23 g2 g3
  obtain ⟨w', a', i1, i2, i3⟩ := adds_ok (N := N) (mm := mm) (a := a) (by omega) hm k7 hb h23 k3 k4 k5 k6 n 0 N N w a (by omega) (by omega) (by omega) (by omega) (SM.rf hr hi) h23 rfl (fun _ _ => rfl) (fun i hi2 => absurd hi2 (by omega)) hm
  refine ⟨w', a', p2, F, ?_, ?_, i3⟩
  · unfold planC
    rw [b2, g1, bnd_s, k1, bnd_s]
    exact i1
  · unfold planM
    rw [sr_e, e8, bestM (by omega) hm (by omega) hr hi h23, bnd_s]
    show (bnd (fX12_layNew N (bstR (bestW w m bu)) (sr mm 1 a)) fun r2 => fX12_makePlan_L57 N N (bstR (bestW w m bu)) r2.1 0 r2.2) = _
    rw [z4, k2, bnd_s]
    exact i2
theorem makePlan_ok {N : Nat} (hN : 2000 ≤ N) {w mm : RS} {a : Nat → Int32} (hr : RW w a) (hi : IW w) (pp : RS) :
    ∃ w' a' p' F, fX10_makePlan N w pp = some (w', p') ∧ fX12_makePlan N (sr mm 1 a) = some (MM mm F a') ∧ SM 0 w a w' a' := by
  obtain ⟨m, hm, em, -⟩ := hi.2.2.2.1
  obtain ⟨w1, a1, g1, g2, g3, g4⟩ := drops_ok (N := N) (mm := mm) (pp := pp) (by omega) m 0 N N w a m em hm (by omega) (by omega) (by omega) hr hi (fun j hj => absurd hj (by omega))
  obtain ⟨m1, hm1, em1, -⟩ := g3.2.1.2.2.2.1
  obtain ⟨w', a', p', F, k1, k2, k3⟩ := plan_ok (mm := mm) hN hm1 g3.1 g3.2.1 em1 (g4 m1 em1 hm1) pp
  refine ⟨w', a', p', F, ?_, ?_, (g3.tr k3).le (by omega)⟩
  · unfold fX10_makePlan
    rw [thn_e, em]
    exact g1.trans k1
  · exact g2.trans k2
theorem SM_s1 {w : RS} {a : Nat → Int32} {i : Nat} {x : Int32} (hi13 : i < 13) (h1 : i ≠ 1) (h3 : i ≠ 3) (h4 : i ≠ 4) (h5 : i ≠ 5) (h6 : i ≠ 6) (h7 : i ≠ 7) (h8 : i ≠ 8) (hr : RW w a) (hi : IW w) : SM 0 w a (sr w 1 (upd (w 1) i x)) (upd a (3 + i) x) :=
  ⟨RW_s1 hi13 hr, IW_row1 hi (fun c hc => sr_n hc) (fun j hj => by rw [sr_e, upd_n (by omega)]), fun k hk => upd_n (by omega), fun K hK => IK_cg (by rw [sr_e, upd_n (by omega)]) (by rw [sr_e, upd_n (by omega)]) (by rw [sr_e, upd_n (by omega)]) hK⟩
theorem MM_sr {mm : RS} {F a a' : Nat → Int32} : sr (MM mm F a) 1 a' = MM mm F a' := by unfold MM; rw [sr_sr]
/-- a tick -/
theorem tick_ok {N : Nat} (hN : 2000 ≤ N) {w mm : RS} {a : Nat → Int32} (hr : RW w a) (hi : IW w) (pp : RS) :
    ∃ w' a' p' F, fX10_tick N w pp = some (w', p') ∧ fX12_tick N (sr mm 1 a) = some (MM mm F a') ∧ SM 54 w a w' a' := by
  have c0 : a 3 = w 1 0 := (row13_iff.mp hr.1).1
  have h0 := SM_s1 (i := 0) (x := w 1 0 + 1) (by omega) (by omega) (by omega) (by omega) (by omega) (by omega) (by omega) (by omega) hr hi
  obtain ⟨w1, w2, a2, g1, g2, g3, g4⟩ := goMoves_ok (N := N) (mm := mm) (by omega) h0.1 h0.2.1
  have c2 : a2 3 = w2 1 0 := (row13_iff.mp g4.1.1).1
  have hC : fX10_tick N w pp = (if irem (w2 1 0) 4 = 0 then (bnd (fX10_makePlan N w2 pp) fun r4 => thn (st r4.1 1 2 ((r4.1 1 2) + 1)) fun ww_5 => bnd (fX2_age N ww_5) fun r6 => some (r6, r4.2)) else some (w2, pp)) := by
    unfold fX10_tick
    rw [thn_e, st_d, g1, bnd_s, g2, bnd_s]
  have hM : fX12_tick N (sr mm 1 a) = (if irem (w2 1 0) 4 = 0 then (bnd (fX12_endEpoch N (sr mm 1 a2)) fun r3 => some r3) else some (sr mm 1 a2)) := by
    unfold fX12_tick
    rw [thn_e, st_sr, sr_e, c0, g3, bnd_s, sr_e, c2]
  by_cases c : irem (w2 1 0) 4 = 0
  · rw [if_pos c] at hC hM
    obtain ⟨w3, a3, p3, F, k1, k2, k3⟩ := makePlan_ok (mm := mm) hN g4.1 g4.2.1 pp
    have c3 : a3 5 = w3 1 2 := (row13_iff.mp k3.1.1).2.2.1
    have h2 := SM_s1 (i := 2) (x := w3 1 2 + 1) (by omega) (by omega) (by omega) (by omega) (by omega) (by omega) (by omega) (by omega) k3.1 k3.2.1
    obtain ⟨w4, a4, t1, t2, t3⟩ := age_ok (N := N) (mm := sr mm 6 F) (by omega) h2.1 h2.2.1
    refine ⟨w4, a4, p3, F, ?_, ?_, ((((h0.tr g4).tr k3).tr h2).tr t3).le (by omega)⟩
    · rw [hC, k1, bnd_s, thn_e]
      show (bnd (fX2_age N (st w3 1 2 (w3 1 2 + 1))) fun r6 => some (r6, p3)) = _
      rw [st_d, t1, bnd_s]
    · rw [hM]
      unfold fX12_endEpoch
      rw [k2, bnd_s, thn_e]
      unfold MM
      rw [st_sr, sr_e, c3]
      show (bnd (fX12_endEpoch_L16 N N 0 (sr (sr mm 6 F) 1 (upd a3 (3 + 2) (w3 1 2 + 1)))) fun r3 => some r3) = _
      rw [t2, bnd_s]
  · rw [if_neg c] at hC hM
    exact ⟨w2, a2, pp, mm 6, hC, by rw [hM, MM_self], (h0.tr g4).le (by omega)⟩
/-- what a step by the reference may change of its cells -/
def fr6 (mm mm' : RS) : Prop := ∀ c, c ≠ 6 → mm' c = mm c
theorem fr6.rf {mm : RS} : fr6 mm mm := fun _ _ => rfl
theorem fr6.tr {m1 m2 m3 : RS} (h1 : fr6 m1 m2) (h2 : fr6 m2 m3) : fr6 m1 m3 := fun c hc => (h2 c hc).trans (h1 c hc)
theorem fr6.of {mm : RS} {F : Nat → Int32} : fr6 mm (sr mm 6 F) := fun c hc => sr_n hc
theorem ticks_ok {N n : Nat} (hN : 2000 ≤ N) (hn : n ≤ 8) {w mm : RS} {a : Nat → Int32} (hr : RW w a) (hi : IW w) (pp : RS) :
    ∃ w' a' p' mm', fX10_pass N (nI n) w pp = some (w', p') ∧ fX12_ticks N (nI n) (sr mm 1 a) = some (sr mm' 1 a') ∧ SM (54 * n) w a w' a' ∧ fr6 mm mm' := by
  have key : ∀ d i k k2 w1 a1 p1 m1, n - i = d → i ≤ n → d < k → d < k2 → SM (54 * i) w a w1 a1 → fr6 mm m1 →
      ∃ w' a' p' mm', fX10_pass_L2 N (nI n) k (nI i) w1 p1 = some (w', p') ∧ fX12_ticks_L2 N (nI n) k2 (nI i) (sr m1 1 a1) = some (sr mm' 1 a') ∧ SM (54 * n) w a w' a' ∧ fr6 mm mm' := by
    intro d
    induction d with
    | zero =>
      intro i k k2 w1 a1 p1 m1 h1 h2 h3 h4 hs hf
      obtain ⟨k, rfl⟩ : ∃ j, k = j + 1 := ⟨k - 1, by omega⟩
      obtain ⟨k2, rfl⟩ : ∃ j, k2 = j + 1 := ⟨k2 - 1, by omega⟩
      refine ⟨w1, a1, p1, m1, ?_, ?_, hs.le (by omega), hf⟩
      · rw [fX10_pass_L2, if_pos (nI_le (by omega) (by omega))]
      · rw [fX12_ticks_L2, if_pos (nI_le (by omega) (by omega))]
    | succ d ih =>
      intro i k k2 w1 a1 p1 m1 h1 h2 h3 h4 hs hf
      obtain ⟨k, rfl⟩ : ∃ j, k = j + 1 := ⟨k - 1, by omega⟩
      obtain ⟨k2, rfl⟩ : ∃ j, k2 = j + 1 := ⟨k2 - 1, by omega⟩
      obtain ⟨w2, a2, p2, F, g1, g2, g3⟩ := tick_ok (mm := m1) hN hs.1 hs.2.1 p1
      obtain ⟨w', a', p', mm', i1, i2, i3, i4⟩ := ih (i + 1) k k2 w2 a2 p2 (sr m1 6 F) (by omega) (by omega) (by omega) (by omega) ((hs.tr g3).le (by omega)) (hf.tr fr6.of)
      refine ⟨w', a', p', mm', ?_, ?_, i3, i4⟩
      · rw [fX10_pass_L2, if_neg (nI_ge (by omega) (by omega)), g1, bnd_s, j1]
        exact i1
      · rw [fX12_ticks_L2, if_neg (nI_ge (by omega) (by omega)), g2, bnd_s, j1]
        exact i2
  exact key n 0 N N w a pp mm rfl (by omega) (by omega) (by omega) (SM.rf hr hi) fr6.rf
