/-! LOOPS over moves and extents: switched whole, dropped, aged -/
theorem m17_of {w : RS} {a : Nat → Int32} {m : Nat} (hr : RW w a) (hm : w 23 0 = nI m) : a 17 = nI m := by
  obtain ⟨n, v1, v2, v3, -⟩ := hr.2.2.2.2.2.1
  exact v3.trans (v2.symm.trans hm)
theorem mvI_26 {N : Nat} {w mm : RS} {a : Nat → Int32} {m i e : Nat} (h : mvI w a m i e) : fX12_ofMove N (nI i) 2 (sr mm 1 a) = some (w 26 i) := by
  have q2 := @ofM N i 2 mm a (by have := h.1; have := h.2.2.2.1; omega) (by omega)
  rw [h.2.2.2.2.2.2.2.2.2.2.1] at q2
  exact q2
theorem RW_79 {w : RS} {a : Nat → Int32} {e : Nat} (hr : RW w a) (he : e < 10) : a (79 + e) = w 6 e := hr.2.1.2.2.2.1 e he
theorem whole_ok {N : Nat} (hN : 97 ≤ N) {mm : RS} :
    ∀ left i k k2 w a m, w 23 0 = nI m → m ≤ 10 → i + left = m → left < k → left < k2 → RW w a → IW w →
      ∃ w' a', fX10_switchWhole_L10 N k (nI i) (nI left) w = some w' ∧ fX12_goMoves_L67 N k2 (nI i) (sr mm 1 a) = some (sr mm 1 a') ∧ SM 0 w a w' a' := by
  intro left
  induction left with
  | zero =>
    intro i k k2 w a m hm hm2 h1 h2 h3 hr hi
    obtain ⟨k, rfl⟩ : ∃ j, k = j + 1 := ⟨k - 1, by omega⟩
    obtain ⟨k2, rfl⟩ : ∃ j, k2 = j + 1 := ⟨k2 - 1, by omega⟩
    refine ⟨w, a, ?_, ?_, SM.rf hr hi⟩
    · rw [fX10_switchWhole_L10, if_pos (show nI 0 ≤ 0 from by decide)]
    · rw [fX12_goMoves_L67, sr_e, m17_of hr hm, if_pos (nI_le (by omega) (by omega))]
  | succ left ih =>
    intro i k k2 w a m hm hm2 h1 h2 h3 hr hi
    obtain ⟨k, rfl⟩ : ∃ j, k = j + 1 := ⟨k - 1, by omega⟩
    obtain ⟨k2, rfl⟩ : ∃ j, k2 = j + 1 := ⟨k2 - 1, by omega⟩
    obtain ⟨e, hv⟩ := mv_ex hr hi hm hm2 (by omega : i < m)
    have he := hv.2.2.2.2.1
    have hC : fX10_switchWhole_L10 N (k + 1) (nI i) (nI (left + 1)) w = (if w 26 i = 1 then (if tcW w i e = 0 then (bnd (fX10_switchOver N (nI i) w) fun r3 => fX10_switchWhole_L10 N k (nI i) (nI left) r3) else (fX10_switchWhole_L10 N k (nI (i + 1)) (nI left) w)) else (fX10_switchWhole_L10 N k (nI (i + 1)) (nI left) w)) := by
      have e1 : nI (left + 1) + (-1) = nI left := by rw [n1 (by omega)]; rfl
      rw [fX10_switchWhole_L10, if_neg (fun q => absurd ((ge_0 (by omega)).mp q) (by omega)), inb_nI (by omega) (by omega), ck_t, cl_nI (by omega), tcC hv, bnd_s]
      unfold fX10_switchWhole_L43 fX10_switchWhole_L46
      rw [e1, j1]
    have hM : fX12_goMoves_L67 N (k2 + 1) (nI i) (sr mm 1 a) = (if w 26 i = 1 then (if tcW w i e = 0 then (bnd (fX12_switchMove N (nI i) (sr mm 1 a)) fun r3 => fX12_goMoves_L67 N k2 (nI i) r3) else (fX12_goMoves_L67 N k2 (nI (i + 1)) (sr mm 1 a))) else (fX12_goMoves_L67 N k2 (nI (i + 1)) (sr mm 1 a))) := by
      rw [fX12_goMoves_L67, sr_e, m17_of hr hm, if_neg (nI_ge (by omega) (by omega)), mvI_26 hv, bnd_s, tcM hv (hi.1.1 e he) (RW_79 hr he), bnd_s]
      unfold fX12_goMoves_L104
      rw [j1]
    have next : ∃ w' a', fX10_switchWhole_L10 N k (nI (i + 1)) (nI left) w = some w' ∧ fX12_goMoves_L67 N k2 (nI (i + 1)) (sr mm 1 a) = some (sr mm 1 a') ∧ SM 0 w a w' a' := ih (i + 1) k k2 w a m hm hm2 (by omega) (by omega) (by omega) hr hi
    by_cases c : w 26 i = 1
    · rw [if_pos c] at hC hM
      by_cases c2 : tcW w i e = 0
      · rw [if_pos c2] at hC hM
        obtain ⟨w1, a1, g1, g2, g3, g4⟩ := switch_ok (mm := mm) hN hr hi hv c
        obtain ⟨w', a', p1, p2, p3⟩ := ih i k k2 w1 a1 (m - 1) g4 (by omega) (by omega) (by omega) (by omega) g3.1 g3.2.1
        rw [g1, bnd_s] at hC
        rw [g2, bnd_s] at hM
        exact ⟨w', a', hC.trans p1, hM.trans p2, g3.tr p3⟩
      · rw [if_neg c2] at hC hM
        obtain ⟨w', a', p1, p2, p3⟩ := next
        exact ⟨w', a', hC.trans p1, hM.trans p2, p3⟩
    · rw [if_neg c] at hC hM
      obtain ⟨w', a', p1, p2, p3⟩ := next
      exact ⟨w', a', hC.trans p1, hM.trans p2, p3⟩
/-- all that is moved in a tick -/
theorem goMoves_ok {N : Nat} (hN : 97 ≤ N) {w mm : RS} {a : Nat → Int32} (hr : RW w a) (hi : IW w) :
    ∃ w1 w' a', fX10_moveBlocks N w = some w1 ∧ fX10_switchWhole N w1 = some w' ∧ fX12_goMoves N (sr mm 1 a) = some (sr mm 1 a') ∧ SM 54 w a w' a' := by
  obtain ⟨p, hp, ep⟩ := hi.2.2.2.2.2.2.1
  obtain ⟨m, hm, em, -⟩ := hi.2.2.2.1
  have e7 : a 7 = nI p := ((row13_iff.mp hr.1).2.2.2.2.1).trans ep
  obtain ⟨w1, a1, g1, g2, g3⟩ := moving_ok (mm := mm) hN hm m 0 p N N w a (by omega) (by omega) (by omega) (by omega) (by omega) hr hi em
  obtain ⟨m', hm', em', -⟩ := g3.2.1.2.2.2.1
  obtain ⟨w', a', k1, k2, k3⟩ := whole_ok (mm := mm) hN m' 0 N N w1 a1 m' em' hm' (by omega) (by omega) (by omega) g3.1 g3.2.1
  refine ⟨w1, w', a', ?_, ?_, ?_, (g3.tr k3).le (by omega)⟩
  · unfold fX10_moveBlocks
    rw [thn_e, ep]
    exact g1
  · unfold fX10_switchWhole
    rw [thn_e, em']
    exact k1
  · unfold fX12_goMoves
    rw [thn_e, sr_e, e7]
    refine g2.trans ?_
    unfold fX12_goMoves_L65
    exact k2
/-! drops ahead of a plan -/
def planC (N : Nat) (w pp : RS) : Option (RS × RS) := bnd (fX6_makeFor N (w 1 5) w pp) fun r1 => bnd (fX6_listMoves N w r1) fun r2 => fX10_makePlan_L65 N N 0 w r2
def planM (N : Nat) (mm : RS) : Option RS := bnd (fX12_bestSet N (mm 1 8) mm) fun r1 => bnd (fX12_layNew N r1 mm) fun r2 => fX12_makePlan_L57 N N r1 r2.1 0 r2.2
theorem drops_ok {N : Nat} (hN : 97 ≤ N) {mm pp : RS} :
    ∀ left i k k2 w a m, w 23 0 = nI m → m ≤ 10 → i + left = m → left < k → left < k2 → RW w a → IW w → (∀ j, j < i → w 26 j = 1) →
      ∃ w' a', fX10_makePlan_L10 N k (nI i) (nI left) w pp = planC N w' pp ∧ fX12_makePlan_L2 N k2 (nI i) (sr mm 1 a) = planM N (sr mm 1 a') ∧ SM 0 w a w' a' ∧ ∀ m', w' 23 0 = nI m' → m' ≤ 10 → ∀ j, j < m' → w' 26 j = 1 := by
  intro left
  induction left with
  | zero =>
    intro i k k2 w a m hm hm2 h1 h2 h3 hr hi hb
    obtain ⟨k, rfl⟩ : ∃ j, k = j + 1 := ⟨k - 1, by omega⟩
    obtain ⟨k2, rfl⟩ : ∃ j, k2 = j + 1 := ⟨k2 - 1, by omega⟩
    refine ⟨w, a, ?_, ?_, SM.rf hr hi, fun m' q1 q2 j hj => hb j ?_⟩
    · rw [fX10_makePlan_L10, if_pos (show nI 0 ≤ 0 from by decide)]
      rfl
    · rw [fX12_makePlan_L2, sr_e, m17_of hr hm, if_pos (nI_le (by omega) (by omega))]
      unfold planM
      rw [sr_e]
    · have : m' = m := (eq_nI (by omega) (by omega)).mp (q1.symm.trans hm)
      omega
  | succ left ih =>
    intro i k k2 w a m hm hm2 h1 h2 h3 hr hi hb
    obtain ⟨k, rfl⟩ : ∃ j, k = j + 1 := ⟨k - 1, by omega⟩
    obtain ⟨k2, rfl⟩ : ∃ j, k2 = j + 1 := ⟨k2 - 1, by omega⟩
    obtain ⟨e, hv⟩ := mv_ex hr hi hm hm2 (by omega : i < m)
    have hC : fX10_makePlan_L10 N (k + 1) (nI i) (nI (left + 1)) w pp = (if w 26 i = 1 then (fX10_makePlan_L10 N k (nI (i + 1)) (nI left) w pp) else (bnd (fX10_dropMove N (nI i) w) fun r4 => fX10_makePlan_L10 N k (nI i) (nI left) r4 pp)) := by
      have e1 : nI (left + 1) + (-1) = nI left := by rw [n1 (by omega)]; rfl
      rw [fX10_makePlan_L10, if_neg (fun q => absurd ((ge_0 (by omega)).mp q) (by omega)), inb_nI (by omega) (by omega), ck_t, cl_nI (by omega)]
      unfold fX10_makePlan_L38
      rw [e1, j1]
    have hM : fX12_makePlan_L2 N (k2 + 1) (nI i) (sr mm 1 a) = (if w 26 i = 0 then (bnd (fX12_dropMove N (nI i) (sr mm 1 a)) fun r4 => fX12_makePlan_L2 N k2 (nI i) r4) else (fX12_makePlan_L2 N k2 (nI (i + 1)) (sr mm 1 a))) := by
      rw [fX12_makePlan_L2, sr_e, m17_of hr hm, if_neg (nI_ge (by omega) (by omega)), mvI_26 hv, bnd_s, j1]
    rcases hv.2.2.2.2.2.2.2.1 with c | c
    · rw [if_neg (by rw [c]; decide)] at hC
      rw [if_pos c] at hM
      obtain ⟨w1, a1, g1, g2, g3, g4, g5, g6⟩ := drop_ok (mm := mm) hN hr hi hv
      rw [g1, bnd_s] at hC
      rw [g2, bnd_s] at hM
      obtain ⟨w', a', p1, p2, p3, p4⟩ := ih i k k2 w1 a1 (m - 1) g4 (by omega) (by omega) (by omega) (by omega) g3.1 g3.2.1 (fun j hj => by
        rw [g6 j (by omega)]
        unfold rm
        rw [if_pos hj]
        exact hb j hj)
      exact ⟨w', a', hC.trans p1, hM.trans p2, g3.tr p3, p4⟩
    · rw [if_pos c] at hC
      rw [if_neg (by rw [c]; decide)] at hM
      obtain ⟨w', a', p1, p2, p3, p4⟩ := ih (i + 1) k k2 w a m hm hm2 (by omega) (by omega) (by omega) hr hi (fun j hj => by
        by_cases q : j = i
        · subst q; exact c
        · exact hb j (by omega))
      exact ⟨w', a', hC.trans p1, hM.trans p2, p3, p4⟩
/-! heats age -/
theorem half_up {n : Nat} (h : n ≤ 9999) : upto 9999 (nI n >>> ((1 : Int32) &&& 31)) := ⟨n / 2, by omega, by rw [pk_shrN (by omega) _ 1 (by decide)]⟩
theorem seen_up : ∀ n, n < 256 → upto 255 ((nI n <<< ((1 : Int32) &&& 31)) &&& 255) := by
  have h : ∀ n, n < 256 → ((nI n <<< ((1 : Int32) &&& 31)) &&& 255).toNatClampNeg ≤ 255 ∧ ((nI n <<< ((1 : Int32) &&& 31)) &&& 255) = nI ((nI n <<< ((1 : Int32) &&& 31)) &&& 255).toNatClampNeg := by decide +kernel
  exact fun n hn => ⟨_, (h n hn).1, (h n hn).2⟩
def IN (w : RS) : Prop := ID w ∧ IH w ∧ IV w ∧ IS w ∧ IC w
theorem IW_d {w : RS} : IW w ↔ IX w ∧ IN w := Iff.rfl
theorem IN_cg {w w' : RS} (h : IN w) (hw : ∀ c, (c = 1 ∨ c = 3 ∨ c = 18 ∨ c = 19 ∨ c = 20 ∨ c = 21 ∨ 23 ≤ c ∧ c ≤ 26) → w' c = w c) : IN w' := by
  obtain ⟨iD, iH, iV, iS, iC⟩ := h
  exact ⟨ID_cg (hw 18 (by omega)) (hw 19 (by omega)) iD, IH_cg (hw 20 (by omega)) (hw 21 (by omega)) iH, IV_cg (hw 3 (by omega)) (fun c k1 k2 => hw c (by omega)) iV, IS_cg (hw 3 (by omega)) (hw 18 (by omega)) (hw 23 (by omega)) (hw 24 (by omega)) (hw 26 (by omega)) iS, IC_cg (fun i _ => by rw [hw 1 (by omega)]) iC⟩
theorem age_ok {N : Nat} (hN : 97 ≤ N) {w mm : RS} {a : Nat → Int32} (hr : RW w a) (hi : IW w) :
    ∃ w' a', fX2_age N w = some w' ∧ fX12_endEpoch_L16 N N 0 (sr mm 1 a) = some (sr mm 1 a') ∧ SM 0 w a w' a' := by
  have key : ∀ d e k k2 w1 a1, 10 - e = d → e ≤ 10 → d < k → d < k2 → SM 0 w a w1 a1 →
      ∃ w' a', fX2_age_L2 N k (nI e) w1 = some w' ∧ fX12_endEpoch_L16 N k2 (nI e) (sr mm 1 a1) = some (sr mm 1 a') ∧ SM 0 w a w' a' := by
    intro d
    induction d with
    | zero =>
      intro e k k2 w1 a1 h1 h2 h3 h4 hs
      obtain ⟨k, rfl⟩ : ∃ j, k = j + 1 := ⟨k - 1, by omega⟩
      obtain ⟨k2, rfl⟩ : ∃ j, k2 = j + 1 := ⟨k2 - 1, by omega⟩
      have : e = 10 := by omega
      subst this
      exact ⟨w1, a1, rfl, rfl, hs⟩
    | succ d ih =>
      intro e k k2 w1 a1 h1 h2 h3 h4 hs
      obtain ⟨k, rfl⟩ : ∃ j, k = j + 1 := ⟨k - 1, by omega⟩
      obtain ⟨k2, rfl⟩ : ∃ j, k2 = j + 1 := ⟨k2 - 1, by omega⟩
      have he : e < 10 := by omega
      have n10 : ¬ (10 : Int32) ≤ nI e := fun q => absurd ((le_10 (by omega)).mp q) (by omega)
      obtain ⟨hr1, hi1, hfa, hk⟩ := hs
      have e19 : a1 (19 + e) = w1 9 e := hr1.2.1.2.2.2.2.2.1 e he
      have e29 : a1 (29 + e) = w1 10 e := hr1.2.1.2.2.2.2.2.2.1 e he
      generalize hx9 : w1 9 e >>> ((1 : Int32) &&& 31) = x9 at *
      generalize hx10 : (w1 10 e <<< ((1 : Int32) &&& 31)) &&& 255 = x10 at *
      have r1 := RW_s9 (i := e) (x := x9) he hr1
      have r2 := RW_s10 (i := e) (x := x10) he r1
      have r3 := RW_s11 (i := e) (x := 0) he r2
      have r4 := RW_s12 (i := e) (x := 0) he r3
      have r5 := RW_s13 (i := e) (x := x9) he r4
      have r6 := RW_s14 (i := e) (x := x10) he r5
      obtain ⟨hh, hh1, hh2⟩ := hi1.1.2.2.2.2.1 e he
      obtain ⟨ss, ss1, ss2⟩ := hi1.1.2.2.2.2.2.1 e he
      have u9 : upto 9999 x9 := by rw [← hx9, hh2]; exact half_up hh1
      have u10 : upto 255 x10 := by rw [← hx10, ss2]; exact seen_up ss (by omega)
      refine Exists.elim (ih (e + 1) k k2 _ _ (by omega) (by omega) (by omega) (by omega) ⟨r6, ⟨?_, ?_⟩, ?_, ?_⟩) ?_
      rotate_left 4
      · rintro w' ⟨a', p1, p2, p3⟩
        refine ⟨w', a', ?_, ?_, p3⟩
        · rw [fX2_age_L2, if_neg n10, inb_nI he (by omega), ck_t, cl_nI (by omega), ← p1]
          simp (disch := omega) only [thn_e, st_d, sr_e, sr_n, upd_e, hx9, hx10, j1]
        · rw [fX12_endEpoch_L16, if_neg n10, ← p2]
          simp (disch := omega) only [thn_e, st_sr, sr_e, i19, i29, i39, i49, i89, i99, inb_nI, ck_t, cl_nI, upd_n, upd_e, e19, e29, hx9, hx10, j1]
      · obtain ⟨z1, z2, z3, z4, z5, z6, z7, z8⟩ := hi1.1
        unfold IX
        simp (disch := omega) only [sr_n, sr_e]
        exact ⟨z1, z2, z3, z4, all_upd z5 u9, all_upd z6 u10, all_upd z7 u9, all_upd z8 u10⟩
      · exact IN_cg hi1.2 (fun c hc => by simp (disch := omega) only [sr_n])
      · intro q hq
        simp (disch := omega) only [upd_n]
        exact hfa q hq
      · intro K hK
        exact IK_cg (by simp (disch := omega) only [sr_n]) (by simp (disch := omega) only [sr_n]) (by simp (disch := omega) only [sr_n]) (hk K hK)
  exact key 10 0 N N w a rfl (by omega) (by omega) (by omega) (SM.rf hr hi)
