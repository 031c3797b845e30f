/-! MOVING: all moves in order -/
theorem adj_0 {w : RS} : adj w (nI 0) (9 * nI 0) = w := by
  apply rs_ext
  intro r k
  unfold adj
  by_cases h : r = 1
  · subst h
    rw [sr_e]
    by_cases h3 : k = 3
    · subst h3
      rw [upd_e]
      exact Int32.add_zero _
    · rw [upd_n h3]
      by_cases h10 : k = 10
      · subst h10
        rw [upd_e]
        exact Int32.add_zero _
      · rw [upd_n h10]
  · rw [sr_n h]
theorem L67_d {N : Nat} {x1 x2 x5 : Int32} {w : RS} : fX10_copyBlocks_L67 N x1 x2 x5 w = some (x5, adj w x5 (9 * x5)) := by
  unfold fX10_copyBlocks_L67 adj
  simp (disch := omega) only [thn_e, st_d, sr_e, sr_sr, upd_n]
theorem nine_s (n : Nat) : 9 * nI n + 9 = 9 * nI (n + 1) := by
  rw [nI_succ]
  grind
theorem copies_in {N : Nat} (hN : 97 ≤ N) {mm : RS} {m i e W left : Nat} (hW : W ≤ 2 ^ szN e - 1) (hl : left < 1000) (k10 : Int32 → Int32 → RS → Option RS) :
    ∀ z b dn k k2 w a, szN e - b = z → b ≤ szN e → dn ≤ left → z < k → z < k2 → RW (adj w (nI dn) (9 * nI dn)) a → IW w → mvI w a m i e → w 26 i = 1 → tcW w i e = nI (hiB W b) →
      ∃ dn' w' a', dn ≤ dn' ∧ dn' ≤ left ∧ fX10_copyBlocks_L23 N (nI i) (nI left) k (nI e) (nI W) (nI dn) (nI b) w = some (nI dn', adj w' (nI dn') (9 * nI dn')) ∧ fX12_goMoves_L36 N k10 k2 (nI (left - dn)) (nI i) (sr mm 1 a) = k10 (nI (left - dn')) (nI (i + 1)) (sr mm 1 a') ∧
        RW (adj w' (nI dn') (9 * nI dn')) a' ∧ IW w' ∧ FA a a' ∧ w' 1 = w 1 ∧ w' 3 = w 3 ∧ w' 23 = w 23 := by
  have hz := szN_le e
  have hW16 : W < 16 := by have := @p2_le e; omega
  intro z
  induction z with
  | zero =>
    intro b dn k k2 w a h1 h2 h3 h4 h5 hr hi hv hbg ht
    obtain ⟨k, rfl⟩ : ∃ j, k = j + 1 := ⟨k - 1, by omega⟩
    obtain ⟨k2, rfl⟩ : ∃ j, k2 = j + 1 := ⟨k2 - 1, by omega⟩
    have he := hv.2.2.2.2.1
    have eb : b = szN e := by omega
    subst eb
    refine ⟨dn, w, a, Nat.le_refl _, h3, ?_, ?_, hr, hi, FA.rf, rfl, rfl, rfl⟩
    · show ck (inb (nI e) 10) _ = _
      rw [inb_nI he (by omega), ck_t, cl_nI (by omega), sizeT_N e he, if_pos (nI_le (Nat.le_refl _) (by omega)), L67_d]
    · show (if nI (left - dn) ≤ 0 then _ else _) = _
      by_cases c : left - dn = 0
      · rw [c, if_pos (show nI 0 ≤ 0 from by decide)]
        show k10 (nI 0) (nI i + 1) _ = _
        rw [j1]
      · rw [if_neg fun q => c ((ge_0 (by omega)).mp q), tcM hv (hi.1.1 e he) ((hr.2.1.2.2.2.1 e he).trans (by rw [adj_n (by decide)])), bnd_s, ht, hiB_end hW, if_pos (show nI 0 = 0 from rfl)]
        show k10 (nI (left - dn)) (nI i + 1) _ = _
        rw [j1]
  | succ z ih =>
    intro b dn k k2 w a h1 h2 h3 h4 h5 hr hi hv hbg ht
    obtain ⟨k, rfl⟩ : ∃ j, k = j + 1 := ⟨k - 1, by omega⟩
    obtain ⟨k2, rfl⟩ : ∃ j, k2 = j + 1 := ⟨k2 - 1, by omega⟩
    have he := hv.2.2.2.2.1
    have hC : fX10_copyBlocks_L23 N (nI i) (nI left) (k + 1) (nI e) (nI W) (nI dn) (nI b) w = (if nI left ≤ nI dn then fX10_copyBlocks_L67 N (nI i) (nI left) (nI dn) w else (if ((nI W >>> ((nI b : Int32) &&& 31)) &&& 1) = 1 then (bnd (fX10_copyBlock N (nI i) (nI e) (nI b) w) fun r2 => fX10_copyBlocks_L61 N (nI i) (nI left) (fX10_copyBlocks_L23 N (nI i) (nI left) k) (nI e) (nI W) (nI dn + 1) (nI b) r2) else (fX10_copyBlocks_L61 N (nI i) (nI left) (fX10_copyBlocks_L23 N (nI i) (nI left) k) (nI e) (nI W) (nI dn) (nI b) w))) := by
      rw [fX10_copyBlocks_L23, inb_nI he (by omega), ck_t, cl_nI (by omega), sizeT_N e he, if_neg (nI_ge (by omega) (by omega))]
    have hM : fX12_goMoves_L36 N k10 (k2 + 1) (nI (left - dn)) (nI i) (sr mm 1 a) = (if nI (left - dn) ≤ 0 then (fX12_goMoves_L59 N k10 (nI (left - dn)) (nI i) (sr mm 1 a)) else (if nI (hiB W b) = 0 then (fX12_goMoves_L59 N k10 (nI (left - dn)) (nI i) (sr mm 1 a)) else (bnd (fX12_copyBlock N (nI i) (sr mm 1 a)) fun r2 => fX12_goMoves_L36 N k10 k2 (nI (left - dn) + (-1)) (nI i) r2))) := by
      rw [fX12_goMoves_L36, tcM hv (hi.1.1 e he) ((hr.2.1.2.2.2.1 e he).trans (by rw [adj_n (by decide)])), bnd_s, ht]
    have h59 : ∀ x, fX12_goMoves_L59 N k10 x (nI i) (sr mm 1 a) = k10 x (nI (i + 1)) (sr mm 1 a) := fun x => by
      unfold fX12_goMoves_L59
      rw [j1]
    have h61 : ∀ x w1, fX10_copyBlocks_L61 N (nI i) (nI left) (fX10_copyBlocks_L23 N (nI i) (nI left) k) (nI e) (nI W) x (nI b) w1 = fX10_copyBlocks_L23 N (nI i) (nI left) k (nI e) (nI W) x (nI (b + 1)) w1 := fun x w1 => by
      unfold fX10_copyBlocks_L61
      rw [j1]
    by_cases c : dn = left
    · subst c
      refine ⟨dn, w, a, Nat.le_refl _, h3, ?_, ?_, hr, hi, FA.rf, rfl, rfl, rfl⟩
      · rw [hC, if_pos (nI_le (Nat.le_refl _) (by omega)), L67_d]
      · rw [hM, Nat.sub_self, if_pos (show nI 0 ≤ 0 from by decide), h59]
    · rw [if_neg (nI_ge (by omega) (by omega))] at hC
      rw [if_neg fun q => absurd ((ge_0 (by omega)).mp q) (by omega)] at hM
      by_cases cb : W / 2 ^ b % 2 = 1
      · obtain ⟨u1, u2, u3⟩ := hiB_s W hW16 b (by omega) cb
        rw [if_pos ((bit_has W hW16 b (by omega)).mpr cb)] at hC
        rw [if_neg fun q => u2 ((eq_0 (by have := hiB_lt W hW16 b (by omega); omega)).mp q)] at hM
        obtain ⟨w1, a1, g1, g2, g3, g4, g5, g6, g7, g8, g9, g10⟩ := copy_1 (mm := mm) hN hr hi hv hbg (by omega : b < szN e) (hiB_lt W hW16 b (by omega)) ht (fun j hj => hiB_lo W hW16 b (by omega) j hj) u3
        rw [g1, bnd_s, h61, j1] at hC
        rw [g2, bnd_s, n1 (by omega)] at hM
        obtain ⟨dn', w', a', i1, i2, i3, i4, i5, i6, i7, i8, i9, i10⟩ := ih (b + 1) (dn + 1) k k2 w1 a1 (by omega) (by omega) (by omega) (by omega) (by omega) (by rw [← nine_s, nI_succ]; exact g3) g4 g10 ((congrFun (g9 26 (by omega) (by omega)) i).trans hbg) (by rw [g6, u1])
        refine ⟨dn', w', a', by omega, i2, hC.trans i3, ?_, i5, i6, g5.tr i7, i8.trans g7, i9.trans g8, i10.trans (g9 23 (by omega) (by omega))⟩
        rw [hM, show left - dn - 1 = left - (dn + 1) from by omega]
        exact i4
      · rw [if_neg fun q => cb ((bit_has W hW16 b (by omega)).mp q), h61] at hC
        obtain ⟨dn', w', a', i1, i2, i3, i4, i5⟩ := ih (b + 1) dn k (k2 + 1) w a (by omega) (by omega) h3 (by omega) (by omega) hr hi hv hbg (by rw [ht, hiB_n W hW16 b (by omega) cb])
        exact ⟨dn', w', a', i1, i2, hC.trans i3, i4, i5⟩
theorem IK_adj {K dn : Nat} {w w' : RS} (h : IK K w) (h1 : w' 1 = w 1) : IK (K + 9 * dn) (adj w' (nI dn) (9 * nI dn)) := by
  obtain ⟨⟨c, hc, ec⟩, n, f, u1, u2, u3, u4⟩ := h
  refine ⟨⟨c + 9 * dn, by omega, ?_⟩, n, f, by omega, u2, ?_, ?_⟩
  · unfold adj
    rw [sr_e, upd_e, h1, ec, show (9 : Int32) = nI 9 from rfl, mul_nI, nI_add]
  · unfold adj
    rw [sr_e, upd_n (by decide), upd_n (by decide), h1, u3]
  · unfold adj
    rw [sr_e, upd_n (by decide), upd_n (by decide), h1, u4]
theorem IW_adj {w : RS} {c d : Int32} (h : IW w) : IW (adj w c d) := IW_cg h (fun r hr => adj_n (by omega)) (fun i hi => by unfold adj; rw [sr_e, upd_n (by omega), upd_n (by omega)])
/-- the copies of the i-th move, which is begun -/
theorem copies_ok {N : Nat} (hN : 97 ≤ N) {mm : RS} {m i e left : Nat} (hl : left < 1000) (k10 : Int32 → Int32 → RS → Option RS) {w : RS} {a : Nat → Int32} (hr : RW w a) (hi : IW w) (hv : mvI w a m i e) (hbg : w 26 i = 1) :
    ∃ dn w' a', dn ≤ left ∧ fX10_copyBlocks N (nI i) (nI left) w = some (nI dn, w') ∧ fX12_goMoves_L36 N k10 N (nI left) (nI i) (sr mm 1 a) = k10 (nI (left - dn)) (nI (i + 1)) (sr mm 1 a') ∧ SM (9 * dn) w a w' a' ∧ w' 23 = w 23 := by
  have hz := szN_le e
  have he := hv.2.2.2.2.1
  obtain ⟨W, hW, eW⟩ := tc_up (i := i) hi he
  obtain ⟨dn, w', a', g1, g2, g3, g4, g5, g6, g7, g8, g9, g10⟩ := copies_in (mm := mm) hN hW hl k10 (szN e) 0 0 N N w a rfl (by omega) (by omega) (by omega) (by omega) (by rw [adj_0]; exact hr) hi hv hbg (by rw [eW, hiB_0])
  refine ⟨dn, adj w' (nI dn) (9 * nI dn), a', g2, ?_, g4, ⟨g5, IW_adj g6, g7, fun K hK => IK_adj hK g8⟩, by rw [adj_n (by decide)]; exact g10⟩
  unfold fX10_copyBlocks
  rw [inb_nI (by have := hv.1; have := hv.2.2.2.1; omega) (by omega), ck_t, thn_e, cl_nI (by have := hv.1; have := hv.2.2.2.1; omega), hv.2.2.2.2.2.1, tcC hv, bnd_s, eW]
  exact g3
theorem moving_ok {N m : Nat} (hN : 97 ≤ N) (hm : m ≤ 10) {mm : RS} :
    ∀ d i left k k2 w a, m - i = d → i ≤ m → left < 1000 → d < k → d < k2 → RW w a → IW w → w 23 0 = nI m →
      ∃ w' a', fX10_moveBlocks_L9 N k (nI left) (nI i) w = some w' ∧ fX12_goMoves_L10 N k2 (nI left) (nI i) (sr mm 1 a) = fX12_goMoves_L65 N (sr mm 1 a') ∧ SM (9 * left) w a w' a' := by
  intro d
  induction d with
  | zero =>
    intro i left k k2 w a h1 h2 h3 h4 h5 hr hi hm0
    obtain ⟨k, rfl⟩ : ∃ j, k = j + 1 := ⟨k - 1, by omega⟩
    obtain ⟨k2, rfl⟩ : ∃ j, k2 = j + 1 := ⟨k2 - 1, by omega⟩
    have ei : i = m := by omega
    subst ei
    have hm1 : a 17 = nI i := by
      obtain ⟨n, v1, v2, v3, -⟩ := hr.2.2.2.2.2.1
      exact v3.trans (v2.symm.trans hm0)
    refine ⟨w, a, ?_, ?_, (SM.rf hr hi).le (by omega)⟩
    · rw [fX10_moveBlocks_L9, hm0, if_pos (nI_le (Nat.le_refl _) (by omega))]
    · rw [fX12_goMoves_L10, sr_e, hm1, if_pos (nI_le (Nat.le_refl _) (by omega))]
  | succ d ih =>
    intro i left k k2 w a h1 h2 h3 h4 h5 hr hi hm0
    obtain ⟨k, rfl⟩ : ∃ j, k = j + 1 := ⟨k - 1, by omega⟩
    obtain ⟨k2, rfl⟩ : ∃ j, k2 = j + 1 := ⟨k2 - 1, by omega⟩
    have hm1 : a 17 = nI m := by
      obtain ⟨n, v1, v2, v3, -⟩ := hr.2.2.2.2.2.1
      exact v3.trans (v2.symm.trans hm0)
    obtain ⟨e, hv⟩ := mv_ex hr hi hm0 hm (by omega : i < m)
    have hC : fX10_moveBlocks_L9 N (k + 1) (nI left) (nI i) w = (if nI left ≤ 0 then (some w) else (if (w 26 i) = 1 then (fX10_moveBlocks_L45 N (fX10_moveBlocks_L9 N k) (nI left) (nI i) w) else (bnd (fX10_begin N (nI i) w) fun r2 => if r2.1 = 0 then (fX10_moveBlocks_L54 N (fX10_moveBlocks_L9 N k) (nI left) (nI i) r2.2) else (fX10_moveBlocks_L45 N (fX10_moveBlocks_L9 N k) (nI left) (nI i) r2.2)))) := by
      rw [fX10_moveBlocks_L9, hm0, if_neg (nI_ge (by omega) (by omega)), inb_nI (by omega) (by omega), ck_t, cl_nI (by omega)]
    have hM : fX12_goMoves_L10 N (k2 + 1) (nI left) (nI i) (sr mm 1 a) = (if nI left ≤ 0 then (fX12_goMoves_L65 N (sr mm 1 a)) else (bnd (fX12_isBegun N (nI i) (sr mm 1 a)) fun r1 => if r1.1 = 0 then (fX12_goMoves_L59 N (fX12_goMoves_L10 N k2) (nI left) (nI i) r1.2) else (fX12_goMoves_L36 N (fX12_goMoves_L10 N k2) N (nI left) (nI i) r1.2))) := by
      rw [fX12_goMoves_L10, sr_e, hm1, if_neg (nI_ge (by omega) (by omega))]
    by_cases c : left = 0
    · subst c
      refine ⟨w, a, ?_, ?_, (SM.rf hr hi).le (by omega)⟩
      · rw [hC, if_pos (show nI 0 ≤ 0 from by decide)]
      · rw [hM, if_pos (show nI 0 ≤ 0 from by decide)]
    · rw [if_neg fun q => c ((ge_0 (by omega)).mp q)] at hC hM
      have go : ∀ w1 a1, SM 0 w a w1 a1 → w1 23 = w 23 → w1 26 i = 1 → ∃ w' a', fX10_moveBlocks_L45 N (fX10_moveBlocks_L9 N k) (nI left) (nI i) w1 = some w' ∧ fX12_goMoves_L36 N (fX12_goMoves_L10 N k2) N (nI left) (nI i) (sr mm 1 a1) = fX12_goMoves_L65 N (sr mm 1 a') ∧ SM (9 * left) w a w' a' := by
        intro w1 a1 s1 e23 e26
        have hm0' : w1 23 0 = nI m := by rw [e23]; exact hm0
        obtain ⟨e', hv'⟩ := mv_ex s1.1 s1.2.1 hm0' hm (by omega : i < m)
        obtain ⟨dn, w2, a2, t1, t2, t3, t4, t5⟩ := copies_ok (mm := mm) hN h3 (fX12_goMoves_L10 N k2) s1.1 s1.2.1 hv' e26
        obtain ⟨w', a', p1, p2, p3⟩ := ih (i + 1) (left - dn) k k2 w2 a2 (by omega) (by omega) (by omega) (by omega) (by omega) t4.1 t4.2.1 (by rw [t5]; exact hm0')
        refine ⟨w', a', ?_, t3.trans p2, ((s1.tr t4).tr p3).le (by omega)⟩
        unfold fX10_moveBlocks_L45 fX10_moveBlocks_L54
        rw [t2, bnd_s, thn_e, sub_nI t1, j1]
        exact p1
      by_cases cb : w 26 i = 1
      · obtain ⟨w', a', p1, p2, p3⟩ := go w a (SM.rf hr hi) rfl cb
        refine ⟨w', a', ?_, ?_, p3⟩
        · rw [hC, if_pos cb]
          exact p1
        · rw [hM]
          have q2 := @ofM N i 2 mm a (by have := hv.1; omega) (by omega)
          rw [hv.2.2.2.2.2.2.2.2.2.2.1, cb] at q2
          have q2' : fX12_ofMove N (nI i) 2 (sr mm 1 a) = some 1 := q2
          have hb : fX12_isBegun N (nI i) (sr mm 1 a) = some (1, sr mm 1 a) := by
            unfold fX12_isBegun
            rw [q2', bnd_s, if_pos rfl]
          rw [hb, bnd_s, if_neg (show ¬ (1 : Int32) = 0 by decide)]
          exact p2
      · have cb0 : w 26 i = 0 := (hv.2.2.2.2.2.2.2.1).resolve_right cb
        obtain ⟨r, w1, a1, b1, b2, b3, b4, b5, b6, b7⟩ := begin_ok (mm := mm) hN hr hi hv cb0
        rw [if_neg cb, b1, bnd_s] at hC
        rw [b2, bnd_s] at hM
        rcases b7 with ⟨rfl, rfl, rfl⟩ | ⟨rfl, b26⟩
        · rw [if_pos rfl] at hC hM
          unfold fX10_moveBlocks_L54 at hC
          unfold fX12_goMoves_L59 at hM
          rw [j1] at hC hM
          obtain ⟨w', a', p1, p2, p3⟩ := ih (i + 1) left k k2 _ _ (by omega) (by omega) (by omega) (by omega) (by omega) hr hi hm0
          exact ⟨w', a', hC.trans p1, hM.trans p2, p3⟩
        · rw [if_neg (show ¬ (1 : Int32) = 0 by decide)] at hC hM
          obtain ⟨w', a', p1, p2, p3⟩ := go w1 a1 b3 b6 b26
          exact ⟨w', a', hC.trans p1, hM.trans p2, p3⟩
