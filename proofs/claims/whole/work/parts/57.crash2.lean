/-! A CRASH: heads, heats, the whole -/
theorem head_out {n h : Nat} (hh : h < 3) {mm : RS} {a : Nat → Int32} (h16 : a 16 = nI (h + 1)) : ∃ a2, fX12_outHead (n + 10) 0 (sr mm 1 a) = some (sr mm 1 a2) ∧ a2 16 = nI h ∧ ∀ k, k ≠ 16 → (k < 194 ∨ 200 ≤ k) → a2 k = a k := by
  have h3 : h = 0 ∨ h = 1 ∨ h = 2 := by omega
  rcases h3 with rfl | rfl | rfl
  · refine ⟨_, outH_10 h16, ?_, fun k k1 k2 => ?_⟩
    · rw [upd_n (by decide), upd_n (by decide), upd_e]; rfl
    · rw [upd_n (by omega), upd_n (by omega), upd_n (by omega)]
  · refine ⟨_, outH_20 h16, ?_, fun k k1 k2 => ?_⟩
    · rw [upd_n (by decide), upd_n (by decide), upd_e]; rfl
    · rw [upd_n (by omega), upd_n (by omega), upd_n (by omega), upd_n (by omega), upd_n (by omega)]
  · refine ⟨_, outH_30 h16, ?_, fun k k1 k2 => ?_⟩
    · rw [upd_n (by decide), upd_n (by decide), upd_e]; rfl
    · rw [upd_n (by omega), upd_n (by omega), upd_n (by omega), upd_n (by omega), upd_n (by omega), upd_n (by omega), upd_n (by omega)]
theorem crash_heads {n : Nat} {x1 x2 : Int32} {mm : RS} : ∀ h k a, h ≤ 3 → h < k → a 16 = nI h → ∃ a2, fX12_crashNow_L51 (n + 10) k x1 x2 (sr mm 1 a) = fX12_crashNow_L71 (n + 10) (n + 10) x1 x2 0 (sr mm 1 a2) ∧ a2 16 = nI 0 ∧ ∀ k, k ≠ 16 → (k < 194 ∨ 200 ≤ k) → a2 k = a k := by
  intro h
  induction h with
  | zero =>
    intro k a h1 h2 h16
    obtain ⟨k, rfl⟩ : ∃ j, k = j + 1 := ⟨k - 1, by omega⟩
    exact ⟨a, by rw [fX12_crashNow_L51, sr_e, h16, if_pos (by decide)], h16, fun _ _ _ => rfl⟩
  | succ h ih =>
    intro k a h1 h2 h16
    obtain ⟨k, rfl⟩ : ∃ j, k = j + 1 := ⟨k - 1, by omega⟩
    obtain ⟨a1, g1, g2, g3⟩ := head_out (n := n) (mm := mm) (by omega) h16
    obtain ⟨a2, i1, i2, i3⟩ := ih k a1 (by omega) (by omega) g2
    refine ⟨a2, ?_, i2, fun k k1 k2 => (i3 k k1 k2).trans (g3 k k1 k2)⟩
    rw [fX12_crashNow_L51, sr_e, h16, if_neg (fun q => absurd ((ge_0 (by omega)).mp q) (by omega)), g1, bnd_s]
    exact i1
theorem allB_N : ∀ z, z < 5 → allB z = nI (2 ^ z - 1) := by decide +kernel
def crM (N : Nat) (x1 x2 : Int32) (mm : RS) : Option (Int32 × RS) := thn (st mm 1 15 ((mm 1 15) + 1)) fun mm_1 => bnd (fX12_manyFree N mm_1) fun r2 => bnd (fX12_writeDown N 4 x1 (r2 - x2) mm_1) fun r3 => some (x1, r3)
theorem forget_ok {N : Nat} {x1 x2 : Int32} (hN : 97 ≤ N) {w mm : RS} {a : Nat → Int32} (hr : RW w a) (hi : IW w) :
    ∃ w' a', fX2_forget N w = some w' ∧ fX12_crashNow_L71 N N x1 x2 0 (sr mm 1 a) = crM N x1 x2 (sr mm 1 a') ∧ SM 0 w a w' a' ∧ w' 19 = w 19 := by
  have key : ∀ d e k k2 w1 a1, 10 - e = d → e ≤ 10 → d < k → d < k2 → SM 0 w a w1 a1 → w1 19 = w 19 →
      ∃ w' a', fX2_forget_L2 N k (nI e) w1 = some w' ∧ fX12_crashNow_L71 N k2 x1 x2 (nI e) (sr mm 1 a1) = crM N x1 x2 (sr mm 1 a') ∧ SM 0 w a w' a' ∧ w' 19 = w 19 := by
    intro d
    induction d with
    | zero =>
      intro e k k2 w1 a1 h1 h2 h3 h4 hs h19
      obtain ⟨k, rfl⟩ : ∃ j, k = j + 1 := ⟨k - 1, by omega⟩
      obtain ⟨k2, rfl⟩ : ∃ j, k2 = j + 1 := ⟨k2 - 1, by omega⟩
      have : e = 10 := by omega
      subst this
      exact ⟨w1, a1, rfl, rfl, hs, h19⟩
    | succ d ih =>
      intro e k k2 w1 a1 h1 h2 h3 h4 hs h19
      obtain ⟨k, rfl⟩ : ∃ j, k = j + 1 := ⟨k - 1, by omega⟩
      obtain ⟨k2, rfl⟩ : ∃ j, k2 = j + 1 := ⟨k2 - 1, by omega⟩
      have he : e < 10 := by omega
      have n10 : ¬ (10 : Int32) ≤ nI e := fun q => absurd ((le_10 (by omega)).mp q) (by omega)
      obtain ⟨hr1, hi1, hfa, hk⟩ := hs
      have e89 : a1 (89 + e) = w1 13 e := hr1.2.1.2.2.2.2.2.2.2.2.2.1 e he
      have e99 : a1 (99 + e) = w1 14 e := hr1.2.1.2.2.2.2.2.2.2.2.2.2 e he
      have e109 : a1 (109 + e) = w1 3 e := hr1.2.1.1 e he
      have r1 := RW_s9 (i := e) (x := w1 13 e) he hr1
      have r2 := RW_s10 (i := e) (x := w1 14 e) he r1
      have r3 := RW_s11 (i := e) (x := 0) he r2
      have r4 := RW_s12 (i := e) (x := 0) he r3
      have r5 := RW_s6 (i := e) (x := if w1 3 e = 1 then allB (szN e) else 0) he r4
      have hz := szN_le e
      refine Exists.elim (ih (e + 1) k k2 _ _ (by omega) (by omega) (by omega) (by omega) ⟨r5, ⟨?_, ?_⟩, ?_, ?_⟩ ?_) ?_
      rotate_left 5
      · rintro w' ⟨a', p1, p2, p3, p4⟩
        refine ⟨w', a', ?_, ?_, p3, p4⟩
        · rw [fX2_forget_L2, if_neg n10, inb_nI he (by omega), ck_t, cl_nI (by omega), ← p1]
          unfold fX2_allBlocks fX2_forget_L69
          rw [inb_nI he (by omega), ck_t, cl_nI (by omega), sizeT_N e he]
          simp (disch := omega) only [thn_e, st_d, sr_e, sr_n, bnd_s, inb_nI, ck_t, cl_nI, j1]
          rcases hi1.1.1 e he with q | q
          · rw [q, if_neg (by decide), if_neg (by decide)]
          · rw [q, if_pos rfl, if_pos rfl]
            rfl
        · rw [fX12_crashNow_L71, if_neg n10, ← p2]
          unfold fX12_isFast fX12_crashNow_L161
          rw [sizeM_N e he]
          simp (disch := omega) only [thn_e, st_sr, sr_e, i19, i29, i39, i49, i79, i89, i99, i109, inb_nI, ck_t, cl_nI, upd_n, upd_e, e89, e99, e109, j1]
          rcases hi1.1.1 e he with q | q
          · rw [q, if_neg (by decide), bnd_s, if_pos rfl, if_neg (by decide)]
          · rw [q, if_pos rfl, bnd_s, if_neg (by decide), if_pos rfl]
            rfl
      · obtain ⟨z1, z2, z3, z4, z5, z6, z7, z8⟩ := hi1.1
        unfold IX
        simp (disch := omega) only [sr_n, sr_e]
        refine ⟨z1, z2, fun f hf => ?_, fun f hf hq => ?_, all_upd z5 (z7 e he), all_upd z6 (z8 e he), z7, z8⟩
        · by_cases c : f = e
          · subst c
            rw [upd_e]
            by_cases q : w1 3 f = 1
            · rw [if_pos q, allB_N _ (by omega)]
              exact ⟨_, Nat.le_refl _, rfl⟩
            · rw [if_neg q]
              exact ⟨0, Nat.zero_le _, rfl⟩
          · rw [upd_n c]; exact z3 f hf
        · by_cases c : f = e
          · subst c
            rw [upd_e, hq, if_neg (by decide)]
          · rw [upd_n c]; exact z4 f hf hq
      · exact IN_cg hi1.2 (fun c hc => by simp (disch := omega) only [sr_n])
      · intro q hq
        simp (disch := omega) only [upd_n]
        exact hfa q hq
      · intro K hK
        exact IK_cg (by simp (disch := omega) only [sr_n]) (by simp (disch := omega) only [sr_n]) (by simp (disch := omega) only [sr_n]) (hk K hK)
      · simp (disch := omega) only [sr_n]
        exact h19
  exact key 10 0 N N w a rfl (by omega) (by omega) (by omega) (SM.rf hr hi) rfl
theorem crash_ok {N : Nat} (hN : 97 ≤ N) {w mm : RS} {a : Nat → Int32} (hr : RW w a) (hi : IW w) :
    ∃ m w' a', m ≤ 10 ∧ fX10_loseMemory N w = some (nI m, w') ∧ fX12_crashNow N (sr mm 1 a) = some (nI m, sr mm 1 a') ∧ SM 0 w a w' a' := by
  obtain ⟨n, rfl⟩ : ∃ n, N = n + 10 := ⟨N - 10, by omega⟩
  obtain ⟨m, hm, em, -⟩ := hi.2.2.2.1
  obtain ⟨m', v1, v2, v3, v4, v5, v6, v7⟩ := hr.2.2.2.2.2.1
  have e1 : m' = m := (eq_nI (by omega) (by omega)).mp (v2.symm.trans em)
  subst e1
  have hC0 : CI w a m' 0 0 w a := ⟨fun _ _ _ => rfl, hr.2.2.1.2.1, hi.2.1, v3, fun j hj => by rw [Nat.zero_add]; exact ⟨v4 j (by omega), by rw [show 200 + 4 * j + 1 = 201 + 4 * j from by omega]; exact v5 j (by omega)⟩, fun _ _ _ _ => rfl, fun e he b hb => by
    rw [hi.2.2.2.2.1 e he b hb, HSl_iff em hm]
    constructor
    · rintro (z | ⟨j, z1, z2, z3⟩)
      · exact Or.inl z
      · exact Or.inr ⟨j, by omega, z1, z2, z3⟩
    · rintro (z | ⟨j, -, z1, z2, z3⟩)
      · exact Or.inl z
      · exact Or.inr ⟨j, z1, z2, z3⟩, rfl⟩
  have hmf := manyFreeM_ok (N := n + 10) (mm := mm) (by omega) hr.2.2.1.2.1 hi.2.1
  obtain ⟨fd, w1, a1, g1, g2, g3⟩ := crash_moves (mm := mm) (x2 := nI (sN 9 fun s => fre (w 19 s))) hN hm hr hi em m' 0 0 (n + 10) (n + 10) w a (by omega) (by omega) (by omega) (by omega) hC0
  obtain ⟨c1, c2, c3, c4, c5, c6, c7, c8⟩ := g3
  obtain ⟨h, hh, hw20, ha16, -⟩ := hr.2.2.2.2.1
  obtain ⟨a2, k1, k2, k3⟩ := crash_heads (n := n) (x1 := nI m') (x2 := nI (sN 9 fun s => fre (w 19 s))) (mm := mm) h (n + 10) a1 hh (by omega) ((c6 16 (by omega) (by omega) (by omega)).trans ha16)
  have a2o : ∀ k, k ≠ 16 → k ≠ 17 → (k < 139 ∨ 162 ≤ k) → (k < 194 ∨ 240 ≤ k) → a2 k = a k := fun k q1 q2 q3 q4 => (k3 k q1 (by omega)).trans (c6 k q2 q3 (by omega))
  have d20 : (sr (sr w1 23 (upd (w1 23) 0 0)) 20 (upd (w1 20) 0 0)) 20 0 = nI 0 := by rw [sr_e, upd_e]; rfl
  have d23 : (sr (sr w1 23 (upd (w1 23) 0 0)) 20 (upd (w1 20) 0 0)) 23 0 = nI 0 := by rw [sr_n (by decide), sr_e, upd_e]; rfl
  have wo : ∀ c, c ≠ 20 → c ≠ 23 → (sr (sr w1 23 (upd (w1 23) 0 0)) 20 (upd (w1 20) 0 0)) c = w1 c := fun c q1 q2 => by rw [sr_n q1, sr_n q2]
  have wo2 : ∀ c, c ≠ 18 → c ≠ 19 → c ≠ 20 → c ≠ 23 → (sr (sr w1 23 (upd (w1 23) 0 0)) 20 (upd (w1 20) 0 0)) c = w c := fun c q1 q2 q3 q4 => (wo c q3 q4).trans (c1 c q1 q2)
  generalize hwz : sr (sr w1 23 (upd (w1 23) 0 0)) 20 (upd (w1 20) 0 0) = wz at *
  have hrz : RW wz a2 := by
    refine ⟨?_, RX_cg (fun c hc => wo2 c (by omega) (by omega) (by omega) (by omega)) (fun k hk => a2o k (by omega) (by omega) (by omega) (by omega)) hr.2.1, ⟨?_, ?_, ?_⟩, RE_cg (wo2 3 (by omega) (by omega) (by omega) (by omega)) (wo2 8 (by omega) (by omega) (by omega) (by omega)) (fun k q1 q2 => a2o k (by omega) (by omega) (by omega) (by omega)) hr.2.2.2.1, ⟨0, by omega, d20, k2, fun i q => absurd q (by omega), fun i q => absurd q (by omega)⟩, ⟨0, by omega, d23, ?_, fun i q => absurd q (by omega), fun i q => absurd q (by omega), fun i q => absurd q (by omega), fun i q => absurd q (by omega)⟩, RB_cg (wo2 28 (by omega) (by omega) (by omega) (by omega)) (wo2 29 (by omega) (by omega) (by omega) (by omega)) (a2o 18 (by omega) (by omega) (by omega) (by omega)) (fun k q1 q2 => a2o k (by omega) (by omega) (by omega) (by omega)) hr.2.2.2.2.2.2⟩
    · exact row_cg (fun i hi2 => by rw [wo2 1 (by omega) (by omega) (by omega) (by omega)]) (fun k q1 q2 => a2o k (by omega) (by omega) (by omega) (by omega)) hr.1
    · exact row_cg (fun i hi2 => by rw [wo2 16 (by omega) (by omega) (by omega) (by omega)]) (fun k q1 q2 => a2o k (by omega) (by omega) (by omega) (by omega)) hr.2.2.1.1
    · exact row_cg (fun i hi2 => by rw [wo 18 (by omega) (by omega)]) (fun k q1 q2 => k3 k (by omega) (by omega)) c2
    · exact row_cg (fun i hi2 => by rw [wo2 17 (by omega) (by omega) (by omega) (by omega)]) (fun k q1 q2 => a2o k (by omega) (by omega) (by omega) (by omega)) hr.2.2.1.2.2
    · rw [k3 17 (by omega) (by omega), c4, Nat.sub_self]
  have hiz : IW wz := by
    refine ⟨IX_cg (fun c hc => wo2 c (by omega) (by omega) (by omega) (by omega)) hi.1, ID_cg (wo 18 (by omega) (by omega)) (wo 19 (by omega) (by omega)) c3, ⟨0, by omega, d20, fun i q => absurd q (by omega)⟩, ⟨0, by omega, d23, fun i q => absurd q (by omega), fun i q => absurd q (by omega)⟩, fun e he b hb => ?_, IC_cg (fun i _ => by rw [wo2 1 (by omega) (by omega) (by omega) (by omega)]) hi.2.2.2.2.2⟩
    rw [wo 18 (by omega) (by omega), c7 e he b hb, HSl_iff d23 (by omega), wo2 3 (by omega) (by omega) (by omega) (by omega)]
    constructor
    · rintro (z | ⟨j, z1, z2, -⟩)
      · exact Or.inl z
      · omega
    · rintro (z | ⟨j, z1, -⟩)
      · exact Or.inl z
      · omega
  have hs0 : SM 0 w a wz a2 := ⟨hrz, hiz, fun k hk => a2o k (by omega) (by omega) (by omega) (by omega), fun K hK => IK_cg (by rw [wo2 1 (by omega) (by omega) (by omega) (by omega)]) (by rw [wo2 1 (by omega) (by omega) (by omega) (by omega)]) (by rw [wo2 1 (by omega) (by omega) (by omega) (by omega)]) hK⟩
  obtain ⟨w3, a3, f1, f2, f3, f4⟩ := forget_ok (N := n + 10) (mm := mm) (x1 := nI m') (x2 := nI (sN 9 fun s => fre (w 19 s))) hN hrz hiz
  have c12 : a3 15 = w3 1 12 := (row13_iff.mp f3.1.1).2.2.2.2.2.2.2.2.2.2.2.2
  have h12 := SM_s1 (i := 12) (x := w3 1 12 + 1) (by omega) (by omega) (by omega) (by omega) (by omega) (by omega) (by omega) (by omega) f3.1 f3.2.1
  have hmf2 := manyFreeM_ok (N := n + 10) (mm := mm) (by omega) h12.1.2.2.1.2.1 h12.2.1.2.1
  have e19 : ∀ s, (sr w3 1 (upd (w3 1) 12 (w3 1 12 + 1))) 19 s = w1 19 s := fun s => by rw [sr_n (by decide), f4, wo 19 (by omega) (by omega)]
  simp only [e19] at hmf2
  rw [c8] at hmf2
  obtain ⟨w4, a4, t1, t2, t3, -⟩ := wd_SM (N := n + 10) (mm := mm) hN h12.1 h12.2.1 4 (nI m') (nI fd)
  refine ⟨m', w4, a4, hm, ?_, ?_, (((hs0.tr f3).tr h12).tr t3).le (by omega)⟩
  · unfold fX10_loseMemory
    rw [thn_e, em]
    refine g1.trans ?_
    unfold crC
    rw [thn_e, thn_e, st_d, st_d, sr_n (by decide), hwz, f1, bnd_s, thn_e, st_d, t1, bnd_s]
  · unfold fX12_crashNow
    rw [thn_e, sr_e, v3, hmf, bnd_s]
    refine g2.trans (k1.trans (f2.trans ?_))
    unfold crM
    rw [thn_e, st_sr, sr_e, c12, show (15 : Nat) = 3 + 12 from rfl, hmf2, bnd_s, sub_nI (by omega), show (sN 9 fun s => fre (w 19 s)) + fd - (sN 9 fun s => fre (w 19 s)) = fd from by omega, t2, bnd_s]
