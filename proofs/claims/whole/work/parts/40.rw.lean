/-! READS AND WRITES -/
def accS (w w' : RS) : Prop := w' 3 = w 3 ∧ (∃ c, c ≤ 10 ∧ w' 1 3 = w 1 3 + nI c) ∧ w' 1 7 = w 1 7 + 1 ∧ w' 1 8 = w 1 8
/-- where the block of a fast extent lies -/
theorem fast_slot {w : RS} {e b : Nat} (he : e < 10) (hb : b < szN e) (hD : ID w) (hS : IS w) (hf : w 3 e = 1) : ∃ s, s < 9 ∧ w 18 (stN e + b) = nI s := by
  rcases hD.1 (stN e + b) (stN_lt he hb) with q | ⟨s, hs, q, -⟩
  · exact absurd q ((hS e he b hb).mpr (Or.inl hf))
  · exact ⟨s, hs, q⟩
theorem fastAt_ok {N p s : Nat} {w : RS} (hp : p < 23) (hs : s < 9) (h : w 18 p = nI s) : fX1_fastAt N (nI p) w = some (w 17 s) := by
  unfold fX1_fastAt
  rw [inb_nI hp (by omega), ck_t, thn_e, cl_nI (by omega), h, if_neg (nI_pos (by omega)), if_neg (show ¬ (9 : Int32) ≤ nI s from fun q => absurd ((le_9 (by omega)).mp q) (by omega)), inb_nI hs (by omega), ck_t, cl_nI (by omega)]
theorem putFast_ok {N p s : Nat} {w : RS} {x : Int32} (hp : p < 23) (hs : s < 9) (h : w 18 p = nI s) : fX1_putFast N (nI p) x w = some (sr w 17 (upd (w 17) s x)) := by
  unfold fX1_putFast
  rw [inb_nI hp (by omega), ck_t, thn_e, cl_nI (by omega), h, if_neg (nI_pos (by omega)), if_neg (show ¬ (9 : Int32) ≤ nI s from fun q => absurd ((le_9 (by omega)).mp q) (by omega)), inb_nI hs (by omega), ck_t, cl_nI (by omega)]
  rfl
theorem adc_d {w : RS} {c : Int32} : st w 1 3 (w 1 3 + c) = adc w c := rfl
theorem RE_at {w w' : RS} {a a' : Nat → Int32} {e : Nat} (h : RE w a) (h3 : w' 3 = w 3) (h8 : ∀ f, f ≠ e → w' 8 f = w 8 f) (ha : ∀ f, f < 10 → f ≠ e → a' (119 + f) = a (119 + f) ∧ a' (129 + f) = a (129 + f)) (hx : w 3 e = 1 → w' 8 e = 7 * a' (119 + e) + 8 * a' (129 + e)) : RE w' a' := by
  intro f hf h1
  rw [h3] at h1
  by_cases c : f = e
  · subst c; exact hx h1
  · rw [h8 f c, (ha f hf c).1, (ha f hf c).2]
    exact h f hf h1
theorem IW_adc {w : RS} {c : Int32} (h : IW w) : IW (adc w c) := by
  refine IW_cg h (fun k hk => ?_) (fun i hi => ?_)
  · exact sr_n (by omega)
  · unfold adc
    rw [sr_e, upd_n (by omega)]
theorem read_ok {N : Nat} (hN : 24 ≤ N) {w mm : RS} {a : Nat → Int32} {e b : Nat} (he : e < 10) (hb : b < szN e) (hr : RW w a) (hi : IW w) :
    ∃ v w' a', fX10_readBlock N (nI e) (nI b) w = some (v, w') ∧ fX12_readNow N (nI e) (nI b) (sr mm 1 a) = some (v, sr mm 1 a') ∧ RW w' a' ∧ IW w' ∧ FA a a' ∧ w' 3 = w 3 ∧ (∃ c, c ≤ 10 ∧ w' 1 3 = w 1 3 + nI c) ∧ w' 1 7 = w 1 7 + 1 ∧ w' 1 8 = w 1 8 + w 3 e := by
  obtain ⟨w1, a1, h1, h2, hr1, hi1, hfa, hfr, k3, k7, k8⟩ := note_ok (mm := mm) (cF := 1) (cS := 8) hN he hb (by decide : 8 ≤ 100) hr hi
  have h1' : fX10_note N (nI e) (nI b) 8 w = some w1 := h1
  have h2' : fX12_access N (nI e) (nI b) 8 1 8 (sr mm 1 a) = some (sr mm 1 a1) := h2
  have hp : stN e + b < 23 := stN_lt he hb
  have w3 : w1 3 = w 3 := hfr 3 (by decide) (by decide)
  obtain ⟨hC, hX, hD, hE, hH, hV, hB⟩ := hr1
  have e3 : a1 (109 + e) = w 3 e := (hX.1 e he).trans (by unfold adc; rw [sr_n (by decide), w3])
  have e18 : a1 (139 + (stN e + b)) = w1 18 (stN e + b) := (hD.2.1 _ hp).trans (by unfold adc; rw [sr_n (by decide)])
  have e16 : a1 (162 + (stN e + b)) = w1 16 (stN e + b) := (hD.1 _ hp).trans (by unfold adc; rw [sr_n (by decide)])
  have hbit : bit1 (w 3 e) := hi.1.1 e he
  have hm : ∀ x, fX12_readNow N (nI e) (nI b) (sr mm 1 a) = some x ↔ (bnd (fX12_isFast N (nI e) (sr mm 1 (upd a1 (119 + e) (a1 (119 + e) + 1)))) fun r4 => if r4 = 0 then (ck (inb ((162 + (fX12_firstOf (nI e))) + nI b) 10760) <| some ((upd a1 (119 + e) (a1 (119 + e) + 1) ((162 + (fX12_firstOf (nI e))) + nI b).toNatClampNeg), sr mm 1 (upd a1 (119 + e) (a1 (119 + e) + 1)))) else (bnd (fX12_slotOf N (nI e) (nI b) (sr mm 1 (upd a1 (119 + e) (a1 (119 + e) + 1)))) fun r7 => ck (inb (185 + r7) 10760) <| some ((upd a1 (119 + e) (a1 (119 + e) + 1) (185 + r7).toNatClampNeg), sr mm 1 (upd a1 (119 + e) (a1 (119 + e) + 1))))) = some x := by
    intro x
    unfold fX12_readNow
    rw [h2', bnd_s, i119, inb_nI (by omega) (by omega), ck_t, thn_e, cl_nI (by omega), st_sr, sr_e, sr_e]
  have hc : ∀ x, fX10_readBlock N (nI e) (nI b) w = some x ↔ (if (w1 3 e) = 1 then (thn (st w1 1 3 ((w1 1 3) + 1)) fun ww_6 => thn (st ww_6 8 e ((ww_6 8 e) + 7)) fun ww_7 => bnd (fX1_fastAt N (nI (stN e + b)) ww_7) fun r8 => some (r8, ww_7)) else (thn (st w1 1 3 ((w1 1 3) + 8)) fun ww_4 => ck (inb (nI (stN e + b)) 23) <| some ((ww_4 16 (nI (stN e + b)).toNatClampNeg), ww_4))) = some x := by
    intro x
    unfold fX10_readBlock
    rw [inb_nI he (by omega), ck_t, thn_e, cl_nI (by omega), startT_N e he, nI_add, h1', bnd_s]
  rcases hbit with hf | hf
  · refine ⟨w1 16 (stN e + b), adc w1 8, upd a1 (119 + e) (a1 (119 + e) + 1), ?_, ?_, ?_, IW_adc hi1, ?_, ?_, ?_, ?_, ?_⟩
    · rw [hc, w3, hf, if_neg (by decide), thn_e, inb_nI hp (by omega), ck_t, cl_nI (by omega), adc_d]
      unfold adc
      rw [sr_n (by decide)]
    · rw [hm]
      unfold fX12_isFast
      rw [i109, inb_nI (by omega) (by omega), ck_t, cl_nI (by omega), sr_e, upd_n (by omega), e3, hf, if_neg (by decide), bnd_s, if_pos rfl, firstM_N e he, i162, nI_add, inb_nI (by omega) (by omega), ck_t, cl_nI (by omega), upd_n (by omega), Nat.add_assoc, e16]
    · rw [hf, if_neg (by decide)] at hC hX hD hE hH hV hB
      exact RW_E ⟨hC, hX, hD, hE, hH, hV, hB⟩ (fun _ _ => rfl) (fun k hk => upd_n (by omega)) (RE_at (e := e) hE rfl (fun _ _ => rfl) (fun f _ hne => ⟨upd_n (by omega), upd_n (by omega)⟩) (fun h => by
        unfold adc at h
        rw [sr_n (by decide), w3, hf] at h
        exact absurd h (by decide)))
    · intro k hk
      rw [upd_n (by omega)]
      exact hfa k hk
    · unfold adc
      rw [sr_n (by decide), w3]
    · exact ⟨8, by decide, by unfold adc; rw [sr_e, upd_e, k3]; rfl⟩
    · unfold adc
      rw [sr_e, upd_n (by decide), k7]
    · unfold adc
      rw [sr_e, upd_n (by decide), k8]
  · obtain ⟨s, hs, es⟩ := fast_slot he hb hi1.2.1 hi1.2.2.2.2.1 (by rw [w3]; exact hf)
    have e17 : a1 (185 + s) = w1 17 s := (hD.2.2 _ hs).trans (by unfold adc; rw [sr_n (by decide)])
    refine ⟨w1 17 s, sr (adc w1 1) 8 (upd (w1 8) e (w1 8 e + 7)), upd a1 (119 + e) (a1 (119 + e) + 1), ?_, ?_, ?_, ?_, ?_, ?_, ?_, ?_, ?_⟩
    · rw [hc, w3, hf, if_pos rfl, thn_e, thn_e, adc_d, st_d]
      have g : sr (adc w1 1) 8 (upd (adc w1 1 8) e (adc w1 1 8 e + 7)) = sr (adc w1 1) 8 (upd (w1 8) e (w1 8 e + 7)) := by
        unfold adc
        rw [sr_n (by decide)]
      rw [g, fastAt_ok hp hs (by rw [sr_n (by decide)]; unfold adc; rw [sr_n (by decide)]; exact es), bnd_s, sr_n (by decide)]
      unfold adc
      rw [sr_n (c := 1) (by decide)]
    · rw [hm]
      unfold fX12_isFast fX12_slotOf
      rw [i109, inb_nI (by omega) (by omega), ck_t, cl_nI (by omega), sr_e, upd_n (by omega), e3, hf, if_pos rfl, bnd_s, if_neg (by decide), firstM_N e he, i139, nI_add, inb_nI (by omega) (by omega), ck_t, cl_nI (by omega), upd_n (by omega), Nat.add_assoc, e18, es, bnd_s, i185, inb_nI (by omega) (by omega), ck_t, cl_nI (by omega), upd_n (by omega), e17]
    · rw [hf, if_pos rfl] at hC hX hD hE hH hV hB
      refine RW_E ⟨hC, hX, hD, hE, hH, hV, hB⟩ (fun c hc => sr_n hc) (fun k hk => upd_n (by omega)) (RE_at (e := e) hE (sr_n (by decide)) (fun f hne => by rw [sr_e, upd_n hne]; unfold adc; rw [sr_n (by decide)]) (fun f _ hne => ⟨upd_n (by omega), upd_n (by omega)⟩) (fun h => ?_))
      have q := hE e he h
      unfold adc at q
      rw [sr_n (by decide)] at q
      rw [sr_e, upd_e, upd_e, upd_n (by omega), q]
      grind
    · exact IW_cg (IW_adc (c := 1) hi1) (fun c hc => sr_n (by omega)) (fun i hi => by rw [sr_n (by decide)])
    · intro k hk
      rw [upd_n (by omega)]
      exact hfa k hk
    · rw [sr_n (by decide)]
      unfold adc
      rw [sr_n (by decide), w3]
    · exact ⟨1, by decide, by rw [sr_n (by decide)]; unfold adc; rw [sr_e, upd_e, k3]; rfl⟩
    · rw [sr_n (by decide)]
      unfold adc
      rw [sr_e, upd_n (by decide), k7]
    · rw [sr_n (by decide)]
      unfold adc
      rw [sr_e, upd_n (by decide), k8]
/-! a write -/
def bb (b : Nat) : Int32 := 1 <<< ((nI b : Int32) &&& 31)
theorem dor_up : ∀ z, z < 5 → ∀ b, b < z → ∀ d, d < 16 → d ≤ 2 ^ z - 1 → upto (2 ^ z - 1) (nI d ||| bb b) := by
  have h : ∀ z, z < 5 → ∀ b, b < z → ∀ d, d < 16 → d ≤ 2 ^ z - 1 → (nI d ||| bb b).toNatClampNeg ≤ 2 ^ z - 1 ∧ (nI d ||| bb b) = nI (nI d ||| bb b).toNatClampNeg := by decide +kernel
  exact fun z hz b hb d hd hd2 => ⟨_, (h z hz b hb d hd hd2).1, (h z hz b hb d hd hd2).2⟩
theorem p2_le {e : Nat} : 2 ^ szN e - 1 < 16 := by
  have := szN_le e
  rcases (by omega : szN e = 1 ∨ szN e = 2 ∨ szN e = 3 ∨ szN e = 4) with h | h | h | h <;> rw [h] <;> decide
theorem IW_row1 {w w' : RS} (h : IW w) (hw : ∀ c, c ≠ 1 → w' c = w c) (h1 : ∀ i, (i = 1 ∨ i = 4 ∨ i = 5 ∨ i = 6) → w' 1 i = w 1 i) : IW w' := IW_cg h (fun c hc => hw c (by omega)) h1
theorem write_ok {N : Nat} (hN : 24 ≤ N) {w mm : RS} {a : Nat → Int32} {e b : Nat} {x : Int32} (he : e < 10) (hb : b < szN e) (hr : RW w a) (hi : IW w) :
    ∃ w' a', fX10_writeBlock N (nI e) (nI b) x w = some w' ∧ fX12_writeNow N (nI e) (nI b) x (sr mm 1 a) = some (w 3 e, sr mm 1 a') ∧ RW w' a' ∧ IW w' ∧ FA a a' ∧ w' 3 = w 3 ∧ (∃ c, c ≤ 10 ∧ w' 1 3 = w 1 3 + nI c) ∧ w' 1 7 = w 1 7 + 1 ∧ w' 1 8 = w 1 8 + w 3 e := by
  obtain ⟨w1, a1, h1, h2, hr1, hi1, hfa, hfr, k3, k7, k8⟩ := note_ok (mm := mm) (cF := 2) (cS := 10) hN he hb (by decide : 12 ≤ 100) hr hi
  have h1' : fX10_note N (nI e) (nI b) 12 w = some w1 := h1
  have h2' : fX12_access N (nI e) (nI b) 12 2 10 (sr mm 1 a) = some (sr mm 1 a1) := h2
  have hp : stN e + b < 23 := stN_lt he hb
  have w3 : w1 3 = w 3 := hfr 3 (by decide) (by decide)
  have hr1' := hr1
  obtain ⟨hC, hX, hD, hE, hH, hV, hB⟩ := hr1
  have e3 : a1 (109 + e) = w 3 e := (hX.1 e he).trans (by unfold adc; rw [sr_n (by decide), w3])
  have e18 : a1 (139 + (stN e + b)) = w1 18 (stN e + b) := (hD.2.1 _ hp).trans (by unfold adc; rw [sr_n (by decide)])
  have hbit : bit1 (w 3 e) := hi.1.1 e he
  have hrE : ∀ c8, (w 3 e = 1 → c8 = w1 8 e + 8) → RW (sr (adc w1 (if w 3 e = 1 then 2 else 10)) 8 (upd (w1 8) e c8)) (upd a1 (129 + e) (a1 (129 + e) + 1)) := by
    intro c8 h8
    refine RW_E hr1' (fun c hc => sr_n hc) (fun k hk => upd_n (by omega)) (RE_at (e := e) hE (sr_n (by decide)) (fun f hne => by rw [sr_e, upd_n hne]; unfold adc; rw [sr_n (by decide)]) (fun f _ hne => ⟨upd_n (by omega), upd_n (by omega)⟩) (fun h => ?_))
    have q := hE e he h
    unfold adc at q h
    rw [sr_n (by decide)] at q h
    rw [sr_e, upd_e, upd_e, upd_n (by omega), h8 (by rw [← w3]; exact h), q]
    grind
  rcases hbit with hf | hf
  · skip
    have hr2 := hrE (w1 8 e) (fun h => absurd (hf.symm.trans h) (by decide))
    rw [hf, if_neg (by decide), upd_self] at hr2
    have hr3 : RW (adc w1 10) (upd a1 (129 + e) (a1 (129 + e) + 1)) := by
      have g : sr (adc w1 10) 8 (w1 8) = adc w1 10 := by
        have : w1 8 = adc w1 10 8 := by unfold adc; rw [sr_n (by decide)]
        rw [this, sr_self]
      rw [g] at hr2
      exact hr2
    have hr4 := RW_s16 (i := stN e + b) (x := x) hp hr3
    have hi4 : IW (sr (adc w1 10) 16 (upd (adc w1 10 16) (stN e + b) x)) := IW_cg (IW_adc (c := 10) hi1) (fun c hc => sr_n (by omega)) (fun i hi => by rw [sr_n (by decide)])
    obtain ⟨m, hm, m23, m24, md⟩ := hi4.2.2.2.1
    obtain ⟨r, f1, f2⟩ := find_ok (N := N) (by omega) hm m23 (nI e)
    obtain ⟨m', hm', m23', m17, v4, v5, v6, v7⟩ := hr4.2.2.2.2.2.1
    have em : m' = m := (eq_nI (by omega) (by omega)).mp (m23'.symm.trans m23)
    subst em
    obtain ⟨q, g1, g2⟩ := findM_ok (N := N) (mm := mm) (by omega) hm' m17 (nI e)
    have hrq : q = r := firstI_eq v4 f2 g2
    subst hrq
    have c3 : (sr (adc w1 10) 16 (upd (adc w1 10 16) (stN e + b) x)) 1 3 = w 1 3 + 10 := by rw [sr_n (by decide)]; unfold adc; rw [sr_e, upd_e, k3]
    have c7 : (sr (adc w1 10) 16 (upd (adc w1 10 16) (stN e + b) x)) 1 7 = w 1 7 + 1 := by rw [sr_n (by decide)]; unfold adc; rw [sr_e, upd_n (by decide), k7]
    have c8 : (sr (adc w1 10) 16 (upd (adc w1 10 16) (stN e + b) x)) 1 8 = w 1 8 + w 3 e := by rw [sr_n (by decide)]; unfold adc; rw [sr_e, upd_n (by decide), k8]
    have c30 : (sr (adc w1 10) 16 (upd (adc w1 10 16) (stN e + b) x)) 3 = w 3 := by rw [sr_n (by decide)]; unfold adc; rw [sr_n (by decide), w3]
    have hfa2 : FA a (upd (upd a1 (129 + e) (a1 (129 + e) + 1)) (162 + (stN e + b)) x) := fun k hk => by rw [upd_n (by omega), upd_n (by omega)]; exact hfa k hk
    rcases f2 with ⟨i, hi1', -, -, rfl⟩ | ⟨-, rfl⟩
    · skip
      have hr5 := RW_s27 (i := i) (x := (sr (adc w1 10) 16 (upd (adc w1 10 16) (stN e + b) x)) 27 i &&& (bb b ^^^ -1)) m23 hm hi1' hr4
      have e7 : upd (upd a1 (129 + e) (a1 (129 + e) + 1)) (162 + (stN e + b)) x (200 + 4 * i + 3) = (sr (adc w1 10) 16 (upd (adc w1 10 16) (stN e + b) x)) 27 i := by
        rw [show 200 + 4 * i + 3 = 203 + 4 * i from by omega]
        exact v7 i hi1'
      refine ⟨_, _, ?_, ?_, hr5, IW_cg hi4 (fun c hc => sr_n (by omega)) (fun j hj => by rw [sr_n (by decide)]), ?_, by rw [sr_n (by decide), c30], ⟨10, by decide, by rw [sr_n (by decide), c3]; rfl⟩, by rw [sr_n (by decide), c7], by rw [sr_n (by decide), c8]⟩
      · unfold fX10_writeBlock
        rw [inb_nI he (by omega), ck_t, thn_e, cl_nI (by omega), startT_N e he, nI_add, h1', bnd_s, w3, hf, if_neg (by decide), thn_e, inb_nI hp (by omega), ck_t, thn_e, cl_nI (by omega), adc_d, st_d, f1, bnd_s, if_neg (ne_m1 (by omega)), inb_nI (by omega) (by omega), ck_t, thn_e, cl_nI (by omega), st_d]
        rfl
      · unfold fX12_writeNow fX12_isFast
        rw [h2', bnd_s, i129, inb_nI (i := 129 + e) (by omega) (by omega), ck_t, thn_e, cl_nI (n := 129 + e) (by omega), st_sr, sr_e, i109, inb_nI (i := 109 + e) (by omega) (by omega), ck_t, cl_nI (n := 109 + e) (by omega), sr_e, upd_n (j := 109 + e) (by omega), e3, hf, if_neg (by decide), bnd_s, if_pos rfl, firstM_N e he, i162, nI_add, inb_nI (by omega) (by omega), ck_t, thn_e, cl_nI (by omega), st_sr, Nat.add_assoc, g1, bnd_s, if_neg (nI_pos (by omega)), m4, i200, j3, inb_nI (by omega) (by omega), ck_t, thn_e, cl_nI (by omega), st_sr, sr_e, e7, show 200 + 4 * i + 3 = 203 + 4 * i from by omega]
        rfl
      · intro k hk
        rw [upd_n (by omega)]
        exact hfa2 k hk
    · refine ⟨_, _, ?_, ?_, hr4, hi4, hfa2, c30, ⟨10, by decide, c3⟩, c7, c8⟩
      · unfold fX10_writeBlock
        rw [inb_nI he (by omega), ck_t, thn_e, cl_nI (by omega), startT_N e he, nI_add, h1', bnd_s, w3, hf, if_neg (by decide), thn_e, inb_nI hp (by omega), ck_t, thn_e, cl_nI (by omega), adc_d, st_d, f1, bnd_s, if_pos rfl]
      · unfold fX12_writeNow fX12_isFast
        rw [h2', bnd_s, i129, inb_nI (i := 129 + e) (by omega) (by omega), ck_t, thn_e, cl_nI (n := 129 + e) (by omega), st_sr, sr_e, i109, inb_nI (i := 109 + e) (by omega) (by omega), ck_t, cl_nI (n := 109 + e) (by omega), sr_e, upd_n (j := 109 + e) (by omega), e3, hf, if_neg (by decide), bnd_s, if_pos rfl, firstM_N e he, i162, nI_add, inb_nI (by omega) (by omega), ck_t, thn_e, cl_nI (by omega), st_sr, Nat.add_assoc, g1, bnd_s, if_pos m1_neg]
  · obtain ⟨s, hs, es⟩ := fast_slot he hb hi1.2.1 hi1.2.2.2.2.1 (by rw [w3]; exact hf)
    have g : sr (adc w1 2) 8 (upd (adc w1 2 8) e (adc w1 2 8 e + 8)) = sr (adc w1 2) 8 (upd (w1 8) e (w1 8 e + 8)) := by
      unfold adc
      rw [sr_n (by decide)]
    have hr2 := hrE (w1 8 e + 8) (fun _ => rfl)
    rw [hf, if_pos rfl] at hr2
    have hr3 := RW_s17 (i := s) (x := x) hs hr2
    have hr4 := RW_s6 (i := e) (x := w1 6 e ||| bb b) he hr3
    have e6 : (sr (sr (adc w1 2) 8 (upd (w1 8) e (w1 8 e + 8))) 17 (upd (sr (adc w1 2) 8 (upd (w1 8) e (w1 8 e + 8)) 17) s x)) 6 e = w1 6 e := by
      rw [sr_n (by decide), sr_n (by decide)]
      unfold adc
      rw [sr_n (by decide)]
    have f6 : upd (upd a1 (129 + e) (a1 (129 + e) + 1)) (185 + s) x (79 + e) = w1 6 e := (hr3.2.1.2.2.2.1 e he).trans e6
    refine ⟨_, _, ?_, ?_, hr4, ?_, ?_, ?_, ⟨2, by decide, ?_⟩, ?_, ?_⟩
    · unfold fX10_writeBlock
      rw [inb_nI he (by omega), ck_t, thn_e, cl_nI (by omega), startT_N e he, nI_add, h1', bnd_s, w3, hf, if_pos rfl, thn_e, thn_e, adc_d, st_d, g, putFast_ok hp hs (by rw [sr_n (by decide)]; unfold adc; rw [sr_n (by decide)]; exact es), bnd_s, thn_e, st_d, e6]
      rfl
    · unfold fX12_writeNow fX12_isFast
      rw [h2', bnd_s, i129, inb_nI (i := 129 + e) (by omega) (by omega), ck_t, thn_e, cl_nI (n := 129 + e) (by omega), st_sr, sr_e, i109, inb_nI (i := 109 + e) (by omega) (by omega), ck_t, cl_nI (n := 109 + e) (by omega), sr_e, upd_n (j := 109 + e) (by omega), e3, hf, if_pos rfl, bnd_s, if_neg (by decide)]
      unfold fX12_slotOf
      rw [firstM_N e he, i139, nI_add, inb_nI (by omega) (by omega), ck_t, cl_nI (by omega), sr_e, upd_n (by omega), Nat.add_assoc, e18, es, bnd_s, i185, inb_nI (by omega) (by omega), ck_t, thn_e, cl_nI (by omega), st_sr, i79, inb_nI (by omega) (by omega), ck_t, thn_e, cl_nI (by omega), st_sr, sr_e, f6]
      rfl
    · obtain ⟨iX, iD, iH, iV, iS, iC⟩ := IW_adc (c := 2) hi1
      refine ⟨?_, ID_cg ?_ ?_ iD, IH_cg ?_ ?_ iH, IV_cg ?_ (fun c k1 k2 => ?_) iV, IS_cg ?_ ?_ ?_ ?_ ?_ iS, IC_cg (fun i hi => ?_) iC⟩
      · obtain ⟨q1, q2, q3, q4, q5⟩ := iX
        unfold IX
        obtain ⟨d, hd, ed⟩ := hi1.1.2.2.1 e he
        simp (disch := omega) only [sr_n, sr_e]
        refine ⟨q1, q2, fun f hf2 => ?_, fun f hf2 h0 => ?_, q5⟩
        · by_cases c : f = e
          · subst c
            rw [upd_e, ed]
            exact dor_up (szN f) (by have := szN_le f; omega) b hb d (by have := @p2_le f; omega) hd
          · rw [upd_n c]
            exact q3 f hf2
        · by_cases c : f = e
          · subst c
            unfold adc at h0
            rw [sr_n (by decide), w3, hf] at h0
            exact absurd h0 (by decide)
          · rw [upd_n c]
            exact q4 f hf2 h0
      all_goals simp (disch := omega) only [sr_n]
    · intro k hk
      rw [upd_n (by omega), upd_n (by omega), upd_n (by omega)]
      exact hfa k hk
    · simp (disch := omega) only [sr_n]
      unfold adc
      rw [sr_n (by decide), w3]
    · simp (disch := omega) only [sr_n]
      unfold adc
      rw [sr_e, upd_e, k3]
      rfl
    · simp (disch := omega) only [sr_n]
      unfold adc
      rw [sr_e, upd_n (by decide), k7]
    · simp (disch := omega) only [sr_n]
      unfold adc
      rw [sr_e, upd_n (by decide), k8, hf]
/-! reads of all blocks of some extents -/
def K1 (K : Nat) (w : RS) : Prop := IK K w
theorem IK_acc {K : Nat} {w w' : RS} {e : Nat} (hf : bit1 (w 3 e)) (h : IK K w) (h3 : ∃ c, c ≤ 10 ∧ w' 1 3 = w 1 3 + nI c) (h7 : w' 1 7 = w 1 7 + 1) (h8 : w' 1 8 = w 1 8 + w 3 e) : IK (K + 10) w' := by
  obtain ⟨⟨c, hc, ec⟩, n, f, hn, hfn, en, ef⟩ := h
  obtain ⟨d, hd, ed⟩ := h3
  refine ⟨⟨c + d, by omega, by rw [ed, ec, nI_add]⟩, ?_⟩
  rcases hf with q | q
  · exact ⟨n + 1, f, by omega, by omega, by rw [h7, en, j1], by rw [h8, ef, q, Int32.add_zero]⟩
  · exact ⟨n + 1, f + 1, by omega, by omega, by rw [h7, en, j1], by rw [h8, ef, q, j1]⟩
theorem IK_le {K L : Nat} {w : RS} (h : IK K w) (hl : K ≤ L) : IK L w := by
  obtain ⟨h1, n, f, h2, h3, h4, h5⟩ := h
  exact ⟨upto_le h1 hl, n, f, by omega, h3, h4, h5⟩
