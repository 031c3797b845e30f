/-! YEARS -/
theorem nek {r : Nat} (k : Nat) (hr : r < 10) (hk : k < 100) (h : r ≠ k) : ¬ nI r = nI k := fun q => h ((eq_nI (by omega) (by omega)).mp q)
theorem nz_nI {n : Nat} (h0 : 0 < n) (h : n < 2147483648) : nz (nI n) = true := decide_eq_true (nI_ne0 h0 h)
theorem irem_N {a b : Nat} (ha : a < 2147483648) (h0 : 0 < b) (hb : b < 2147483648) : irem (nI a) (nI b) = nI (a % b) := pk_rem ha h0 hb
theorem r4 {a : Nat} (ha : a < 2147483648) : irem (nI a) 4 = nI (a % 4) := irem_N (b := 4) ha (by decide) (by decide)
theorem r9 {a : Nat} (ha : a < 2147483648) : irem (nI a) 9 = nI (a % 9) := irem_N (b := 9) ha (by decide) (by decide)
theorem r10 {a : Nat} (ha : a < 2147483648) : irem (nI a) 10 = nI (a % 10) := irem_N (b := 10) ha (by decide) (by decide)
theorem r30 {a : Nat} (ha : a < 2147483648) : irem (nI a) 30 = nI (a % 30) := irem_N (b := 30) ha (by decide) (by decide)
theorem r1000 {a : Nat} (ha : a < 2147483648) : irem (nI a) 1000 = nI (a % 1000) := irem_N (b := 1000) ha (by decide) (by decide)
theorem r10000 {a : Nat} (ha : a < 2147483648) : irem (nI a) 10000 = nI (a % 10000) := irem_N (b := 10000) ha (by decide) (by decide)
theorem rXx {a : Nat} (ha : a < 2147483648) : irem (nI a) 31139 = nI (a % 31139) := irem_N (b := 31139) ha (by decide) (by decide)
theorem d10 {a : Nat} (ha : a < 2147483648) : nI a / 10 = nI (a / 10) := pk_div (d := 10) ha (by decide) (by decide)
theorem d100 {a : Nat} (ha : a < 2147483648) : nI a / 100 = nI (a / 100) := pk_div (d := 100) ha (by decide) (by decide)
theorem draw_C {x : Nat} (hx : x ≤ 31138) : irem (nI x * 773 + 641) 31139 = nI ((x * 773 + 641) % 31139) := by
  rw [show nI x * 773 = nI (x * 773) from mul_nI x 773, show nI (x * 773) + 641 = nI (x * 773 + 641) from nI_add _ 641, rXx (by omega)]
theorem draw_M {x : Nat} (hx : x ≤ 31138) : (lrem (((nI x).toInt64 * 773) + 641) 31139).toInt32 = nI ((x * 773 + 641) % 31139) := by
  rw [nI_l (by omega), show (773 : Int64) = lN 773 from by decide, show (641 : Int64) = lN 641 from by decide, show (31139 : Int64) = lN 31139 from by decide, lN_mul, lN_add]
  unfold lrem
  rw [pk_lRem (by omega) (by decide) (by decide), lN_i]
theorem SM_x {w : RS} {a : Nat → Int32} {x : Nat} (hx : x ≤ 31138) (hr : RW w a) (hi : IW w) : SM 0 w a (sr w 1 (upd (w 1) 1 (nI x))) (upd a 4 (nI x)) := by
  refine ⟨RW_s1 (i := 1) (by omega) hr, ?_, fun k hk => upd_n (by omega), fun K hK => IK_cg (by rw [sr_e, upd_n (by decide)]) (by rw [sr_e, upd_n (by decide)]) (by rw [sr_e, upd_n (by decide)]) hK⟩
  obtain ⟨iX, iD, iH, iV, iS, iC1, iC4, iC5, iC6⟩ := hi
  refine ⟨IX_cg (fun c hc => sr_n (by omega)) iX, ID_cg (sr_n (by decide)) (sr_n (by decide)) iD, IH_cg (sr_n (by decide)) (sr_n (by decide)) iH, IV_cg (sr_n (by decide)) (fun c q1 q2 => sr_n (by omega)) iV, IS_cg (sr_n (by decide)) (sr_n (by decide)) (sr_n (by decide)) (sr_n (by decide)) (sr_n (by decide)) iS, ⟨x, hx, by rw [sr_e, upd_e]⟩, ?_, ?_, ?_⟩
  · rw [sr_e, upd_n (by decide)]; exact iC4
  · rw [sr_e, upd_n (by decide)]; exact iC5
  · rw [sr_e, upd_n (by decide)]; exact iC6
theorem happen_ok {N x : Nat} (hN : 2000 ≤ N) (hx : x ≤ 31138) {w mm : RS} {a : Nat → Int32} (hr : RW w a) (hi : IW w) (pp : RS) :
    ∃ w' a' p' mm', fX10_happen N (nI x) w pp = some (w', p') ∧ fX12_happens N (nI x) (sr mm 1 a) = some (sr mm' 1 a') ∧ SM 230 w a w' a' ∧ fr6 mm mm' := by
  have hp : x / 10 % 10 * (x / 100 % 10) ≤ 9 * 9 := Nat.mul_le_mul (by omega) (by omega)
  obtain ⟨e, he0⟩ : ∃ e, e = x / 10 % 10 * (x / 100 % 10) / 10 := ⟨_, rfl⟩
  have he : e < 10 := by omega
  have hz := szN_le e
  have hxe : irem (nI x) (nI (szN e)) = nI (x % szN e) := irem_N (by omega) (by omega) (by omega)
  have hb : x % szN e < szN e := Nat.mod_lt _ (by omega)
  have ee : irem (nI (x / 10)) 10 * irem (nI x / 100) 10 / 10 = nI e := by
    rw [r10 (by omega), d100 (by omega), r10 (by omega), mul_nI, d10 (by omega), ← he0]
  have h10 : x % 10 < 10 := Nat.mod_lt _ (by decide)
  have hC : fX10_happen N (nI x) w pp = (if 3 < nI (x % 10) then (if 5 < nI (x % 10) then (if nI (x % 10) = 6 then (bnd (fX10_readExtents N (nI (x / 10 % 9)) (nI (x / 10 % 9 + 1)) 23 w) fun r8 => some (r8.2, pp)) else (if nI (x % 10) = 9 then (if nI (x / 10 % 4) = 0 then (bnd (fX10_loseMemory N w) fun r7 => some (r7.2, pp)) else fX10_happen_L126 N (nI x) w pp) else fX10_happen_L126 N (nI x) w pp)) else (bnd (fX10_writeBlock N (nI e) (nI (x % szN e)) (nI (x % 1000)) w) fun r9 => some (r9, pp))) else (bnd (fX10_readBlock N (nI e) (nI (x % szN e)) w) fun r10 => some (r10.2, pp))) := by
    unfold fX10_happen
    rw [thn_e, d10 (by omega), ee, thn_e, inb_nI he (by omega), ck_t, cl_nI (by omega), sizeT_N e he, nz_nI (by omega) (by omega), ck_t, thn_e, thn_e, hxe, r10 (by omega), r9 (by omega), r4 (by omega), r1000 (by omega), j1]
  have hM : fX12_happens N (nI x) (sr mm 1 a) = (if nI (x % 10) = 4 then (bnd (fX12_writeNow N (nI e) (nI (x % szN e)) (nI (x % 1000)) (sr mm 1 a)) fun r4 => some r4.2) else (if nI (x % 10) = 5 then (bnd (fX12_writeNow N (nI e) (nI (x % szN e)) (nI (x % 1000)) (sr mm 1 a)) fun r6 => some r6.2) else (if nI (x % 10) = 6 then (bnd (fX12_scanNow N (nI (x / 10 % 9)) (nI (x / 10 % 9 + 1)) (sr mm 1 a)) fun r7 => some r7.2) else (if nI (x % 10) = 7 then (bnd (fX12_tick N (sr mm 1 a)) fun r8 => some r8) else (if nI (x % 10) = 8 then (bnd (fX12_tick N (sr mm 1 a)) fun r9 => some r9) else (if nI (x % 10) = 9 then (if nI (x / 10 % 4) = 0 then (bnd (fX12_crashNow N (sr mm 1 a)) fun r11 => some r11.2) else (bnd (fX12_tick N (sr mm 1 a)) fun r10 => some r10)) else (bnd (fX12_readNow N (nI e) (nI (x % szN e)) (sr mm 1 a)) fun r13 => some r13.2))))))) := by
    unfold fX12_happens
    rw [thn_e, thn_e, d10 (by omega), ee, sizeM_N e he, nz_nI (by omega) (by omega), ck_t, ck_t, hxe, r10 (by omega), r9 (by omega), r4 (by omega), r1000 (by omega), j1]
  have tk : ∃ w' a' p' mm', fX10_happen_L126 N (nI x) w pp = some (w', p') ∧ fX12_tick N (sr mm 1 a) = some (sr mm' 1 a') ∧ SM 230 w a w' a' ∧ fr6 mm mm' := by
    obtain ⟨w', a', p', F, g1, g2, g3⟩ := tick_ok (mm := mm) hN hr hi pp
    exact ⟨w', a', p', sr mm 6 F, by unfold fX10_happen_L126; rw [g1, bnd_s], g2, g3.le (by omega), fr6.of⟩
  have lt3 : ∀ k : Nat, k < 100 → (nI k < nI (x % 10) ↔ k < x % 10) := fun k hk => lt_nI (by omega) (by omega)
  by_cases k3 : x % 10 ≤ 3
  · rw [if_neg (show ¬ 3 < nI (x % 10) from fun q => absurd ((lt3 3 (by omega)).mp q) (by omega))] at hC
    rw [if_neg (show ¬ nI (x % 10) = 4 from nek 4 h10 (by omega) (by omega)), if_neg (show ¬ nI (x % 10) = 5 from nek 5 h10 (by omega) (by omega)), if_neg (show ¬ nI (x % 10) = 6 from nek 6 h10 (by omega) (by omega)), if_neg (show ¬ nI (x % 10) = 7 from nek 7 h10 (by omega) (by omega)), if_neg (show ¬ nI (x % 10) = 8 from nek 8 h10 (by omega) (by omega)), if_neg (show ¬ nI (x % 10) = 9 from nek 9 h10 (by omega) (by omega))] at hM
    obtain ⟨v, w', a', g1, g2, g3, -⟩ := read_SC (N := N) (mm := mm) (by omega) he hb hr hi
    exact ⟨w', a', pp, mm, by rw [hC, g1, bnd_s], by rw [hM, g2, bnd_s], g3.sm.le (by omega), fr6.rf⟩
  · rw [if_pos (show 3 < nI (x % 10) from (lt3 3 (by omega)).mpr (by omega))] at hC
    by_cases k5 : x % 10 ≤ 5
    · rw [if_neg (show ¬ 5 < nI (x % 10) from fun q => absurd ((lt3 5 (by omega)).mp q) (by omega))] at hC
      obtain ⟨w', a', g1, g2, g3⟩ := write_SC (N := N) (mm := mm) (x := nI (x % 1000)) (by omega) he hb hr hi
      refine ⟨w', a', pp, mm, by rw [hC, g1, bnd_s], ?_, g3.sm.le (by omega), fr6.rf⟩
      rw [hM]
      by_cases k4 : x % 10 = 4
      · rw [if_pos (show nI (x % 10) = 4 by rw [k4]; rfl), g2, bnd_s]
      · rw [if_neg (show ¬ nI (x % 10) = 4 from nek 4 h10 (by omega) (by omega)), if_pos (show nI (x % 10) = 5 by rw [show x % 10 = 5 from by omega]; rfl), g2, bnd_s]
    · rw [if_pos (show 5 < nI (x % 10) from (lt3 5 (by omega)).mpr (by omega))] at hC
      rw [if_neg (show ¬ nI (x % 10) = 4 from nek 4 h10 (by omega) (by omega)), if_neg (show ¬ nI (x % 10) = 5 from nek 5 h10 (by omega) (by omega))] at hM
      by_cases k6 : x % 10 = 6
      · rw [if_pos (show nI (x % 10) = 6 by rw [k6]; rfl)] at hC hM
        obtain ⟨q, w', a', g1, g2, g3⟩ := scan_ok (N := N) (mm := mm) (f := x / 10 % 9) (t := x / 10 % 9 + 1) (by omega) (by omega) (by omega) hr hi
        exact ⟨w', a', pp, mm, by rw [hC, g1, bnd_s], by rw [hM, g2, bnd_s], g3.sm.le (by omega), fr6.rf⟩
      · rw [if_neg (show ¬ nI (x % 10) = 6 from nek 6 h10 (by omega) (by omega))] at hC hM
        obtain ⟨w', a', p', mm', t1, t2, t3, t4⟩ := tk
        by_cases k9 : x % 10 = 9
        · rw [if_pos (show nI (x % 10) = 9 by rw [k9]; rfl)] at hC hM
          rw [if_neg (show ¬ nI (x % 10) = 7 from nek 7 h10 (by omega) (by omega)), if_neg (show ¬ nI (x % 10) = 8 from nek 8 h10 (by omega) (by omega))] at hM
          by_cases kc : nI (x / 10 % 4) = 0
          · rw [if_pos kc] at hC hM
            obtain ⟨m, w', a', -, g1, g2, g3⟩ := crash_ok (N := N) (mm := mm) (by omega) hr hi
            exact ⟨w', a', pp, mm, by rw [hC, g1, bnd_s], by rw [hM, g2, bnd_s], g3.le (by omega), fr6.rf⟩
          · rw [if_neg kc] at hC hM
            exact ⟨w', a', p', mm', hC.trans t1, by rw [hM, t2, bnd_s], t3, t4⟩
        · rw [if_neg (show ¬ nI (x % 10) = 9 from nek 9 h10 (by omega) (by omega))] at hC
          refine ⟨w', a', p', mm', hC.trans t1, ?_, t3, t4⟩
          rw [hM]
          by_cases k7 : x % 10 = 7
          · rw [if_pos (show nI (x % 10) = 7 by rw [k7]; rfl), t2, bnd_s]
          · rw [if_neg (show ¬ nI (x % 10) = 7 from nek 7 h10 (by omega) (by omega)), if_pos (show nI (x % 10) = 8 by rw [show x % 10 = 8 from by omega]; rfl), t2, bnd_s]
theorem years_ok {N s n : Nat} {y1 : Int32} (hN : 2000 ≤ N) (hs : s ≤ 9999) (hn : n ≤ 24) {w mm : RS} {a : Nat → Int32} (hr : RW w a) (hi : IW w) (pp : RS) :
    ∃ w' a' p' mm', fX10_live N (nI s) (nI n) w pp = some (w', p') ∧ fX12_years_L42 N y1 (nI n) N 0 (sr mm 1 (upd a 4 (nI s * 2 + 409))) = some (w' 1 0, sr mm' 1 a') ∧ SM 5520 w a w' a' ∧ fr6 mm mm' := by
  have key : ∀ d i k k2 w1 a1 p1 m1, n - i = d → i ≤ n → d < k → d < k2 → SM (230 * i) w a w1 a1 → fr6 mm m1 →
      ∃ w' a' p' mm', fX10_live_L16 N (nI s) (nI n) k (nI i) w1 p1 = some (w', p') ∧ fX12_years_L42 N y1 (nI n) k2 (nI i) (sr m1 1 a1) = some (w' 1 0, sr mm' 1 a') ∧ SM (230 * n) w a w' a' ∧ fr6 mm mm' := by
    intro d
    induction d with
    | zero =>
      intro i k k2 w1 a1 p1 m1 h1 h2 h3 h4 hs hf
      obtain ⟨k, rfl⟩ : ∃ j, k = j + 1 := ⟨k - 1, by omega⟩
      obtain ⟨k2, rfl⟩ : ∃ j, k2 = j + 1 := ⟨k2 - 1, by omega⟩
      refine ⟨w1, a1, p1, m1, ?_, ?_, hs.le (by omega), hf⟩
      · rw [fX10_live_L16, if_pos (nI_le (by omega) (by omega))]
      · rw [fX12_years_L42, if_pos (nI_le (by omega) (by omega)), sr_e, (row13_iff.mp hs.1.1).1]
    | succ d ih =>
      intro i k k2 w1 a1 p1 m1 h1 h2 h3 h4 hs hf
      obtain ⟨k, rfl⟩ : ∃ j, k = j + 1 := ⟨k - 1, by omega⟩
      obtain ⟨k2, rfl⟩ : ∃ j, k2 = j + 1 := ⟨k2 - 1, by omega⟩
      obtain ⟨x, hx, ex⟩ := hs.2.1.2.2.2.2.2.1
      have ea : a1 4 = nI x := ((row13_iff.mp hs.1.1).2.1).trans ex
      have hx2 : (x * 773 + 641) % 31139 ≤ 31138 := by omega
      have h0 := SM_x hx2 hs.1 hs.2.1
      obtain ⟨w2, a2, p2, m2, g1, g2, g3, g4⟩ := happen_ok (mm := m1) hN hx h0.1 h0.2.1 p1
      obtain ⟨w', a', p', mm', i1, i2, i3, i4⟩ := ih (i + 1) k k2 w2 a2 p2 m2 (by omega) (by omega) (by omega) (by omega) (((hs.tr h0).tr g3).le (by omega)) (hf.tr g4)
      refine ⟨w', a', p', mm', ?_, ?_, i3, i4⟩
      · rw [fX10_live_L16, if_neg (nI_ge (by omega) (by omega)), thn_e, thn_e, ex, draw_C hx, st_d, g1, bnd_s, j1]
        exact i1
      · rw [fX12_years_L42, if_neg (nI_ge (by omega) (by omega))]
        unfold fX12_drawn
        rw [thn_e, thn_e, thn_e, sr_e, ea, draw_M hx, st_sr, g2, bnd_s, j1]
        exact i2
  have e0 : nI s * 2 + 409 = nI (2 * s + 409) := by rw [mr2]; exact nI_add _ 409
  have h0 := SM_x (x := 2 * s + 409) (by omega) hr hi
  obtain ⟨w', a', p', mm', g1, g2, g3, g4⟩ := key n 0 N N _ _ pp mm (by omega) (by omega) (by omega) (by omega) h0 fr6.rf
  refine ⟨w', a', p', mm', ?_, ?_, g3.le (by omega), g4⟩
  · unfold fX10_live
    rw [thn_e, st_d, e0]
    exact g1
  · rw [e0]
    exact g2
