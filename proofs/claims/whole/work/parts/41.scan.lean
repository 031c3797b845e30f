/-! SCANS -/
def SC (n : Nat) (w : RS) (a : Nat → Int32) (w' : RS) (a' : Nat → Int32) : Prop := RW w' a' ∧ IW w' ∧ FA a a' ∧ w' 3 = w 3 ∧ ∀ K, IK K w → IK (K + n) w'
theorem SC.rf {w : RS} {a : Nat → Int32} (hr : RW w a) (hi : IW w) : SC 0 w a w a := ⟨hr, hi, FA.rf, rfl, fun _ h => h⟩
theorem SC.tr {n m : Nat} {w w1 w2 : RS} {a a1 a2 : Nat → Int32} (h1 : SC n w a w1 a1) (h2 : SC m w1 a1 w2 a2) : SC (n + m) w a w2 a2 :=
  ⟨h2.1, h2.2.1, h1.2.2.1.tr h2.2.2.1, h2.2.2.2.1.trans h1.2.2.2.1, fun K h => by rw [← Nat.add_assoc]; exact h2.2.2.2.2 _ (h1.2.2.2.2 K h)⟩
theorem SC.le {n m : Nat} {w w1 : RS} {a a1 : Nat → Int32} (h : SC n w a w1 a1) (hm : n ≤ m) : SC m w a w1 a1 := ⟨h.1, h.2.1, h.2.2.1, h.2.2.2.1, fun K hk => IK_le (h.2.2.2.2 K hk) (by omega)⟩
theorem read_SC {N : Nat} (hN : 24 ≤ N) {w mm : RS} {a : Nat → Int32} {e b : Nat} (he : e < 10) (hb : b < szN e) (hr : RW w a) (hi : IW w) :
    ∃ v w' a', fX10_readBlock N (nI e) (nI b) w = some (v, w') ∧ fX12_readNow N (nI e) (nI b) (sr mm 1 a) = some (v, sr mm 1 a') ∧ SC 10 w a w' a' ∧ w' 1 8 = w 1 8 + w 3 e := by
  obtain ⟨v, w', a', h1, h2, h3, h4, h5, h6, h7, h8, h9⟩ := read_ok (mm := mm) hN he hb hr hi
  exact ⟨v, w', a', h1, h2, ⟨h3, h4, h5, h6, fun K hk => IK_acc (hi.1.1 e he) hk h7 h8 h9⟩, h9⟩
theorem write_SC {N : Nat} (hN : 24 ≤ N) {w mm : RS} {a : Nat → Int32} {e b : Nat} {x : Int32} (he : e < 10) (hb : b < szN e) (hr : RW w a) (hi : IW w) :
    ∃ w' a', fX10_writeBlock N (nI e) (nI b) x w = some w' ∧ fX12_writeNow N (nI e) (nI b) x (sr mm 1 a) = some (w 3 e, sr mm 1 a') ∧ SC 10 w a w' a' := by
  obtain ⟨w', a', h1, h2, h3, h4, h5, h6, h7, h8, h9⟩ := write_ok (mm := mm) (x := x) hN he hb hr hi
  exact ⟨w', a', h1, h2, ⟨h3, h4, h5, h6, fun K hk => IK_acc (hi.1.1 e he) hk h7 h8 h9⟩⟩
def fz (x : Int32) (n : Nat) : Int32 := if x = 1 then nI n else 0
theorem fz_s {x v : Int32} {n : Nat} (h : bit1 x) : v + x + fz x n = v + fz x (n + 1) := by
  unfold fz
  rcases h with h | h
  · rw [h, if_neg (by decide), if_neg (by decide), Int32.add_zero]
  · rw [h, if_pos rfl, if_pos rfl, Int32.add_assoc, Int32.add_comm 1, j1]
theorem scanI {N : Nat} (hN : 24 ≤ N) {mm : RS} {x1 x2 y1 y2 x3 : Int32} {left e : Nat} (he : e < 10) (hl : left < 1000) (k6 : Int32 → Int32 → RS → Option (Int32 × RS)) (k5 : Int32 → Int32 → RS → Option (Int32 × RS)) :
    ∀ d b dn k k2 w a, szN e - b = d → b ≤ szN e → d < k → d < k2 → RW w a → IW w → dn + d ≤ left →
      ∃ w' a', fX10_readExtents_L15 N x1 x2 (nI left) k6 k (nI dn) (nI e) (nI b) w = k6 (nI (dn + d)) (nI (e + 1)) w' ∧ fX12_scanNow_L35 N y1 y2 k5 k2 x3 (nI e) (nI b) (sr mm 1 a) = k5 x3 (nI (e + 1)) (sr mm 1 a') ∧ SC (10 * d) w a w' a' ∧ w' 1 8 = w 1 8 + fz (w 3 e) d := by
  have hz := szN_le e
  intro d
  induction d with
  | zero =>
    intro b dn k k2 w a h1 h2 h3 h4 hr hi hd
    obtain ⟨k, rfl⟩ : ∃ j, k = j + 1 := ⟨k - 1, by omega⟩
    obtain ⟨k2, rfl⟩ : ∃ j, k2 = j + 1 := ⟨k2 - 1, by omega⟩
    have eb : b = szN e := by omega
    subst eb
    refine ⟨w, a, ?_, ?_, SC.rf hr hi, ?_⟩
    · show ck (inb (nI e) 10) _ = _
      rw [inb_nI he (by omega), ck_t, cl_nI (by omega), sizeT_N e he, if_pos (nI_le (Nat.le_refl _) (by omega))]
      unfold fX10_readExtents_L50
      rw [j1]
      rfl
    · show (if fX12_sizeOf (nI e) ≤ nI (szN e) then _ else _) = _
      rw [sizeM_N e he, if_pos (nI_le (Nat.le_refl _) (by omega)), j1]
    · unfold fz
      split
      · exact (Int32.add_zero _).symm
      · exact (Int32.add_zero _).symm
  | succ d ih =>
    intro b dn k k2 w a h1 h2 h3 h4 hr hi hd
    obtain ⟨k, rfl⟩ : ∃ j, k = j + 1 := ⟨k - 1, by omega⟩
    obtain ⟨k2, rfl⟩ : ∃ j, k2 = j + 1 := ⟨k2 - 1, by omega⟩
    obtain ⟨v, w1, a1, g1, g2, g3, g4⟩ := read_SC (mm := mm) hN he (by omega : b < szN e) hr hi
    obtain ⟨w2, a2, i1, i2, i3, i4⟩ := ih (b + 1) (dn + 1) k k2 w1 a1 (by omega) (by omega) (by omega) (by omega) g3.1 g3.2.1 (by omega)
    refine ⟨w2, a2, ?_, ?_, (g3.tr i3).le (by omega), ?_⟩
    · show ck (inb (nI e) 10) _ = _
      rw [inb_nI he (by omega), ck_t, cl_nI (by omega), sizeT_N e he, if_neg (nI_ge (by omega) (by omega)), if_neg (nI_ge (by omega) (by omega)), g1, bnd_s, j1, j1, i1, show dn + 1 + d = dn + (d + 1) from by omega]
    · show (if fX12_sizeOf (nI e) ≤ nI b then _ else _) = _
      rw [sizeM_N e he, if_neg (nI_ge (by omega) (by omega)), g2, bnd_s, j1]
      exact i2
    · rw [i4, g4, g3.2.2.2.1]
      exact fz_s (hi.1.1 e he)
theorem fz_sz {x : Int32} {e : Nat} : fz x (szN e) = if x = 1 then nI (szN e) else 0 := rfl
theorem bsum_s : ∀ e, e < 10 → ∀ t, t < 10 → e ≤ t → sN 10 (fun i => if e ≤ i ∧ i ≤ t then szN i else 0) = szN e + sN 10 (fun i => if e + 1 ≤ i ∧ i ≤ t then szN i else 0) := by decide +kernel
theorem bsum {f t : Nat} : sN 10 (fun e => if f ≤ e ∧ e ≤ t then szN e else 0) ≤ 23 :=
  Nat.le_trans (sN_le (g := szN) fun i _ => by split <;> omega) (by decide)
/-- a scan by hand: how many blocks were fast -/
theorem scan_ok {N : Nat} (hN : 24 ≤ N) {w mm : RS} {a : Nat → Int32} {f t : Nat} (hf : f < 10) (ht : t < 10) (hr : RW w a) (hi : IW w) :
    ∃ q w' a', fX10_readExtents N (nI f) (nI t) 23 w = some (q, w') ∧ fX12_scanNow N (nI f) (nI t) (sr mm 1 a) = some (w' 1 8 - w 1 8, sr mm 1 a') ∧ SC 230 w a w' a' := by
  have key : ∀ d e dn k k2 w1 a1, t + 1 - e = d → e ≤ 10 → d < k → d < k2 → SC (10 * dn) w a w1 a1 → dn + sN 10 (fun i => if e ≤ i ∧ i ≤ t then szN i else 0) ≤ 23 →
      ∃ q w' a', fX10_readExtents_L6 N (nI f) (nI t) (nI 23) k (nI dn) (nI e) w1 = some (q, w') ∧ fX12_scanNow_L5 N (nI f) (nI t) k2 (w1 1 8 - w 1 8) (nI e) (sr mm 1 a1) = some (w' 1 8 - w 1 8, sr mm 1 a') ∧ SC 230 w a w' a' := by
    intro d
    induction d with
    | zero =>
      intro e dn k k2 w1 a1 h1 h2 h3 h4 hs hb
      obtain ⟨k, rfl⟩ : ∃ j, k = j + 1 := ⟨k - 1, by omega⟩
      obtain ⟨k2, rfl⟩ : ∃ j, k2 = j + 1 := ⟨k2 - 1, by omega⟩
      refine ⟨nI dn, w1, a1, ?_, ?_, hs.le (by omega)⟩
      · show (if nI t < nI e then _ else _) = _
        rw [if_pos (nI_lt (by omega) (by omega))]
      · show (if nI t < nI e then _ else _) = _
        rw [if_pos (nI_lt (by omega) (by omega))]
    | succ d ih =>
      intro e dn k k2 w1 a1 h1 h2 h3 h4 hs hb
      obtain ⟨k, rfl⟩ : ∃ j, k = j + 1 := ⟨k - 1, by omega⟩
      obtain ⟨k2, rfl⟩ : ∃ j, k2 = j + 1 := ⟨k2 - 1, by omega⟩
      have he : e < 10 := by omega
      have hz := szN_le e
      rw [bsum_s e he t ht (by omega)] at hb
      obtain ⟨w2, a2, g1, g2, g3, g4⟩ := scanI (mm := mm) (x1 := nI f) (x2 := nI t) (y1 := nI f) (y2 := nI t) (x3 := (w1 1 8 - w 1 8) + fz (w1 3 e) (szN e)) (left := 23) hN he (by decide) (fX10_readExtents_L6 N (nI f) (nI t) (nI 23) k) (fX12_scanNow_L5 N (nI f) (nI t) k2) (szN e) 0 dn N N w1 a1 rfl (by omega) (by omega) (by omega) hs.1 hs.2.1 (by omega)
      obtain ⟨q, w', a', i1, i2, i3⟩ := ih (e + 1) (dn + szN e) k k2 w2 a2 (by omega) (by omega) (by omega) (by omega) ((hs.tr g3).le (by omega)) (by omega)
      refine ⟨q, w', a', ?_, ?_, i3⟩
      · show (if nI t < nI e then _ else fX10_readExtents_L15 N (nI f) (nI t) (nI 23) (fX10_readExtents_L6 N (nI f) (nI t) (nI 23) k) N (nI dn) (nI e) (nI 0) w1) = _
        rw [if_neg (nI_nlt (by omega) (by omega)), g1]
        exact i1
      · have e3 : a1 (109 + e) = w1 3 e := hs.1.2.1.1 e he
        have hx : ∀ c, fX12_scanNow_L30 N (nI f) (nI t) (fX12_scanNow_L5 N (nI f) (nI t) k2) (nI e) (w1 1 8 - w 1 8) c (sr mm 1 a1) = fX12_scanNow_L35 N (nI f) (nI t) (fX12_scanNow_L5 N (nI f) (nI t) k2) N ((w1 1 8 - w 1 8) + c) (nI e) (nI 0) (sr mm 1 a1) := fun _ => rfl
        have hy : (if nI t < nI e then some (w1 1 8 - w 1 8, sr mm 1 a1) else (bnd (fX12_isFast N (nI e) (sr mm 1 a1)) fun r1 => if r1 = 0 then (fX12_scanNow_L30 N (nI f) (nI t) (fX12_scanNow_L5 N (nI f) (nI t) k2) (nI e) (w1 1 8 - w 1 8) 0 (sr mm 1 a1)) else (fX12_scanNow_L30 N (nI f) (nI t) (fX12_scanNow_L5 N (nI f) (nI t) k2) (nI e) (w1 1 8 - w 1 8) (fX12_sizeOf (nI e)) (sr mm 1 a1)))) = some (w' 1 8 - w 1 8, sr mm 1 a') := by
          rw [if_neg (nI_nlt (by omega) (by omega)), hx, hx, sizeM_N e he]
          unfold fX12_isFast
          rw [i109, inb_nI (by omega) (by omega), ck_t, cl_nI (by omega), sr_e, e3]
          have hgo : ∀ c, c = fz (w1 3 e) (szN e) → fX12_scanNow_L35 N (nI f) (nI t) (fX12_scanNow_L5 N (nI f) (nI t) k2) N ((w1 1 8 - w 1 8) + c) (nI e) (nI 0) (sr mm 1 a1) = some (w' 1 8 - w 1 8, sr mm 1 a') := by
            intro c hc
            rw [hc, g2, ← i2, g4]
            congr 1
            grind
          rcases hs.2.1.1.1 e he with q | q
          · rw [q, if_neg (by decide), bnd_s, if_pos rfl]
            exact hgo 0 (by unfold fz; rw [q, if_neg (by decide)])
          · rw [q, if_pos rfl, bnd_s, if_neg (by decide)]
            exact hgo _ (by unfold fz; rw [q, if_pos rfl])
        exact hy
  obtain ⟨q, w', a', g1, g2, g3⟩ := key (t + 1 - f) f 0 N N w a rfl (by omega) (by omega) (by omega) (SC.rf hr hi) (by have := @bsum f t; omega)
  refine ⟨q, w', a', g1, ?_, g3⟩
  rw [Int32.sub_self] at g2
  exact g2
