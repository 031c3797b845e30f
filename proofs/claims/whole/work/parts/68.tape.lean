/-! THE TAPE -/
theorem low8 {x y : Int32} {k : Nat} (hy : y.toInt = x.toInt / 2 ^ k) (hk : k = 24 ∨ k = 16 ∨ k = 8 ∨ k = 0) : y &&& 255 = nI (x.toBitVec.toNat / 2 ^ k % 256) := by
  rw [pk_and y 8 (by decide)]
  congr 1
  have hx := BitVec.toInt_eq_toNat_cond x.toBitVec
  have hz := BitVec.toInt_eq_toNat_cond y.toBitVec
  rw [show x.toBitVec.toInt = x.toInt from rfl] at hx
  rw [show y.toBitVec.toInt = y.toInt from rfl] at hz
  have lx := x.toBitVec.isLt
  have ly := y.toBitVec.isLt
  rw [hy] at hz
  rcases hk with rfl | rfl | rfl | rfl
  all_goals
    split at hx <;> split at hz <;> simp only [Nat.reducePow, Int.reducePow] at * <;> omega
theorem byM24 (x : Int32) : (x >>> (((24 : Int32) : Int32) &&& 31)) &&& 255 = nI (x.toBitVec.toNat / 2 ^ 24 % 256) := low8 (by rw [pk_shr x _ 24 (by decide), Int.shiftRight_eq_div_pow]; rfl) (by decide)
theorem byC24 (x : Int32) : iushr x 24 &&& 255 = nI (x.toBitVec.toNat / 2 ^ 24 % 256) := by
  have h := pk_ushr x 24 24 (by decide)
  unfold iushr
  rw [pk_and _ 8 (by decide), h]
theorem byM16 (x : Int32) : (x >>> (((16 : Int32) : Int32) &&& 31)) &&& 255 = nI (x.toBitVec.toNat / 2 ^ 16 % 256) := low8 (by rw [pk_shr x _ 16 (by decide), Int.shiftRight_eq_div_pow]; rfl) (by decide)
theorem byC16 (x : Int32) : iushr x 16 &&& 255 = nI (x.toBitVec.toNat / 2 ^ 16 % 256) := by
  have h := pk_ushr x 16 16 (by decide)
  unfold iushr
  rw [pk_and _ 8 (by decide), h]
theorem byM8 (x : Int32) : (x >>> (((8 : Int32) : Int32) &&& 31)) &&& 255 = nI (x.toBitVec.toNat / 2 ^ 8 % 256) := low8 (by rw [pk_shr x _ 8 (by decide), Int.shiftRight_eq_div_pow]; rfl) (by decide)
theorem byC8 (x : Int32) : iushr x 8 &&& 255 = nI (x.toBitVec.toNat / 2 ^ 8 % 256) := by
  have h := pk_ushr x 8 8 (by decide)
  unfold iushr
  rw [pk_and _ 8 (by decide), h]
theorem byM0 (x : Int32) : (x >>> (((0 : Int32) : Int32) &&& 31)) &&& 255 = nI (x.toBitVec.toNat / 2 ^ 0 % 256) := low8 (by rw [pk_shr x _ 0 (by decide), Int.shiftRight_eq_div_pow]; rfl) (by decide)
theorem byC0 (x : Int32) : iushr x 0 &&& 255 = nI (x.toBitVec.toNat / 2 ^ 0 % 256) := by
  have h := pk_ushr x 0 0 (by decide)
  unfold iushr
  rw [pk_and _ 8 (by decide), h]
/-- the tape: n bytes -/
def TP (n : Nat) (rr mm : RS) : Prop := n ≤ 300 ∧ rr 0 1 = nI n ∧ mm 0 4 = nI n ∧ ∀ i, i < n → ∃ b, b < 256 ∧ rr 1 i = nI b ∧ mm 4 i = nI b
def frT (rr rr' mm mm' : RS) : Prop := (∀ c, c ≠ 0 → c ≠ 1 → rr' c = rr c) ∧ (∀ k, k ≠ 1 → rr' 0 k = rr 0 k) ∧ (∀ c, c ≠ 0 → c ≠ 4 → mm' c = mm c) ∧ ∀ k, k ≠ 4 → mm' 0 k = mm 0 k
theorem frT.rf {rr mm : RS} : frT rr rr mm mm := ⟨fun _ _ _ => rfl, fun _ _ => rfl, fun _ _ _ => rfl, fun _ _ => rfl⟩
theorem frT.tr {r1 r2 r3 m1 m2 m3 : RS} (h : frT r1 r2 m1 m2) (g : frT r2 r3 m2 m3) : frT r1 r3 m1 m3 := ⟨fun c a b => (g.1 c a b).trans (h.1 c a b), fun k a => (g.2.1 k a).trans (h.2.1 k a), fun c a b => (g.2.2.1 c a b).trans (h.2.2.1 c a b), fun k a => (g.2.2.2 k a).trans (h.2.2.2 k a)⟩
def apR (rr : RS) (n b : Nat) : RS := sr (sr rr 1 (upd (rr 1) n (nI b))) 0 (upd (rr 0) 1 (nI (n + 1)))
def apM (mm : RS) (n b : Nat) : RS := sr (sr mm 4 (upd (mm 4) n (nI b))) 0 (upd (mm 0) 4 (nI (n + 1)))
theorem ap_TP {n b : Nat} {rr mm : RS} (hn : n < 300) (hb : b < 256) (h : TP n rr mm) : TP (n + 1) (apR rr n b) (apM mm n b) ∧ frT rr (apR rr n b) mm (apM mm n b) := by
  obtain ⟨h1, h2, h3, h4⟩ := h
  unfold apR apM
  refine ⟨⟨hn, by rw [sr_e, upd_e], by rw [sr_e, upd_e], fun i hi => ?_⟩, fun c a1 a2 => by rw [sr_n a1, sr_n a2], fun k a1 => by rw [sr_e, upd_n a1], fun c a1 a2 => by rw [sr_n a1, sr_n a2], fun k a1 => by rw [sr_e, upd_n a1]⟩
  rw [sr_n (by decide), sr_e, sr_n (by decide), sr_e]
  by_cases c : i = n
  · subst c
    exact ⟨b, hb, upd_e _ _ _, upd_e _ _ _⟩
  · rw [upd_n c, upd_n c]
    exact h4 i (by omega)
theorem apC {N n k : Nat} {x s : Int32} {b : Nat} {rr : RS} (hs : ¬ s < 0) (hn : n < 300) (h : rr 0 1 = nI n) (hb : iushr x s &&& 255 = nI b) : fX8_append_L3 N x (k + 1) s rr = fX8_append_L3 N x k (s + -8) (apR rr n b) := by
  rw [fX8_append_L3, if_neg hs, h, if_neg (fun q => absurd ((le_300 (by omega)).mp q) (by omega)), inb_nI hn (by omega), ck_t, cl_nI (by omega), hb, thn_e, thn_e]
  unfold apR
  simp (disch := decide) only [st_d, sr_n, h, j1]
theorem apF {N n k : Nat} {x s : Int32} {b : Nat} {mm : RS} (hs : ¬ s < 0) (hn : n < 300) (h : mm 0 4 = nI n) (hb : (x >>> (s &&& 31)) &&& 255 = nI b) : fX12_four_L3 N x (k + 1) s mm = fX12_four_L3 N x k (s + -8) (apM mm n b) := by
  rw [fX12_four_L3, if_neg hs, h, inb_nI hn (by omega), ck_t, cl_nI (by omega), hb, thn_e, thn_e]
  unfold apM
  simp (disch := decide) only [st_d, sr_n, h, j1]
theorem four_ok {N n : Nat} (hN : 97 ≤ N) {x : Int32} {rr mm : RS} (hn : n + 4 ≤ 300) (h : TP n rr mm) : ∃ rr' mm', fX8_append N x rr = some rr' ∧ fX12_four N x mm = some mm' ∧ TP (n + 4) rr' mm' ∧ frT rr rr' mm mm' := by
  obtain ⟨k, rfl⟩ : ∃ k, N = k + 5 := ⟨N - 5, by omega⟩
  have b256 : ∀ y : Nat, y % 256 < 256 := fun y => Nat.mod_lt _ (by decide)
  obtain ⟨t1, f1⟩ := ap_TP (by omega) (b256 (x.toBitVec.toNat / 2 ^ 24)) h
  obtain ⟨t2, f2⟩ := ap_TP (by omega) (b256 (x.toBitVec.toNat / 2 ^ 16)) t1
  obtain ⟨t3, f3⟩ := ap_TP (by omega) (b256 (x.toBitVec.toNat / 2 ^ 8)) t2
  obtain ⟨t4, f4⟩ := ap_TP (by omega) (b256 (x.toBitVec.toNat / 2 ^ 0)) t3
  refine ⟨_, _, ?_, ?_, t4, ((f1.tr f2).tr f3).tr f4⟩
  · unfold fX8_append
    rw [apC (by decide) (by omega) h.2.1 (byC24 x), show (24 : Int32) + -8 = 16 from by decide, apC (by decide) (by omega) t1.2.1 (byC16 x), show (16 : Int32) + -8 = 8 from by decide, apC (by decide) (by omega) t2.2.1 (byC8 x), show (8 : Int32) + -8 = 0 from by decide, apC (by decide) (by omega) t3.2.1 (byC0 x), show (0 : Int32) + -8 = -8 from by decide, fX8_append_L3, if_pos (by decide)]
  · unfold fX12_four
    rw [apF (by decide) (by omega) h.2.2.1 (byM24 x), show (24 : Int32) + -8 = 16 from by decide, apF (by decide) (by omega) t1.2.2.1 (byM16 x), show (16 : Int32) + -8 = 8 from by decide, apF (by decide) (by omega) t2.2.2.1 (byM8 x), show (8 : Int32) + -8 = 0 from by decide, apF (by decide) (by omega) t3.2.2.1 (byM0 x), show (0 : Int32) + -8 = -8 from by decide, fX12_four_L3, if_pos (by decide)]
theorem t_feed {N : Nat} (hN : 97 ≤ N) {xx rr mm : RS} (hT : ∃ n, TP n rr mm) (x1 x2 x3 x4 x5 : Int32) : ∃ r rr' mm', fX11_feed N x1 x2 x3 x4 x5 xx rr = some (r, rr') ∧ fX12_feed N x1 x2 x3 x4 x5 mm = some (r, mm') ∧ (∃ n, TP n rr' mm') ∧ frT rr rr' mm mm' := by
  obtain ⟨n, hT⟩ := hT
  unfold fX11_feed fX12_feed
  rw [hT.2.1, hT.2.2.1, show nI n + 20 = nI (n + 20) from nI_add n 20]
  have h300 := hT.1
  by_cases c : n ≤ 280
  · rw [if_pos (show nI n ≤ 280 from nI_le (b := 280) c (by decide)), if_pos (show nI (n + 20) ≤ 300 from nI_le (b := 300) (by omega) (by decide))]
    obtain ⟨r1, m1, a1, b1, c1, d1⟩ := four_ok (N := N) (x := x1) hN (by omega) hT
    obtain ⟨r2, m2, a2, b2, c2, d2⟩ := four_ok (N := N) (x := x2) hN (by omega) c1
    obtain ⟨r3, m3, a3, b3, c3, d3⟩ := four_ok (N := N) (x := x3) hN (by omega) c2
    obtain ⟨r4, m4, a4, b4, c4, d4⟩ := four_ok (N := N) (x := x4) hN (by omega) c3
    obtain ⟨r5, m5, a5, b5, c5, d5⟩ := four_ok (N := N) (x := x5) hN (by omega) c4
    exact ⟨nI (n + 4 + 4 + 4 + 4 + 4), r5, m5, by rw [a1, bnd_s, a2, bnd_s, a3, bnd_s, a4, bnd_s, a5, bnd_s, c5.2.1], by rw [b1, bnd_s, b2, bnd_s, b3, bnd_s, b4, bnd_s, b5, bnd_s, c5.2.2.1], ⟨_, c5⟩, (((d1.tr d2).tr d3).tr d4).tr d5⟩
  · rw [if_neg (show ¬ nI n ≤ 280 from nI_ge (a := 280) (by omega) (by omega)), if_neg (show ¬ nI (n + 20) ≤ 300 from nI_ge (a := 300) (by omega) (by omega))]
    exact ⟨_, rr, mm, rfl, rfl, ⟨n, hT⟩, frT.rf⟩
theorem t_end {xx rr mm : RS} (hT : ∃ n, TP n rr mm) (x : Int32) : ∃ r rr' mm', fX11_end x xx rr = (r, rr') ∧ fX12_end x mm = (r, mm') ∧ (∃ n, TP n rr' mm') ∧ frT rr rr' mm mm' := by
  obtain ⟨n, hT⟩ := hT
  unfold fX11_end fX12_end
  have h300 := hT.1
  rw [hT.2.1, hT.2.2.1]
  rcases isIn0 x (nI n) (n := n) rfl (by omega) with ⟨g1, g2⟩ | ⟨j, g1, rfl, g3⟩
  · refine ⟨-1, rr, mm, ?_, by rw [g1, if_pos rfl], ⟨n, hT⟩, frT.rf⟩
    rcases g2 with q | ⟨q, q2⟩
    · rw [if_pos q]
    · rw [if_neg q, if_neg (Int32.not_le.mpr (ge_lt (by omega) q2))]
  · refine ⟨nI j, _, _, by rw [if_neg (nlt_0 (by omega)), if_pos (nI_le g1 (by omega)), thn_e], by rw [g3, if_neg (by decide), thn_e], ⟨j, by omega, by rw [st_d, sr_e, upd_e], by rw [st_d, sr_e, upd_e], fun i hi => ?_⟩, fun c a1 a2 => by rw [st_d, sr_n a1], fun k a1 => by rw [st_d, sr_e, upd_n a1], fun c a1 a2 => by rw [st_d, sr_n a1], fun k a1 => by rw [st_d, sr_e, upd_n a1]⟩
    rw [st_d, st_d, sr_n (by decide), sr_n (by decide)]
    exact hT.2.2.2 i (by omega)
theorem t_fault {xx rr mm : RS} (h2 : rr 0 2 = mm 0 5) (h3 : rr 0 3 = mm 0 6) (x : Int32) : fX11_fault x xx rr = fX12_fault x mm := by
  unfold fX11_fault fX12_fault
  rw [h2, h3]
theorem t_about {xx rr mm : RS} {hh : HS} (h1 : xx 0 7 = mm 1 0) (h2 : hh 0 0 2 = mm 1 1) (h3 : rr 0 1 = mm 0 4) (x : Int32) : fX11_about x xx rr hh = fX12_about x mm := by
  unfold fX11_about fX12_about
  rw [h1, h2, h3]
