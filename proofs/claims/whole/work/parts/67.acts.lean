/-! STEPS BY HAND -/
def AC (K : Nat) (nn : RS) (hh : HS) (a b : Nat → Int32) : Prop := RK K nn b ∧ RHi K hh b ∧ b 0 = a 0
theorem AC.same {K L : Nat} {nn : RS} {hh : HS} {a : Nat → Int32} (h1 : RK K nn a) (h2 : RHi K hh a) (hl : K ≤ L) : AC L nn hh a a := ⟨RK_le h1 hl, RHi_le h2 hl, rfl⟩
theorem AC.fin {K L n : Nat} {nn w' : RS} {hh : HS} {a a1 a' : Nat → Int32} (h1 : IK K nn) (h2 : RHi K hh a1) (h0 : a1 0 = a 0) (hs : SM n nn a1 w' a') (hl : K + n ≤ L) : AC L w' hh a a' :=
  ⟨⟨hs.1, hs.2.1, IK_le (hs.2.2.2 K h1) hl⟩, RHi_le (RHi_cg (fun k hk => hs.2.2.1 k (by omega)) h2) (by omega), (hs.2.2.1 0 (by omega)).trans h0⟩
section A1
variable {N K : Nat} {nn xx mm pp : RS} {hh : HS} {a : Nat → Int32}
/-- ahead of a step by hand -/
theorem ahead (hN : 2000 ≤ N) (hn : RK K nn a) (hh1 : RHi K hh a) : ∃ h' a1, fX4_push N nn hh = some h' ∧ fX12_keep N (sr mm 1 a) = some (sr mm 1 a1) ∧ RHi K h' a1 ∧ a1 0 = a 0 ∧ RW nn a1 := by
  obtain ⟨h', a1, g1, g2, g3, g4⟩ := push_ok (mm := mm) hN hh1 hn
  exact ⟨h', a1, g1, g2, g3, g4 0 (by decide) (by decide) (by decide), RW_EW EW.rf (fun k k1 k2 => g4 k (by omega) (by omega) k2) hn.1⟩
theorem t_read (hN : 2000 ≤ N) (hn : RK K nn a) (hh1 : RHi K hh a) (x y : Int32) : ∃ r nn' hh' a', fX11_read N x y xx nn hh = some (r, nn', hh') ∧ fX12_read N x y (sr mm 1 a) = some (r, sr mm 1 a') ∧ AC (K + 10) nn' hh' a a' := by
  unfold fX11_read fX12_read
  rcases blk_c N x y with ⟨h1, h2⟩ | ⟨e, b, he, hb, rfl, rfl, h1, h2⟩
  · exact ⟨-1, nn, hh, a, by rw [h1, bnd_s, if_pos rfl], by rw [h2, if_pos rfl], AC.same hn hh1 (by omega)⟩
  · obtain ⟨h', a1, g1, g2, g3, g4, g5⟩ := ahead (mm := mm) hN hn hh1
    obtain ⟨v, w', a', k1, k2, k3, -⟩ := read_SC (N := N) (mm := mm) (by omega) he hb g5 hn.2.1
    exact ⟨v, w', h', a', by rw [h1, bnd_s, if_neg (by decide), g1, bnd_s, k1, bnd_s], by rw [h2, if_neg (by decide), g2, bnd_s, k2, bnd_s], AC.fin hn.2.2 g3 g4 k3.sm (by omega)⟩
theorem t_write (hN : 2000 ≤ N) (hn : RK K nn a) (hh1 : RHi K hh a) (x y v : Int32) : ∃ r nn' hh' a', fX11_write N x y v xx nn hh = some (r, nn', hh') ∧ fX12_write N x y v (sr mm 1 a) = some (r, sr mm 1 a') ∧ AC (K + 10) nn' hh' a a' := by
  unfold fX11_write fX12_write
  rcases blk_c N x y with ⟨h1, h2⟩ | ⟨e, b, he, hb, rfl, rfl, h1, h2⟩
  · exact ⟨-1, nn, hh, a, by rw [h1, bnd_s, if_pos rfl], by rw [h2, if_pos rfl], AC.same hn hh1 (by omega)⟩
  · rw [h1, h2, bnd_s, if_neg (show ¬ (1 : Int32) = 0 by decide), if_neg (show ¬ (1 : Int32) = 0 by decide)]
    rcases isIn0 v 999 (n := 999) rfl (by decide) with ⟨q1, q2⟩ | ⟨j, q1, rfl, q3⟩
    · refine ⟨-1, nn, hh, a, ?_, by rw [q1, if_pos rfl], AC.same hn hh1 (by omega)⟩
      rcases q2 with q | ⟨q, q2⟩
      · rw [if_pos q]
      · rw [if_neg q, if_neg (Int32.not_lt.mpr (show (1000 : Int32) ≤ v from q2))]
    · obtain ⟨h', a1, g1, g2, g3, g4, g5⟩ := ahead (mm := mm) hN hn hh1
      obtain ⟨w', a', k1, k2, k3⟩ := write_SC (N := N) (mm := mm) (x := nI j) (by omega) he hb g5 hn.2.1
      refine ⟨nn 3 e, w', h', a', ?_, ?_, AC.fin hn.2.2 g3 g4 k3.sm (by omega)⟩
      · rw [if_neg (nlt_0 (by omega)), if_pos (show nI j < 1000 from nI_lt (b := 1000) (by omega) (by decide)), g1, bnd_s, k1, bnd_s, inb_nI he (by omega), ck_t, cl_nI (by omega), k3.2.2.2.1]
      · rw [q3, if_neg (by decide), g2, bnd_s, k2, bnd_s]
theorem t_scan (hN : 2000 ≤ N) (hn : RK K nn a) (hh1 : RHi K hh a) (x y : Int32) : ∃ r nn' hh' a', fX11_scan N x y xx nn hh = some (r, nn', hh') ∧ fX12_scan N x y (sr mm 1 a) = some (r, sr mm 1 a') ∧ AC (K + 230) nn' hh' a a' := by
  unfold fX11_scan fX12_scan
  rcases ext_c x with ⟨h1, h2, -⟩ | ⟨e, he, rfl, h1, h2⟩
  · exact ⟨-1, nn, hh, a, by rw [h1, if_pos rfl], by rw [h2, if_pos rfl], AC.same hn hh1 (by omega)⟩
  · rw [h1, h2, if_neg (show ¬ (1 : Int32) = 0 by decide), if_neg (show ¬ (1 : Int32) = 0 by decide)]
    rcases ext_c y with ⟨h3, h4, -⟩ | ⟨f, hf, rfl, h3, h4⟩
    · exact ⟨-1, nn, hh, a, by rw [h3, if_pos rfl], by rw [h4, if_pos rfl], AC.same hn hh1 (by omega)⟩
    · rw [h3, h4, if_neg (show ¬ (1 : Int32) = 0 by decide), if_neg (show ¬ (1 : Int32) = 0 by decide)]
      by_cases c : e ≤ f
      · obtain ⟨h', a1, g1, g2, g3, g4, g5⟩ := ahead (mm := mm) hN hn hh1
        obtain ⟨q, w', a', k1, k2, k3⟩ := scan_ok (N := N) (mm := mm) (by omega) he hf g5 hn.2.1
        exact ⟨w' 1 8 - nn 1 8, w', h', a', by rw [if_pos (nI_le c (by omega)), g1, bnd_s, thn_e, k1, bnd_s], by rw [if_pos (nI_le c (by omega)), g2, bnd_s, k2, bnd_s], AC.fin hn.2.2 g3 g4 k3.sm (by omega)⟩
      · exact ⟨-1, nn, hh, a, by rw [if_neg (nI_ge (by omega) (by omega))], by rw [if_neg (nI_ge (by omega) (by omega))], AC.same hn hh1 (by omega)⟩
theorem SM_pin {w : RS} {a : Nat → Int32} {e v : Nat} (he : e < 10) (hv : v ≤ 2) (hr : RW w a) (hi : IW w) : SM 0 w a (sr w 4 (upd (w 4) e (nI v))) (upd a (69 + e) (nI v)) := by
  refine ⟨RW_s4 he hr, ⟨?_, IN_cg hi.2 (fun c hc => sr_n (by omega))⟩, fun k hk => upd_n (by omega), fun K hK => IK_cg (by rw [sr_n (by decide)]) (by rw [sr_n (by decide)]) (by rw [sr_n (by decide)]) hK⟩
  obtain ⟨z1, z2, z3, z4, z5, z6, z7, z8⟩ := hi.1
  unfold IX
  simp (disch := omega) only [sr_n, sr_e]
  exact ⟨z1, all_upd z2 ⟨v, hv, rfl⟩, z3, z4, z5, z6, z7, z8⟩
theorem t_pin (hN : 2000 ≤ N) (hn : RK K nn a) (hh1 : RHi K hh a) (x y : Int32) : ∃ r nn' hh' a', fX11_pin N x y xx nn hh = some (r, nn', hh') ∧ fX12_pin N x y (sr mm 1 a) = some (r, sr mm 1 a') ∧ AC (K + 10) nn' hh' a a' := by
  unfold fX11_pin fX12_pin
  rcases ext_c x with ⟨h1, h2, -⟩ | ⟨e, he, rfl, h1, h2⟩
  · exact ⟨0, nn, hh, a, by rw [h1, if_pos rfl], by rw [h2, if_pos rfl], AC.same hn hh1 (by omega)⟩
  · rw [h1, h2, if_neg (show ¬ (1 : Int32) = 0 by decide), if_neg (show ¬ (1 : Int32) = 0 by decide)]
    rcases isIn0 y 2 (n := 2) rfl (by decide) with ⟨q1, q2⟩ | ⟨j, q1, rfl, q3⟩
    · refine ⟨0, nn, hh, a, ?_, by rw [q1, if_pos rfl], AC.same hn hh1 (by omega)⟩
      rcases q2 with q | ⟨q, q2⟩
      · rw [if_pos q]
      · rw [if_neg q, if_pos (show (2 : Int32) < y from ge_lt (n := 2) (by decide) q2)]
    · rw [q3, if_neg (show ¬ (1 : Int32) = 0 by decide), if_neg (nlt_0 (by omega)), if_neg (show ¬ (2 : Int32) < nI j from nI_nlt (a := 2) q1 (by decide)), inb_nI he (by omega), ck_t, cl_nI (n := e) (by omega), i69, inb_nI (by omega) (by omega), ck_t, cl_nI (n := 69 + e) (by omega), sr_e]
      have e69 : a (69 + e) = nn 4 e := hn.1.2.1.2.1 e he
      rw [e69]
      by_cases c : nn 4 e = nI j
      · rw [if_pos c, if_pos c]
        exact ⟨0, nn, hh, a, rfl, rfl, AC.same hn hh1 (by omega)⟩
      · rw [if_neg c, if_neg c]
        obtain ⟨h', a1, g1, g2, g3, g4, g5⟩ := ahead (mm := mm) hN hn hh1
        have hs := SM_pin he q1 g5 hn.2.1
        obtain ⟨w', a', k1, k2, k3, -⟩ := wd_SM (N := N) (mm := mm) (by omega) hs.1 hs.2.1 5 (nI e) (nI j)
        exact ⟨1, w', h', a', by rw [g1, bnd_s, thn_e, st_d, k1, bnd_s], by rw [g2, bnd_s, thn_e, st_sr, k2, bnd_s], AC.fin hn.2.2 g3 g4 (hs.tr k3) (by omega)⟩
theorem SM_tell {w : RS} {a : Nat → Int32} {i v : Nat} (hi3 : i < 3) (hv : v ≤ [6, 12, 40].getD i 0) (hr : RW w a) (hi : IW w) : SM 0 w a (sr w 1 (upd (w 1) (4 + i) (nI v))) (upd a (7 + i) (nI v)) := by
  have e : 7 + i = 3 + (4 + i) := by omega
  rw [e]
  refine ⟨RW_s1 (by omega) hr, ?_, fun k hk => upd_n (by omega), fun K hK => IK_cg (by rw [sr_e, upd_n (by omega)]) (by rw [sr_e, upd_n (by omega)]) (by rw [sr_e, upd_n (by omega)]) hK⟩
  obtain ⟨iX, iD, iH, iV, iS, iC1, iC4, iC5, iC6⟩ := hi
  refine ⟨IX_cg (fun c hc => sr_n (by omega)) iX, ID_cg (sr_n (by decide)) (sr_n (by decide)) iD, IH_cg (sr_n (by decide)) (sr_n (by decide)) iH, IV_cg (sr_n (by decide)) (fun c q1 q2 => sr_n (by omega)) iV, IS_cg (sr_n (by decide)) (sr_n (by decide)) (sr_n (by decide)) (sr_n (by decide)) (sr_n (by decide)) iS, ?_, ?_, ?_, ?_⟩
  · rw [sr_e, upd_n (by omega)]; exact iC1
  · rw [sr_e]
    by_cases c : i = 0
    · subst c; exact ⟨v, hv, upd_e _ _ _⟩
    · rw [upd_n (by omega)]; exact iC4
  · rw [sr_e]
    by_cases c : i = 1
    · subst c; exact ⟨v, hv, upd_e _ _ _⟩
    · rw [upd_n (by omega)]; exact iC5
  · rw [sr_e]
    by_cases c : i = 2
    · subst c; exact ⟨v, hv, upd_e _ _ _⟩
    · rw [upd_n (by omega)]; exact iC6
theorem t_tell (hN : 2000 ≤ N) (hn : RK K nn a) (hh1 : RHi K hh a) (x y : Int32) : ∃ r nn' hh' a', fX11_tell N x y xx nn hh = some (r, nn', hh') ∧ fX12_tell N x y (sr mm 1 a) = some (r, sr mm 1 a') ∧ AC (K + 10) nn' hh' a a' := by
  unfold fX11_tell fX12_tell
  rcases isIn0 x 2 (n := 2) rfl (by decide) with ⟨q1, q2⟩ | ⟨i, q1, rfl, q3⟩
  · refine ⟨0, nn, hh, a, ?_, by rw [q1, if_pos rfl], AC.same hn hh1 (by omega)⟩
    rcases q2 with q | ⟨q, q2⟩
    · rw [if_pos q]
    · rw [if_neg q, if_pos (show (2 : Int32) < x from ge_lt (n := 2) (by decide) q2)]
  · rw [q3, if_neg (show ¬ (1 : Int32) = 0 by decide), if_neg (nlt_0 (by omega)), if_neg (show ¬ (2 : Int32) < nI i from nI_nlt (a := 2) q1 (by decide))]
    have core : ∀ M : Nat, M ≤ 40 → M = [6, 12, 40].getD i 0 → fX11_mostTold (nI i) = nI M → ∃ r nn' hh' a', (if y < 0 then some (0, nn, hh) else if y ≤ fX11_mostTold (nI i) then (bnd (fX4_push N nn hh) fun r1 => ck (inb (4 + nI i) 13) <| thn (st nn 1 (4 + nI i).toNatClampNeg y) fun nn_3 => some (1, nn_3, r1)) else some (0, nn, hh)) = some (r, nn', hh') ∧ fX12_tell_L32 N (nI i) y y 0 (nI M) (sr mm 1 a) = some (r, sr mm 1 a') ∧ AC (K + 10) nn' hh' a a' := by
      intro M hM1 hM hT
      unfold fX12_tell_L32
      rw [hT]
      rcases isIn0 y (nI M) (n := M) rfl (by omega) with ⟨k1, k2⟩ | ⟨j, k1, rfl, k3⟩
      · refine ⟨0, nn, hh, a, ?_, by rw [k1, if_pos rfl], AC.same hn hh1 (by omega)⟩
        rcases k2 with q | ⟨q, q2⟩
        · rw [if_pos q]
        · rw [if_neg q, if_neg (Int32.not_le.mpr (ge_lt (by omega) q2))]
      · obtain ⟨h', a1, g1, g2, g3, g4, g5⟩ := ahead (mm := mm) hN hn hh1
        have hs := SM_tell (i := i) (v := j) (by omega) (by omega) g5 hn.2.1
        refine ⟨1, _, h', _, ?_, ?_, AC.fin hn.2.2 g3 g4 hs (by omega)⟩
        · rw [if_neg (nlt_0 (by omega)), if_pos (nI_le k1 (by omega)), g1, bnd_s, show (4 : Int32) + nI i = nI (4 + i) from nI_add 4 i, inb_nI (by omega) (by omega), ck_t, cl_nI (by omega), thn_e, st_d]
        · rw [k3, if_neg (by decide), g2, bnd_s, i7, inb_nI (by omega) (by omega), ck_t, cl_nI (by omega), thn_e, st_sr]
    have h3 : i = 0 ∨ i = 1 ∨ i = 2 := by omega
    rcases h3 with rfl | rfl | rfl
    · rw [if_pos (show nI 0 = 0 by decide)]
      exact core 6 (by decide) rfl (by decide)
    · rw [if_neg (show ¬ nI 1 = 0 by decide), if_pos (show nI 1 = 1 by decide)]
      exact core 12 (by decide) rfl (by decide)
    · rw [if_neg (show ¬ nI 2 = 0 by decide), if_neg (show ¬ nI 2 = 1 by decide)]
      exact core 40 (by decide) rfl (by decide)
theorem t_ask (hN : 2000 ≤ N) (hn : RK K nn a) (hh1 : RHi K hh a) (x : Int32) : ∃ r nn' hh' a', fX11_ask N x xx nn hh = some (r, nn', hh') ∧ fX12_ask N x (sr mm 1 a) = some (r, sr mm 1 a') ∧ AC (K + 10) nn' hh' a a' := by
  unfold fX11_ask fX12_ask
  rcases ext_c x with ⟨h1, h2, -⟩ | ⟨e, he, rfl, h1, h2⟩
  · exact ⟨-1, nn, hh, a, by rw [h1, if_pos rfl], by rw [h2, if_pos rfl], AC.same hn hh1 (by omega)⟩
  · obtain ⟨m, r, hm, h23, f1, f2, f3⟩ := find_eq (N := N) (mm := mm) (by omega) hn.1 (nI e)
    rw [h1, h2, if_neg (show ¬ (1 : Int32) = 0 by decide), if_neg (show ¬ (1 : Int32) = 0 by decide), f1, f2, bnd_s, bnd_s]
    rcases f3 with ⟨i, i1, i2, i3, rfl⟩ | ⟨i1, rfl⟩
    · exact ⟨-1, nn, hh, a, by rw [if_neg (ne_m1 (by omega))], by rw [if_neg (nlt_0 (by omega))], AC.same hn hh1 (by omega)⟩
    · obtain ⟨h', a1, g1, g2, g3, g4, g5⟩ := ahead (mm := mm) hN hn hh1
      obtain ⟨w', a', k1, k2, k3, k4, -⟩ := add_SM (N := N) (mm := mm) hm he g5 hn.2.1 h23 i1
      refine ⟨nI (m + 1), w', h', a', ?_, ?_, AC.fin hn.2.2 g3 g4 k3 (by omega)⟩
      · rw [if_pos rfl, g1, bnd_s, inb_nI he (by omega), ck_t, cl_nI (by omega), k1, bnd_s, k4]
      · rw [if_pos m1_neg, g2, bnd_s, k2, bnd_s, sr_e, m17_of k3.1 k4]
theorem t_drop (hN : 2000 ≤ N) (hn : RK K nn a) (hh1 : RHi K hh a) (x : Int32) : ∃ r nn' hh' a', fX11_drop N x xx nn hh = some (r, nn', hh') ∧ fX12_drop N x (sr mm 1 a) = some (r, sr mm 1 a') ∧ AC (K + 10) nn' hh' a a' := by
  unfold fX11_drop fX12_drop
  obtain ⟨m, r, hm, h23, f1, f2, f3⟩ := find_eq (N := N) (mm := mm) (by omega) hn.1 x
  rw [f1, f2, bnd_s, bnd_s]
  rcases ext_c x with ⟨-, h2, h4⟩ | ⟨e, he, rfl, -, h2⟩
  · have := find_no hn.2.1 hm h23 h4 f3
    exact ⟨-1, nn, hh, a, by rw [if_pos this], by rw [h2, if_pos rfl], AC.same hn hh1 (by omega)⟩
  · rw [h2, if_neg (show ¬ (1 : Int32) = 0 by decide)]
    rcases id f3 with ⟨i, i1, i2, i3, rfl⟩ | ⟨i1, rfl⟩
    · rw [if_neg (ne_m1 (by omega)), if_neg (ne_m1 (by omega))]
      obtain ⟨h', a1, g1, g2, g3, g4, g5⟩ := ahead (mm := mm) hN hn hh1
      obtain ⟨m2, r2, hm2, h232, f4, f5, f6⟩ := find_eq (N := N) (mm := mm) (by omega) g5 (nI e)
      have er : r2 = nI i := Option.some.inj (f4.symm.trans f1)
      subst er
      obtain ⟨e2, hv⟩ := mv_ex g5 hn.2.1 h23 hm i1
      obtain ⟨w', a', k1, k2, k3, k4, -⟩ := drop_ok (N := N) (mm := mm) (by omega) g5 hn.2.1 hv
      refine ⟨nI (m - 1), w', h', a', ?_, ?_, AC.fin hn.2.2 g3 g4 k3 (by omega)⟩
      · rw [g1, bnd_s, k1, bnd_s, k4]
      · rw [g2, bnd_s, f5, bnd_s, k2, bnd_s, sr_e, m17_of k3.1 k4]
    · exact ⟨-1, nn, hh, a, by rw [if_pos rfl], by rw [if_pos rfl], AC.same hn hh1 (by omega)⟩
theorem t_day (hN : 2000 ≤ N) (hn : RK K nn a) (hh1 : RHi K hh a) (x : Int32) : ∃ r nn' pp' hh' mm' a', fX11_day N x xx nn pp hh = some (r, nn', pp', hh') ∧ fX12_day N x (sr mm 1 a) = some (r, sr mm' 1 a') ∧ AC (K + 432) nn' hh' a a' ∧ fr6 mm mm' := by
  unfold fX11_day fX12_day
  rcases day_c x with ⟨h1, h2⟩ | ⟨n, hd, rfl, h1, h2⟩
  · exact ⟨-1, nn, pp, hh, mm, a, by rw [h1, if_pos rfl], by rw [h2, if_pos rfl], AC.same hn hh1 (by omega), fr6.rf⟩
  · obtain ⟨h', a1, g1, g2, g3, g4, g5⟩ := ahead (mm := mm) hN hn hh1
    obtain ⟨w', a', p', mm', k1, k2, k3, k4⟩ := ticks_ok (N := N) (mm := mm) hN hd g5 hn.2.1 pp
    exact ⟨w' 1 0, w', p', h', mm', a', by rw [h1, if_neg (by decide), g1, bnd_s, k1, bnd_s], by rw [h2, if_neg (by decide), g2, bnd_s, k2, bnd_s, sr_e, (row13_iff.mp k3.1.1).1], AC.fin hn.2.2 g3 g4 k3 (by omega), k4⟩
theorem t_crash (hN : 2000 ≤ N) (hn : RK K nn a) (hh1 : RHi K hh a) : ∃ r nn' hh' a', fX11_crash N xx nn hh = some (r, nn', hh') ∧ fX12_crash N (sr mm 1 a) = some (r, sr mm 1 a') ∧ AC (K + 10) nn' hh' a a' := by
  unfold fX11_crash fX12_crash
  obtain ⟨h', a1, g1, g2, g3, g4, g5⟩ := ahead (mm := mm) hN hn hh1
  obtain ⟨m, w', a', -, k1, k2, k3⟩ := crash_ok (N := N) (mm := mm) (by omega) g5 hn.2.1
  exact ⟨nI m, w', h', a', by rw [g1, bnd_s, k1, bnd_s], by rw [g2, bnd_s, k2, bnd_s], AC.fin hn.2.2 g3 g4 k3 (by omega)⟩
theorem t_years (hN : 2000 ≤ N) (hn : RK K nn a) (hh1 : RHi K hh a) (x y : Int32) : ∃ r nn' pp' hh' mm' a', fX11_years N x y xx nn pp hh = some (r, nn', pp', hh') ∧ fX12_years N x y (sr mm 1 a) = some (r, sr mm' 1 a') ∧ AC (K + 5520) nn' hh' a a' ∧ fr6 mm mm' := by
  unfold fX11_years fX12_years
  rcases isIn0 x 9999 (n := 9999) rfl (by decide) with ⟨q1, q2⟩ | ⟨s, q1, rfl, q3⟩
  · refine ⟨-1, nn, pp, hh, mm, a, ?_, by rw [q1, if_pos rfl], AC.same hn hh1 (by omega), fr6.rf⟩
    rcases q2 with q | ⟨q, q2⟩
    · rw [if_pos q]
    · rw [if_neg q, if_pos (show (9999 : Int32) < x from ge_lt (n := 9999) (by decide) q2)]
  · rw [q3, if_neg (show ¬ (1 : Int32) = 0 by decide), if_neg (nlt_0 (by omega)), if_neg (show ¬ (9999 : Int32) < nI s from nI_nlt (a := 9999) q1 (by decide))]
    have yc : (fX12_isIn y 1 24 = 0 ∧ (y < 1 ∨ ¬ y < 1 ∧ ¬ y ≤ 24)) ∨ ∃ n, n ≤ 24 ∧ y = nI n ∧ ¬ y < 1 ∧ fX12_isIn y 1 24 = 1 := by
      unfold fX12_isIn
      by_cases c1 : y < 1
      · exact Or.inl ⟨if_pos c1, Or.inl c1⟩
      · rw [if_neg c1]
        by_cases c2 : y ≤ 24
        · rw [if_neg (Int32.not_lt.mpr c2)]
          obtain ⟨j, hj, rfl⟩ := nI_of2 (x := y) (M := 24) (n := 24) (by decide) (fun q => c1 (Int32.lt_trans q (by decide))) c2
          exact Or.inr ⟨j, hj, rfl, c1, rfl⟩
        · rw [if_pos (Int32.not_le.mp c2)]
          exact Or.inl ⟨rfl, Or.inr ⟨c1, c2⟩⟩
    rcases yc with ⟨k1, k2⟩ | ⟨n, k1, rfl, k2, k3⟩
    · refine ⟨-1, nn, pp, hh, mm, a, ?_, by rw [k1, if_pos rfl], AC.same hn hh1 (by omega), fr6.rf⟩
      rcases k2 with q | ⟨q, q2⟩
      · rw [if_pos q]
      · rw [if_neg q, if_neg q2]
    · obtain ⟨h', a1, g1, g2, g3, g4, g5⟩ := ahead (mm := mm) hN hn hh1
      obtain ⟨w', a', p', mm', t1, t2, t3, t4⟩ := years_ok (N := N) (mm := mm) (y1 := nI s) hN q1 k1 g5 hn.2.1 pp
      exact ⟨w' 1 0, w', p', h', mm', a', by rw [if_neg k2, if_pos (show nI n ≤ 24 from nI_le (b := 24) k1 (by decide)), g1, bnd_s, t1, bnd_s], by rw [k3, if_neg (by decide), g2, bnd_s, thn_e, st_sr, t2], AC.fin hn.2.2 g3 g4 t3 (by omega), t4⟩
end A1
