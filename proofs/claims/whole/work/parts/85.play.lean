/-! PLAYING: ends of blocks, the whole -/
def fX7_play_L33 (N : Nat) (tn : Nat) (tt : RS) : Nat → Int32 → RS → RS → RS → Option (Int32 × RS × RS × RS)
  | 0, _, _, _, _ => none
  | k + 1, x4, yy, ww, pp => if 1000000 ≤ x4 then (some ((yy 0 4), yy, ww, pp)) else (if 300 ≤ (yy 0 4) then (some ((yy 0 4), yy, ww, pp)) else (if (tt 0 0) ≤ (yy 0 3) then (some ((yy 0 4), yy, ww, pp)) else (bnd (fX7_statement N tn yy ww pp tt) fun r1 => fX7_play_L33 N tn tt k (x4 + 1) r1.1 r1.2.1 r1.2.2)))
def fX7_play (N : Nat) (tn : Nat) (yy : RS) (ww : RS) (pp : RS) (tt : RS) : Option (Int32 × RS × RS × RS) := thn (st yy 0 3 0) fun yy_1 => thn (st yy_1 0 4 0) fun yy_2 => thn (st yy_2 0 5 0) fun yy_3 => fX7_play_L33 N tn tt N 0 yy_3 ww pp
section Y5
variable {N tn X : Nat} {K W : Nat → Nat} {F : Nat → Int32} {tt ww pp yy mm : RS} {c acts : Nat} {o e r T : Nat → Nat} {S : Nat → Prop}
theorem step_leave (hT : CTx tn K F tt) (hX : X ≤ 1806) (h : PLS tn X K W F o e r T c acts yy mm) (hc : c < tn) (ha : acts < 300) (hr : RW ww (mm 1)) (hi : IW ww) (hk : K c = 125) (hd : 0 < dep K c) (hS : Sok tn K W F S) :
    STEP tn X K W F S o e r c acts ww mm (fX7_statement N tn yy ww pp tt) (fX12_goStatement N mm) := by
  have htn := hT.1
  obtain ⟨D, eD⟩ : ∃ D, dep K c = D + 1 := ⟨dep K c - 1, by omega⟩
  obtain ⟨b1, b2, b3, b4, b5, b6, b7, b8, b9, ⟨b10, b11, b12⟩, b13⟩ := id h
  rw [eD] at b3 b6 b7 b10 b12 b13
  obtain ⟨hcl, g2, g3, g4, g5, g6⟩ := b12 D (by omega)
  obtain ⟨a1, a2, a3, a4, a5, a6, a7⟩ := b13 D (by omega)
  have ee : e D = c := by
    by_cases q : e D = c
    · exact q
    · exfalso
      have := hcl.2.2.2.2.1 (c + 1) (by omega) (by omega)
      have e1 : dep K (c + 1) = if K c = 123 then dep K c + 1 else if K c = 125 then dep K c - 1 else dep K c := rfl
      rw [if_neg (by omega), if_pos hk] at e1
      omega
  obtain ⟨c1, c2, c3, c4, c5, c6, c7⟩ := id hcl
  rw [ee] at c1 c3 c4 c5 c6 c7
  have ed1 : dep K (c + 1) = D := by
    have := dep_cl hcl
    rw [ee] at this
    omega
  have efn : ∀ d, flg K (c + 1) d = flg K c d := fun d => flg_nc (fun z => by omega)
  have hls := lc_s (K := K) (i := c) (d := D)
  have hlD : lc K c D ≤ D := lc_le
  have iD : inb (nI D) 3 = true := inb_nI (by omega) (by decide)
  have cD : (nI D).toNatClampNeg = D := cl_nI (by omega)
  have sD : nI (D + 1) - (1 : Int32) = nI D := nsub1
  have y5 : YA yy (c + 1) 0 5 = nI (D + 1) := by rw [YA_n (by decide)]; exact b3
  have y1 : YA yy (c + 1) 1 D = nI (r D) := by rw [YA_o (by decide)]; exact a4
  have y2 : YA yy (c + 1) 2 D = nI (T D) := by rw [YA_o (by decide)]; exact a5
  have y3 : YA yy (c + 1) 0 3 = nI (c + 1) := YA_3
  have sc : nI (c + 1) - (1 : Int32) = nI c := nsub1
  have hcc : fX7_statement N tn yy ww pp tt = bnd (if nI (T D) ≤ nI (r D + 1) then some (sr (sr (YA yy (c + 1)) 1 (upd (yy 1) D (nI (r D + 1)))) 0 (upd (YA yy (c + 1) 0) 5 (nI D))) else some (sr (sr (YA yy (c + 1)) 1 (upd (yy 1) D (nI (r D + 1)))) 0 (upd (YA yy (c + 1) 0) 3 (nI (o D + 1))))) fun r16 => some (r16, ww, pp) := by
    unfold fX7_statement
    rw [wordC hT h hc, bnd_s, YA1 h, thn_e, hk, if_neg (by decide), if_neg (by decide), if_neg (by decide), if_neg (by decide), if_neg (by decide), if_neg (by decide), if_neg (by decide)]
    unfold fX7_leave
    rw [y5, if_neg (show ¬ nI (D + 1) = 0 from nI_ne0 (by omega) (by omega)), sD, thn_e, iD, ck_t, cD, y1, j1, thn_e, st_d]
    simp (disch := decide) only [sr_n, sr_e, y2, y3, sc, valC hT hc, c6, bnd_s, st_d, thn_e, j1]
    rw [YA_o (by decide), upd_e]
  have m8' : ∀ {x : Int32}, mm 8 D = x → fX12_goStatement N mm = bnd (if x = -1 then fX12_goAround_L65 N x mm else ck (inb (nI (lc K c (D + 1)) - 1) 3) <| if x ≤ mm 9 (nI (lc K c (D + 1)) - 1).toNatClampNeg + 1 then fX12_goAround_L65 N x mm else some (sr (sr mm 9 (upd (mm 9) (nI (lc K c (D + 1)) - 1).toNatClampNeg (mm 9 (nI (lc K c (D + 1)) - 1).toNatClampNeg + 1))) 0 (upd (mm 0) 17 (nI (o D + 1))))) fun r8 => some r8 := by
    intro x hx
    unfold fX12_goStatement
    rw [wordM hT hX h hc, bnd_s, hk, if_pos (by decide)]
    unfold fX12_goAround
    simp (disch := decide) only [thn_e, st_d, sr_n, sr_e, b6, sD, iD, ck_t, cD, hx, b7, a3]
  have h80 : ∀ y : Int32, nI (lc K c (D + 1)) - y = nI (lc K c D) → fX12_goAround_L80 N (nI (lc K c (D + 1))) y mm = some (sr mm 0 (upd (upd (upd (mm 0) 15 (nI (lc K c D))) 14 (nI D)) 17 (nI (c + 1)))) := fun y hy => by
    unfold fX12_goAround_L80
    rw [hy]
    simp (disch := decide) only [thn_e, st_d, sr_n, sr_e, sr_sr, upd_n, b6, b4, sD, j1]
  -- out of it
  have outS : fX7_statement N tn yy ww pp tt = some (sr (sr (YA yy (c + 1)) 1 (upd (yy 1) D (nI (r D + 1)))) 0 (upd (YA yy (c + 1) 0) 5 (nI D)), ww, pp) → fX12_goStatement N mm = some (sr mm 0 (upd (upd (upd (mm 0) 15 (nI (lc K c D))) 14 (nI D)) 17 (nI (c + 1)))) → STEP tn X K W F S o e r c acts ww mm (fX7_statement N tn yy ww pp tt) (fX12_goStatement N mm) := by
    intro q1 q2
    have el : ∀ d, lc K (c + 1) d = lc K c d := fun d => lc_cg fun x hx => efn x
    refine STEP_of (pp := pp) (c' := c + 1) (o' := o) (e' := e) (r' := r) (T' := T) hr hi ha ?_ (S_close hS hc hk).2 (sr_n (by decide)) ⟨fun d a1 _ _ _ _ _ => sr_n a1, fun q _ z1 z2 z3 _ => by rw [sr_e, upd_n z3, upd_n z1, upd_n z2]⟩ ?_ q1 q2
    · refine ⟨by rw [sr_e, upd_n (by decide)]; exact y3, by rw [sr_e, upd_n (by decide), YA_n (by decide)]; exact b2, by rw [sr_e, upd_e, ed1], by rw [sr_e, upd_e], by rw [sr_e, upd_n (by decide), upd_n (by decide), upd_n (by decide)]; exact b5, by rw [sr_e, upd_n (by decide), upd_e, ed1], by rw [sr_e, upd_n (by decide), upd_n (by decide), upd_e, ed1, el], by rw [sr_e, upd_n (by decide), upd_n (by decide), upd_n (by decide)]; exact b8, by unfold MTx; rw [sr_n (by decide)]; exact b9, ⟨by omega, by omega, fun D' hD => ?_⟩, fun D' hD => ?_⟩
      · rw [ed1] at hD
        obtain ⟨z1, z2, z3, z4, z5, z6⟩ := b12 D' (by omega)
        refine ⟨z1, z2, by omega, ?_, z5, z6⟩
        have : e D' ≠ c := fun y => by
          have := z1.2.2.2.1
          rw [y] at this
          omega
        omega
      · rw [ed1] at hD
        have hne : D' ≠ D := by omega
        rw [el, efn]
        simp (disch := first | decide | assumption) only [sr_n, sr_e, YA_o, upd_n]
        exact b13 D' (by omega)
    · have := phi_ou (K := K) (o := o) (e := e) (r := r) (D := D) (by omega) (by rw [ee]; exact eD) (by rw [ee]; exact ed1) (by omega) (fun t t1 t2 => by rw [ee] at t2; have := c5 t t1 t2; omega) g6
      rw [ee] at this
      exact this
  cases hfl : flg K c D with
  | false =>
    obtain ⟨f1, f2⟩ := a7 hfl
    rw [hfl] at hls
    replace hls : lc K c (D + 1) = lc K c D := hls
    have h65 : fX12_goAround_L65 N (-1) mm = fX12_goAround_L80 N (nI (lc K c (D + 1))) 0 mm := by
      unfold fX12_goAround_L65
      rw [if_pos rfl, b7]
    have hm := m8' f1
    rw [if_pos rfl, h65, h80 0 (by rw [hls]; exact sub_nI (b := 0) (Nat.zero_le _)), bnd_s] at hm
    rw [if_pos (nI_le (by omega) (by omega)), bnd_s] at hcc
    exact outS hcc hm
  | true =>
    obtain ⟨f1, f2⟩ := a6 hfl
    rw [hfl] at hls
    replace hls : lc K c (D + 1) = lc K c D + 1 := hls
    have sl : nI (lc K c (D + 1)) - (1 : Int32) = nI (lc K c D) := by rw [hls]; exact nsub1
    have hm := m8' f1
    rw [if_neg (ne_m1 (by omega)), sl, inb_nI (by omega) (by decide), ck_t, cl_nI (by omega), f2, j1] at hm
    by_cases q : T D ≤ r D + 1
    · have h65 : fX12_goAround_L65 N (nI (T D)) mm = fX12_goAround_L80 N (nI (lc K c (D + 1))) 1 mm := by
        unfold fX12_goAround_L65
        rw [if_neg (ne_m1 (by omega)), b7]
      rw [if_pos (nI_le q (by omega)), h65, h80 1 sl, bnd_s] at hm
      rw [if_pos (nI_le q (by omega)), bnd_s] at hcc
      exact outS hcc hm
    · rw [if_neg (nI_ge (by omega) (by omega)), bnd_s] at hm
      rw [if_neg (nI_ge (by omega) (by omega)), bnd_s] at hcc
      have edo : dep K (o D + 1) = D + 1 := by rw [dep_op c2, g2]
      have ef : ∀ d, d ≤ D → flg K (o D + 1) d = flg K c d := fun d hd => (flg_in (o := o D) _ c rfl (by omega) (fun t t1 t2 => by have := c5 t t1 (by omega); omega)).symm
      have el : ∀ d, d ≤ D + 1 → lc K (o D + 1) d = lc K c d := fun d hd => lc_cg fun x hx => ef x (by omega)
      obtain ⟨r', er'⟩ : ∃ r' : Nat → Nat, r' = fun x => if x = D then r D + 1 else r x := ⟨_, rfl⟩
      have hrD : r' D = r D + 1 := by rw [er']; exact if_pos rfl
      have hrn : ∀ x, x ≠ D → r' x = r x := fun x hx => by rw [er']; exact if_neg hx
      refine STEP_of (pp := pp) (c' := o D + 1) (o' := o) (e' := e) (r' := r') (T' := T) hr hi ha ?_ (S_open hS (by omega) c2) (by rw [sr_n (by decide), sr_n (by decide)]) ⟨fun d z1 _ _ _ _ z9 => by rw [sr_n z1, sr_n z9], fun q _ z1 z2 z3 _ => by rw [sr_e, upd_n z3]⟩ ?_ hcc hm
      · refine ⟨by rw [sr_e, upd_e], by rw [sr_e, upd_n (by decide), YA_n (by decide)]; exact b2, by rw [sr_e, upd_n (by decide), y5, edo], by rw [sr_e, upd_e], by rw [sr_e, upd_n (by decide)]; exact b5, by rw [sr_e, upd_n (by decide), edo]; exact b6, by rw [sr_e, upd_n (by decide), edo, el _ (Nat.le_refl _)]; exact b7, by rw [sr_e, upd_n (by decide)]; exact b8, by unfold MTx; rw [sr_n (by decide), sr_n (by decide)]; exact b9, ⟨by omega, by omega, fun D' hD => ?_⟩, fun D' hD => ?_⟩
        · rw [edo] at hD
          obtain ⟨z1, z2, z3, z4, z5, z6⟩ := b12 D' (by omega)
          refine ⟨z1, z2, ?_, by omega, z5, ?_⟩
          · by_cases y : D' = D
            · subst y; omega
            · by_cases y2 : o D' < o D
              · omega
              · exfalso
                have hne : o D' ≠ o D := fun y3 => by rw [y3] at z2; omega
                have := c5 (o D') (by omega) (by omega)
                omega
          · by_cases y : D' = D
            · rw [y, hrD]; omega
            · rw [hrn D' y]; exact z6
        · rw [edo] at hD
          rw [el _ (by omega), ef D' (by omega)]
          by_cases y : D' = D
          · subst y
            rw [hrD]
            simp (disch := decide) only [sr_n, sr_e, upd_e]
            exact ⟨by omega, a2, a3, trivial, y2, fun _ => ⟨f1, trivial⟩, fun z => absurd (hfl.symm.trans z) (by decide)⟩
          · obtain ⟨z1, z2, z3, z4, z5, z6, z7⟩ := b13 D' (by omega)
            rw [hrn D' y]
            simp (disch := first | decide | assumption) only [sr_n, sr_e, upd_n, YA_o]
            refine ⟨z1, z2, z3, z4, z5, fun z => ⟨(z6 z).1, ?_⟩, z7⟩
            rw [upd_n ?_]
            · exact (z6 z).2
            · have : lc K c (D' + 1) = lc K c D' + 1 := by rw [lc_s, z, if_pos rfl]
              have := lc_mono (K := K) (i := c) (d := D' + 1) (e := D) (by omega)
              omega
      · have := phi_ar (K := K) (o := o) (e := e) (r := r) (r' := r') (D := D) (by rw [ee]; exact eD) edo (fun x hx => hrn x (by omega)) hrD
        rw [ee] at this
        exact this
theorem step_ok (hN : 2000 ≤ N) (hT : CTx tn K F tt) (hX : X ≤ 1806) (hTS : TSH tn K W F) (hS : Sok tn K W F S) (h : PLS tn X K W F o e r T c acts yy mm) (hc : c < tn) (hSc : S c) (ha : acts < 300) (hr : RW ww (mm 1)) (hi : IW ww) :
    STEP tn X K W F S o e r c acts ww mm (fX7_statement N tn yy ww pp tt) (fX12_goStatement N mm) := by
  obtain ⟨hK, -, -, -, hop⟩ := hTS
  obtain ⟨c', ⟨h1, h2, hok⟩, hS'⟩ := (hS.2 c hSc).2.2 hc
  rcases hok with ⟨k, rfl, kd⟩ | ⟨k, j, l, s1, k1, s2, k2, rfl⟩ | ⟨k, j, l, q, s1, k1, s2, k2, s3, k3, rfl⟩ | ⟨k, k1, rfl⟩ | ⟨k, k1, w1, w2, w3, k2, kd, rfl⟩ | ⟨k, j, l, s1, k1, s2, k2, kd, rfl⟩
  · exact step_leave hT hX h hc ha hr hi k kd hS
  · rcases k with k | k
    · exact step_read hN hT hX hK h hc ha hr hi k s1 k1 s2 k2 (by omega) hS'
    · exact step_scan hN hT hX hK h hc ha hr hi k s1 k1 s2 k2 (by omega) hS'
  · exact step_write hN hT hX hK h hc ha hr hi k s1 k1 s2 k2 s3 k3 (by omega) hS'
  · rcases k with k | k
    · exact step_tick hN hT hX h hc ha hr hi k k1 (by omega) hS'
    · exact step_crash hN hT hX h hc ha hr hi k k1 (by omega) hS'
  · obtain ⟨E, e1, e2⟩ := hop (c + 2) (by omega) k2
    exact step_loop hT hX h hc ha hr hi k k1 w1 w2 w3 k2 kd (by omega) e2 e1 hS'
  · obtain ⟨E, e1, e2⟩ := hop l (by omega) k2
    exact step_if hN hT hX hK h hc ha hr hi k s1 k1 s2 k2 kd (by omega) e2 e1 hS' (S_close hS e1 e2.2.2.1).2
theorem play_loop (hN : 2000 ≤ N) (hT : CTx tn K F tt) (hX : X ≤ 1806) (hTS : TSH tn K W F) (hS : Sok tn K W F S) {w0 m0 : RS} {a0 : Nat → Int32} {z : Int32} : ∀ (n x c acts : Nat) (o e r T : Nat → Nat) (yy ww pp mm : RS) (k k2 : Nat), x + n = 218701 → (x : Int) ≤ phi K o e r c → PLS tn X K W F o e r T c acts yy mm → S c → acts ≤ 300 → SM (54 * acts) w0 a0 ww (mm 1) → frP m0 mm → n < k → n < k2 →
    ∃ q yy' w' p' mm', fX7_play_L33 N tn tt k (nI x) yy ww pp = some (nI q, yy', w', p') ∧ fX12_goText_L29 N z k2 mm = some (nI q, mm') ∧ q ≤ 300 ∧ SM (54 * q) w0 a0 w' (mm' 1) ∧ frP m0 mm' := by
  have htn := hT.1
  have hc0 : tt 0 0 = nI tn := hT.2.1
  intro n
  induction n with
  | zero =>
    intro x c acts o e r T yy ww pp mm k k2 h1 h2 h3 h4 h5 h6 h7 h8 h9
    obtain ⟨k, rfl⟩ : ∃ q, k = q + 1 := ⟨k - 1, by omega⟩
    obtain ⟨k2, rfl⟩ : ∃ q, k2 = q + 1 := ⟨k2 - 1, by omega⟩
    have hct := h3.2.2.2.2.2.2.2.2.2.1.2.1
    have hc : ¬ c < tn := fun q => by
      have := phi_top htn h3.2.2.2.2.2.2.2.2.2.1 q
      omega
    refine ⟨acts, yy, ww, pp, mm, ?_, ?_, h5, h6, h7⟩
    · rw [fX7_play_L33, if_neg (show ¬ (1000000 : Int32) ≤ nI x from nI_ge (b := 1000000) (by omega) (by decide)), h3.1, h3.2.1, hc0, if_pos (show nI tn ≤ nI c from nI_le (by omega) (by omega)), ite_self]
    · rw [fX12_goText_L29, h3.2.2.2.1, tokM h3.2.2.2.2.2.2.2.2.1 hX htn h3.2.2.2.2.2.2.2.1 (by omega), bnd_s, if_neg hc, if_pos (by decide), h3.2.2.2.2.1]
  | succ n ih =>
    intro x c acts o e r T yy ww pp mm k k2 h1 h2 h3 h4 h5 h6 h7 h8 h9
    obtain ⟨k, rfl⟩ : ∃ q, k = q + 1 := ⟨k - 1, by omega⟩
    obtain ⟨k2, rfl⟩ : ∃ q, k2 = q + 1 := ⟨k2 - 1, by omega⟩
    have hct := h3.2.2.2.2.2.2.2.2.2.1.2.1
    by_cases hc : c < tn
    · have hkc := (hTS.1 c hc)
      have hkm := kmf _ hkc.2
      have hcc : fX7_play_L33 N tn tt (k + 1) (nI x) yy ww pp = if nI 300 ≤ nI acts then some (nI acts, yy, ww, pp) else bnd (fX7_statement N tn yy ww pp tt) fun r1 => fX7_play_L33 N tn tt k (nI (x + 1)) r1.1 r1.2.1 r1.2.2 := by
        rw [fX7_play_L33, if_neg (show ¬ (1000000 : Int32) ≤ nI x from nI_ge (b := 1000000) (by omega) (by decide)), h3.1, h3.2.1, hc0, if_neg (show ¬ nI tn ≤ nI c from nI_ge hc (by omega)), j1]
        rfl
      have hm : fX12_goText_L29 N z (k2 + 1) mm = if fX12_isOver mm = 0 then (bnd (fX12_goStatement N mm) fun r3 => fX12_goText_L29 N z k2 r3) else some (nI acts, mm) := by
        rw [fX12_goText_L29, h3.2.2.2.1, tokM h3.2.2.2.2.2.2.2.2.1 hX htn h3.2.2.2.2.2.2.2.1 (by omega), bnd_s, if_pos hc, if_neg (show ¬ nI (km (K c)) = 0 from fun q => by
          have := (eq_nI (b := 0) (by have := hkm.2.2.2.2.2.2.2.2.2.2.2; omega) (by decide)).mp q
          have := hkm.2.2.1.mp this
          omega), h3.2.2.2.2.1]
      by_cases q : acts = 300
      · subst q
        refine ⟨300, yy, ww, pp, mm, by rw [hcc, if_pos (nI_le (Nat.le_refl _) (by omega))], ?_, h5, h6, h7⟩
        rw [hm]
        unfold fX12_isOver
        rw [h3.2.2.2.2.1, if_pos (show nI 300 = 300 from rfl), if_neg (by decide)]
      · have ho : fX12_isOver mm = 0 := by
          unfold fX12_isOver
          rw [h3.2.2.2.2.1, if_neg (show ¬ nI acts = 300 from fun y => q ((eq_nI (b := 300) (by omega) (by decide)).mp y))]
        obtain ⟨yy', ww', pp', mm', o', e', r', T', c', acts', s1, s2, s3, s4, s5, s6, s7, s8, s9⟩ := step_ok (pp := pp) hN hT hX hTS hS h3 hc h4 (by omega) h6.1 h6.2.1
        rw [if_neg (nI_ge (by omega) (by omega)), s1, bnd_s] at hcc
        rw [if_pos ho, s2, bnd_s] at hm
        obtain ⟨Q, yq, wq, pq, mq, t1, t2, t3⟩ := ih (x + 1) c' acts' o' e' r' T' yy' ww' pp' mm' k k2 (by omega) (by omega) s3 s4 s6 ((h6.tr s7).le (by omega)) (h7.tr s8) (by omega) (by omega)
        exact ⟨Q, yq, wq, pq, mq, hcc.trans t1, hm.trans t2, t3⟩
    · refine ⟨acts, yy, ww, pp, mm, ?_, ?_, h5, h6, h7⟩
      · rw [fX7_play_L33, if_neg (show ¬ (1000000 : Int32) ≤ nI x from nI_ge (b := 1000000) (by omega) (by decide)), h3.1, h3.2.1, hc0, if_pos (show nI tn ≤ nI c from nI_le (by omega) (by omega)), ite_self]
      · rw [fX12_goText_L29, h3.2.2.2.1, tokM h3.2.2.2.2.2.2.2.2.1 hX htn h3.2.2.2.2.2.2.2.1 (by omega), bnd_s, if_neg hc, if_pos (by decide), h3.2.2.2.2.1]
/-- a text played -/
theorem play_ok {t : Nat} (hN : 300000 ≤ N) (ht : t < 4) (hT : CTx tn K F tt) (hTS : TSH tn K W F) (hM : MTx (602 * t) tn K W mm) (hr : RW ww (mm 1)) (hi : IW ww) :
    ∃ q yy' w' p' mm', fX7_play N tn yy ww pp tt = some (nI q, yy', w', p') ∧ fX12_goText N (nI t) mm = some (nI q, mm') ∧ q ≤ 300 ∧ SM 16200 ww (mm 1) w' (mm' 1) ∧ frP mm mm' := by
  obtain ⟨S, hS⟩ := hTS.2.2.1
  obtain ⟨y3, ey⟩ : ∃ y3, y3 = sr yy 0 (upd (upd (upd (yy 0) 3 (nI 0)) 4 (nI 0)) 5 (nI 0)) := ⟨_, rfl⟩
  obtain ⟨m5, em⟩ : ∃ m5, m5 = sr mm 0 (upd (upd (upd (upd (upd (mm 0) 11 (nI (602 * t))) 17 (nI 0)) 18 (nI 0)) 14 (nI 0)) 15 (nI 0)) := ⟨_, rfl⟩
  have hc : fX7_play N tn yy ww pp tt = fX7_play_L33 N tn tt N (nI 0) y3 ww pp := by
    unfold fX7_play
    simp only [thn_e, st_d, sr_sr, sr_e]
    rw [ey]
    rfl
  have hm : fX12_goText N (nI t) mm = fX12_goText_L29 N (nI t) N m5 := by
    unfold fX12_goText
    rw [show (602 : Int32) * nI t = nI (602 * t) from mul_nI 602 t]
    simp only [thn_e, st_d, sr_sr, sr_e]
    rw [em]
    rfl
  have m51 : m5 1 = mm 1 := by rw [em, sr_n (by decide)]
  have hP : PLS tn (602 * t) K W F (fun _ => 0) (fun _ => 0) (fun _ => 0) (fun _ => 0) 0 0 y3 m5 := by
    refine ⟨by rw [ey, sr_e, upd_n (by decide), upd_n (by decide), upd_e], by rw [ey, sr_e, upd_n (by decide), upd_e], by rw [ey, sr_e, upd_e]; rfl, by rw [em, sr_e, upd_n (by decide), upd_n (by decide), upd_n (by decide), upd_e], by rw [em, sr_e, upd_n (by decide), upd_n (by decide), upd_e], by rw [em, sr_e, upd_n (by decide), upd_e]; rfl, by rw [em, sr_e, upd_e]; rfl, by rw [em, sr_e, upd_n (by decide), upd_n (by decide), upd_n (by decide), upd_n (by decide), upd_e], by unfold MTx; rw [em, sr_n (by decide)]; exact hM, ⟨by show 0 ≤ 3; omega, Nat.zero_le _, fun D hD => absurd hD (Nat.not_lt_zero _)⟩, fun D hD => absurd hD (Nat.not_lt_zero _)⟩
  have hphi : ((0 : Nat) : Int) ≤ phi K (fun _ => 0) (fun _ => 0) (fun _ => 0) 0 := by
    show (0 : Int) ≤ 0 + (PZ K 0 0 - PZ K 0 0)
    omega
  have hf : frP mm m5 := ⟨fun d a1 _ _ _ _ _ => by rw [em, sr_n a1], fun j a1 a2 a3 a4 a5 => by rw [em, sr_e, upd_n a3, upd_n a2, upd_n a5, upd_n a4, upd_n a1]⟩
  obtain ⟨q, yy', w', p', mm', s1, s2, s3, s4, s5⟩ := play_loop (N := N) (by omega) hT (by omega : 602 * t ≤ 1806) hTS hS (w0 := ww) (m0 := mm) (a0 := mm 1) (z := nI t) 218701 0 0 0 _ _ _ _ y3 ww pp m5 N N (by omega) hphi hP hS.1 (by omega) (by rw [m51]; exact SM.rf hr hi) hf (by omega) (by omega)
  exact ⟨q, yy', w', p', mm', hc.trans s1, hm.trans s2, s3, s4.le (by omega), s5⟩
end Y5
