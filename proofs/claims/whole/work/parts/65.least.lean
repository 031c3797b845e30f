/-! THE THRESHOLD: the least heat -/
theorem d2' {a : Nat} (ha : a < 2147483648) : nI a / 2 = nI (a / 2) := pk_div (d := 2) ha (by decide) (by decide)
theorem bsearch {N : Nat} {f : Bool} {wd : Int32} : ∀ n low high k, low ≤ high → high ≤ 10000 → n ≤ 32 → high - low < 2 ^ n → n < k → (∀ h, h < low → nI (S4 f h) < wd) → (∀ h, high ≤ h → h < 10000 → ¬ nI (S4 f h) < wd) →
    ∃ q, q ≤ 10000 ∧ (∀ h, h < q → nI (S4 f h) < wd) ∧ (∀ h, q ≤ h → h < 10000 → ¬ nI (S4 f h) < wd) ∧ fX6_leastHeatOfWorth_L9 N wd (b2i f) k (nI low) (nI high) (nI (32 - n)) = fX6_leastHeatOfWorth_L55 N wd (b2i f) (nI q) := by
  intro n
  induction n with
  | zero =>
    intro low high k h1 h2 h3 h4 h5 h6 h7
    obtain ⟨k, rfl⟩ : ∃ j, k = j + 1 := ⟨k - 1, by omega⟩
    have : high = low := by
      rw [Nat.pow_zero] at h4
      omega
    subst this
    exact ⟨high, h2, h6, h7, by rw [fX6_leastHeatOfWorth_L9, if_pos (by decide)]⟩
  | succ n ih =>
    intro low high k h1 h2 h3 h4 h5 h6 h7
    obtain ⟨k, rfl⟩ : ∃ j, k = j + 1 := ⟨k - 1, by omega⟩
    rw [Nat.pow_succ] at h4
    rw [fX6_leastHeatOfWorth_L9, if_neg (show ¬ (32 : Int32) ≤ nI (32 - (n + 1)) from nI_ge (a := 32 - (n + 1)) (b := 32) (by omega) (by decide))]
    by_cases c : high ≤ low
    · rw [if_pos (nI_le c (by omega))]
      have : high = low := by omega
      subst this
      exact ⟨high, h2, h6, h7, rfl⟩
    · have hm : (low + high) / 2 ≤ 10000 := by omega
      have et : nI (32 - (n + 1)) + 1 = nI (32 - n) := by rw [j1]; congr 1; omega
      rw [if_neg (nI_ge (by omega) (by omega)), nI_add, d2' (by omega), thn_e, heat_S hm]
      unfold fX6_leastHeatOfWorth_L49
      rw [et, thn_e, j1]
      by_cases cw : nI (S4 f ((low + high) / 2)) < wd
      · rw [if_pos cw]
        refine ih _ _ k (by omega) h2 (by omega) (by omega) (by omega) (fun h hh => ?_) h7
        by_cases q : h < low
        · exact h6 h q
        · have := @S4_mono f h ((low + high) / 2) (by omega)
          have := @S4_le f _ hm
          exact Int32.lt_of_le_of_lt (nI_le (by omega) (by omega)) cw
      · rw [if_neg cw]
        refine ih _ _ k (by omega) (by omega) (by omega) (by omega) (by omega) h6 (fun h hh hh2 q => cw ?_)
        have := @S4_mono f ((low + high) / 2) h hh
        have := @S4_le f h (by omega)
        exact Int32.lt_of_le_of_lt (nI_le (by omega) (by omega)) q
theorem isInWith_ok {N e h so si : Nat} {O I wd : Int32} (he : e < 10) (hh : h ≤ 10000) {w mm : RS} {z a : Nat → Int32} {f : Bool} (hr : RW w a) (hi : IW w) (hf : w 3 e = b2i f) (hO : bd 1400000 O) (hI : bd 1400000 I) (hso : so < 1024) (hsi : si < 1024) (hw : wd = O - I + (if so ≤ si then 1 else 0)) (z3 : z 23 = nI si) (z4 : z 24 = nI so) (z5 : z 25 = I) (z6 : z 26 = O) :
    fX12_isInWith N (nI e) (nI h) (ZZ mm z a) = some (b2i (!decide (nI (S4 f h) < wd))) := by
  have hS := @S4_le f h hh
  have hSb : bd 12500 (nI (S4 f h)) := bd_nI (B := 12500) hS (by decide)
  have hSt := nI_toInt (n := S4 f h) (by omega)
  obtain ⟨e1, b1⟩ := bd_add hI hSb (by decide)
  obtain ⟨e2, b2⟩ := bd_sub hO hI (by decide)
  have hd : bd 1 (if so ≤ si then (1 : Int32) else 0) := by split <;> constructor <;> decide
  have hdt : (if so ≤ si then (1 : Int32) else 0).toInt = if so ≤ si then 1 else 0 := by split <;> decide
  obtain ⟨e3, b3⟩ := bd_add b2 hd (by decide)
  have ew : wd.toInt = O.toInt - I.toInt + if so ≤ si then 1 else 0 := by rw [hw, e3, e2, hdt]
  unfold fX12_isInWith fX12_isInWith_L49
  rw [ZZ_0, z4, if_neg (ne_m1 (by omega)), shareM he hr hi, bnd_s, hf, heat_S hh, thn_e, z5, z6, z3]
  by_cases c1 : O < I + nI (S4 f h)
  · have n1 : ¬ nI (S4 f h) < wd := by
      rw [Int32.lt_iff_toInt_lt, ew, hSt]
      rw [Int32.lt_iff_toInt_lt, e1, hSt] at c1
      split <;> omega
    rw [if_pos c1, decide_eq_false n1]
    rfl
  · rw [if_neg c1]
    by_cases c2 : I + nI (S4 f h) = O
    · rw [if_pos c2]
      have t2 := congrArg Int32.toInt c2
      rw [e1, hSt] at t2
      by_cases c3 : so ≤ si
      · rw [if_pos (nI_le c3 (by omega))]
        rw [if_pos c3] at ew
        have n1 : nI (S4 f h) < wd := by
          rw [Int32.lt_iff_toInt_lt, ew, hSt]
          omega
        rw [decide_eq_true n1]
        rfl
      · rw [if_neg (nI_ge (by omega) (by omega))]
        rw [if_neg c3] at ew
        have n1 : ¬ nI (S4 f h) < wd := by
          rw [Int32.lt_iff_toInt_lt, ew, hSt]
          omega
        rw [decide_eq_false n1]
        rfl
    · rw [if_neg c2]
      have n1 : nI (S4 f h) < wd := by
        rw [Int32.lt_iff_toInt_lt, ew, hSt]
        have t2 : ¬ (I + nI (S4 f h)).toInt = O.toInt := fun q => c2 (Int32.toInt_inj.mp q)
        rw [e1, hSt] at t2
        rw [Int32.lt_iff_toInt_lt, e1, hSt] at c1
        split <;> omega
      rw [decide_eq_true n1]
      rfl
theorem thr_ok {N e : Nat} (hN : 20000 ≤ N) (he : e < 10) {nn mm pp : RS} {a : Nat → Int32} (hr : RW nn a) (hi : IW nn) :
    ∃ r p' z, fX6_leastHeat N (nI e) nn pp = some (r, p') ∧ fX12_threshold N (nI e) (sr mm 1 a) = some (r, ZZ mm z a) ∧ (∀ k, k < 23 → z k = mm 0 k) ∧ (r ≠ -1 → p' 0 9 = z 23) := by
  obtain ⟨m, bu, hm, em, b1, b2, b3⟩ := wm hr hi
  obtain ⟨z, zz1, ⟨zz2, zz3, zz4, zz5⟩, zz6⟩ := bests_ok (N := N) (mm := mm) (by omega) hm (by omega) he hr hi em b3 rfl
  obtain ⟨p1, k1, k2, k3⟩ := weighed (N := N) (bu := bu) (by omega) hr hi hm em pp
  obtain ⟨p2, f1, f2, f3⟩ := force_ok (N := N) he false k2
  obtain ⟨p3, t1, t2, t3⟩ := choose_ok (N := N) (bu := bu) (by omega) (fun e c => cpy1_le) f2 (by rw [f3]; exact k3)
  obtain ⟨p4, k4, k5, k6⟩ := weighed (N := N) (bu := bu) (by omega) hr hi hm em p3
  obtain ⟨p5, f4, f5, f6⟩ := force_ok (N := N) he true k5
  obtain ⟨p6, t4, t5, t6⟩ := choose_ok (N := N) (bu := bu) (by omega) (fun e c => cpy1_le) f5 (by rw [f6]; exact k6)
  obtain ⟨h, h1, h2⟩ := hi.1.2.2.2.2.1 e he
  obtain ⟨f, hf⟩ : ∃ f : Bool, nn 3 e = b2i f := by
    rcases hi.1.1 e he with q | q
    · exact ⟨false, q⟩
    · exact ⟨true, q⟩
  have hsh : fX6_heatWorth (nn 9 e) (nn 3 e) = nI (S4 f h) := by rw [h2, hf, heat_S (by omega)]
  rw [hsh] at zz2 zz4
  have hS := @S4_le f h (by omega)
  have iso := bst_iso (al := als (fy (may1 nn m) e true) (cpy1 nn m) bu) (wo := wos (val1 nn m)) (wo' := fun s => wos (val1 nn m) s - nI (S4 f h)) (fun s t => by
    obtain ⟨e1, -⟩ := bd_sub (wos_bd (m := m) hi s) (bd_nI (B := 12500) hS (by decide)) (by decide)
    obtain ⟨e2, -⟩ := bd_sub (wos_bd (m := m) hi t) (bd_nI (B := 12500) hS (by decide)) (by decide)
    rw [Int32.le_iff_toInt_le, Int32.le_iff_toInt_le, e1, e2]
    omega) 1024
  generalize hIn' : bst (als (fy (may1 nn m) e true) (cpy1 nn m) bu) (fun s => wos (val1 nn m) s - nI (S4 f h)) 1024 = In' at *
  have inv' : In'.1 = true → In'.2.1 < 1024 ∧ In'.2.2 = wos (val1 nn m) In'.2.1 - nI (S4 f h) := fun q => by
    rw [← hIn'] at q ⊢
    obtain ⟨q1, q2, -⟩ := bst_inv _ q
    exact ⟨q1, q2⟩
  generalize hIn : bst (als (fy (may1 nn m) e true) (cpy1 nn m) bu) (wos (val1 nn m)) 1024 = In at *
  have inv : In.1 = true → In.2.1 < 1024 ∧ In.2.2 = wos (val1 nn m) In.2.1 := fun q => by
    rw [← hIn] at q ⊢
    obtain ⟨q1, q2, -⟩ := bst_inv _ q
    exact ⟨q1, q2⟩
  generalize hOut : bst (als (fy (may1 nn m) e false) (cpy1 nn m) bu) (wos (val1 nn m)) 1024 = Out at *
  have invO : Out.1 = true → Out.2.1 < 1024 ∧ Out.2.2 = wos (val1 nn m) Out.2.1 := fun q => by
    rw [← hOut] at q ⊢
    obtain ⟨q1, q2, -⟩ := bst_inv _ q
    exact ⟨q1, q2⟩
  obtain ⟨iso1, iso2⟩ := iso
  have f1' : fX6_force N (nI e) 0 p1 = some p2 := f1
  have f4' : fX6_force N (nI e) 1 p4 = some p5 := f4
  have hcls : fX6_leastHeat N (nI e) nn pp = (if b2i In.1 = 0 then some (-1, p6) else if b2i Out.1 = 0 then some (0, p6) else if b2i f = 1 then fX6_leastHeat_L84 N (nI e) nn (nI Out.2.1) Out.2.2 1 p6 else fX6_leastHeat_L84 N (nI e) nn (nI Out.2.1) Out.2.2 0 p6) := by
    unfold fX6_leastHeat
    rw [b2, k1, bnd_s, f1', bnd_s, t1, bnd_s, thn_e, thn_e]
    dsimp only
    rw [k4, bnd_s, f4', bnd_s, t4, bnd_s, inb_nI he (by omega), ck_t, cl_nI (by omega), hf, t2.2.1, t2.2.2]
  have href : fX12_threshold N (nI e) (sr mm 1 a) = (if z 23 = -1 then some (-1, ZZ mm z a) else bnd (fX12_isInWith N (nI e) 9999 (ZZ mm z a)) fun r3 => if r3 = 0 then some (-1, ZZ mm z a) else fX12_threshold_L37 N (nI e) N 0 (ZZ mm z a)) := by
    unfold fX12_threshold
    have : fX12_isExtent (nI e) = 1 := by
      rcases ext_c (nI e) with ⟨-, -, q⟩ | ⟨-, -, -, -, q⟩
      · exact absurd rfl (q e he)
      · exact q
    rw [this, if_neg (by decide), zz1, bnd_s, ZZ_0]
  cases cI : In.1 with
  | false =>
    have cI' : In'.1 = false := iso1.trans cI
    refine ⟨-1, p6, z, ?_, ?_, zz6, fun q => absurd rfl q⟩
    · rw [hcls, cI, if_pos (show b2i false = 0 from rfl)]
    · rw [href, if_pos (by rw [zz2]; unfold bstR; rw [cI']; rfl)]
  | true =>
    have cI' : In'.1 = true := iso1.trans cI
    obtain ⟨i1, i2⟩ := inv cI
    obtain ⟨i3, i4⟩ := inv' cI'
    have z23 : z 23 = nI In.2.1 := by rw [zz2]; unfold bstR; rw [cI', iso2]; rfl
    have p69 : p6 0 9 = nI In.2.1 := t5.2.1
    rw [if_neg (show ¬ z 23 = -1 by rw [z23]; exact ne_m1 (by omega))] at href
    rw [cI, if_neg (show ¬ b2i true = 0 by decide)] at hcls
    cases cO : Out.1 with
    | false =>
      have z24 : z 24 = -1 := by rw [zz3]; unfold bstR; rw [cO]; rfl
      have all1 : ∀ x, fX12_isInWith N (nI e) x (ZZ mm z a) = some 1 := fun x => by
        unfold fX12_isInWith
        rw [ZZ_0, if_pos z24]
      refine ⟨0, p6, z, ?_, ?_, zz6, fun _ => by rw [p69, z23]⟩
      · rw [hcls, cO, if_pos (show b2i false = 0 from rfl)]
      · rw [href, all1, bnd_s, if_neg (by decide)]
        obtain ⟨k, rfl⟩ : ∃ k, N = k + 1 := ⟨N - 1, by omega⟩
        rw [fX12_threshold_L37, all1, bnd_s, if_neg (by decide)]
    | true =>
      obtain ⟨o1, o2⟩ := invO cO
      rw [cO, if_neg (show ¬ b2i true = 0 by decide)] at hcls
      have z24 : z 24 = nI Out.2.1 := by rw [zz3]; unfold bstR; rw [cO]; rfl
      have z25 : z 25 = In.2.2 - nI (S4 f h) := by rw [zz4 cI', i4, i2, iso2]
      have z26 : z 26 = Out.2.2 := zz5 cO
      have bO : bd 1400000 Out.2.2 := by rw [o2]; exact bd_le (wos_bd hi _) (by decide)
      have bI : bd 1400000 (In.2.2 - nI (S4 f h)) := by rw [i2]; exact bd_le (bd_sub (wos_bd hi _) (bd_nI (B := 12500) hS (by decide)) (by decide)).2 (by decide)
      obtain ⟨wd, hwd⟩ : ∃ wd, wd = Out.2.2 - (In.2.2 - nI (S4 f h)) + (if Out.2.1 ≤ In.2.1 then 1 else 0) := ⟨_, rfl⟩
      have hin : ∀ x, x ≤ 10000 → fX12_isInWith N (nI e) (nI x) (ZZ mm z a) = some (b2i (!decide (nI (S4 f x) < wd))) := fun x hx => isInWith_ok he hx hr hi hf bO bI o1 i1 hwd z23 z24 z25 z26
      obtain ⟨q, q1, q2, q3, q4⟩ := bsearch (N := N) (f := f) (wd := wd) 32 0 10000 N (by decide) (Nat.le_refl _) (Nat.le_refl _) (by decide) (by omega) (fun x hx => absurd hx (by omega)) (fun x hx hx2 => absurd hx (by omega))
      have hL84 : fX6_leastHeat N (nI e) nn pp = (bnd (fX6_leastHeatOfWorth_L55 N wd (b2i f) (nI q)) fun r2 => some (r2, p6)) := by
        have hg : fX6_leastHeat_L84 N (nI e) nn (nI Out.2.1) Out.2.2 (b2i f) p6 = (bnd (fX6_leastHeatOfWorth_L55 N wd (b2i f) (nI q)) fun r2 => some (r2, p6)) := by
          have q4' : fX6_leastHeatOfWorth N wd (b2i f) = fX6_leastHeatOfWorth_L55 N wd (b2i f) (nI q) := q4
          unfold fX6_leastHeat_L84 fX6_leastHeat_L126
          rw [inb_nI he (by omega), ck_t, cl_nI (by omega), thn_e, thn_e, thn_e, t5.2.2, h2, heat_S (by omega), p69]
          by_cases c : Out.2.1 ≤ In.2.1
          · rw [if_pos (nI_le c (by omega)), ← q4', hwd, if_pos c]
          · rw [if_neg (nI_ge (by omega) (by omega)), ← q4', hwd, if_neg c]
        rw [hcls, ← hg]
        cases f with
        | true => rw [if_pos (show b2i true = 1 from rfl)]; rfl
        | false => rw [if_neg (show ¬ b2i false = 1 by decide)]; rfl
      unfold fX6_leastHeatOfWorth_L55 at hL84
      have h9 : fX12_isInWith N (nI e) 9999 (ZZ mm z a) = some (b2i (!decide (nI (S4 f 9999) < wd))) := hin 9999 (by decide)
      rw [h9, bnd_s] at href
      by_cases c : q ≤ 9999
      · refine ⟨nI q, p6, z, ?_, ?_, zz6, fun _ => by rw [p69, z23]⟩
        · rw [hL84, if_pos (show nI q ≤ 9999 from nI_le (b := 9999) c (by decide)), bnd_s]
        · rw [href, decide_eq_false (q3 9999 c (by decide)), if_neg (by decide)]
          have key : ∀ d x k, q - x = d → x ≤ q → d < k → fX12_threshold_L37 N (nI e) k (nI x) (ZZ mm z a) = some (nI q, ZZ mm z a) := by
            intro d
            induction d with
            | zero =>
              intro x k g1 g2 g3
              obtain ⟨k, rfl⟩ : ∃ j, k = j + 1 := ⟨k - 1, by omega⟩
              have : x = q := by omega
              subst this
              rw [fX12_threshold_L37, hin x q1, bnd_s, decide_eq_false (q3 x (Nat.le_refl _) (by omega)), if_neg (by decide)]
            | succ d ih =>
              intro x k g1 g2 g3
              obtain ⟨k, rfl⟩ : ∃ j, k = j + 1 := ⟨k - 1, by omega⟩
              rw [fX12_threshold_L37, hin x (by omega), bnd_s, decide_eq_true (q2 x (by omega)), if_pos (by decide), j1]
              exact ih (x + 1) k (by omega) (by omega) (by omega)
          exact key q 0 N rfl (by omega) (by omega)
      · refine ⟨-1, p6, z, ?_, ?_, zz6, fun _ => by rw [p69, z23]⟩
        · rw [hL84, if_neg (show ¬ nI q ≤ 9999 from nI_ge (a := 9999) (by omega) (by omega)), bnd_s]
        · rw [href, decide_eq_true (q2 9999 (by omega)), if_pos (by decide)]
section Q3
variable {N : Nat} {nn xx mm pp : RS} {a : Nat → Int32}
theorem q_threshold (hN : 20000 ≤ N) (hr : RW nn a) (hi : IW nn) (x : Int32) : ∃ r p' z, fX11_threshold N x xx nn pp = some (r, p') ∧ fX12_threshold N x (sr mm 1 a) = some (r, ZZ mm z a) ∧ ∀ k, k < 23 → z k = mm 0 k := by
  rcases ext_c x with ⟨h1, h2, -⟩ | ⟨e, he, rfl, h1, h2⟩
  · exact ⟨-1, pp, mm 0, by unfold fX11_threshold; rw [h1, if_pos rfl], by unfold fX12_threshold; rw [h2, if_pos rfl, ZZ_self], fun _ _ => rfl⟩
  · obtain ⟨r, p', z, g1, g2, g3, -⟩ := thr_ok (mm := mm) (pp := pp) hN he hr hi
    exact ⟨r, p', z, by unfold fX11_threshold; rw [h1, if_neg (by decide), g1, bnd_s], g2, g3⟩
theorem q_displaced (hN : 20000 ≤ N) (hr : RW nn a) (hi : IW nn) (x : Int32) : ∃ r p' z, fX11_displaced N x xx nn pp = some (r, p') ∧ fX12_displaced N x (sr mm 1 a) = some (r, ZZ mm z a) ∧ ∀ k, k < 23 → z k = mm 0 k := by
  obtain ⟨m, bu, hm, em, b1, b2, b3⟩ := wm hr hi
  have hb : fX12_bestSet N (sr mm 1 a 1 8) (sr mm 1 a) = some (nI (bestW nn m bu).2.1) := by rw [sr_e, b3, bestM' (by omega) hm (by omega) hr hi em]
  rcases ext_c x with ⟨h1, h2, -⟩ | ⟨e, he, rfl, h1, h2⟩
  · refine ⟨-1, pp, mm 0, by unfold fX11_displaced; rw [h1, if_pos rfl], ?_, fun _ _ => rfl⟩
    unfold fX12_displaced fX12_threshold
    rw [hb, bnd_s, h2, if_pos rfl, bnd_s, if_pos rfl, ZZ_self]
  · obtain ⟨r, p', z, g1, g2, g3, g4⟩ := thr_ok (mm := mm) (pp := pp) hN he hr hi
    unfold fX11_displaced fX12_displaced
    rw [h1, if_neg (show ¬ (1 : Int32) = 0 by decide), g1, bnd_s, hb, bnd_s, g2, bnd_s]
    by_cases c : r = -1
    · rw [if_pos c, if_pos c]
      exact ⟨_, _, z, rfl, rfl, g3⟩
    · rw [if_neg c, if_neg c]
      obtain ⟨p1, k1, k2, k3, k4⟩ := makeFor_ok (N := N) (bu := bu) (by omega) hm (by omega) hi em p'
      refine ⟨_, p1, z, ?_, rfl, g3⟩
      rw [thn_e, b2, k1, bnd_s, k3]
      dsimp only
      rw [ZZ_0, g4 c]
end Q3
