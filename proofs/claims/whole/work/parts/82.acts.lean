/-! PLAYING: acts -/
theorem sr_cm {w : RS} {c d : Nat} {f g : Nat → Int32} (h : c ≠ d) : sr (sr w c f) d g = sr (sr w d g) c f := by
  funext x
  by_cases h1 : x = d
  · subst h1; rw [sr_e, sr_n (Ne.symm h), sr_e]
  · rw [sr_n h1]
    by_cases h2 : x = c
    · subst h2; rw [sr_e, sr_e]
    · rw [sr_n h2, sr_n h2, sr_n h1]
def AA (mm : RS) (k : Nat) : RS := sr mm 0 (upd (mm 0) 18 (nI k))
theorem AA_18 {mm : RS} {k : Nat} : AA mm k 0 18 = nI k := by unfold AA; rw [sr_e, upd_e]
theorem AA_id {mm : RS} {k : Nat} (h : mm 0 18 = nI k) : AA mm k = mm := by unfold AA; rw [← h, upd_self, sr_self]
theorem AA_st {mm : RS} {k l : Nat} {a : Nat → Int32} : st (sr (AA mm k) 1 a) 0 18 (nI l) = sr (AA mm l) 1 a := by
  rw [st_d, sr_n (by decide), sr_cm (by decide)]
  unfold AA
  rw [sr_e, upd_upd, sr_sr]
theorem isOverM {mm : RS} {k : Nat} {a : Nat → Int32} (hk : k < 10000) : fX12_isOver (sr (AA mm k) 1 a) = if k = 300 then 1 else 0 := by
  unfold fX12_isOver
  rw [sr_n (by decide), AA_18]
  by_cases q : k = 300
  · subst q; rfl
  · rw [if_neg q, if_neg (show ¬ nI k = 300 from fun z => q ((eq_nI (b := 300) (by omega) (by decide)).mp z))]
theorem goI {N : Nat} (hN : 24 ≤ N) {mm : RS} {x1 x2 y1 y2 : Int32} {left acts e : Nat} (he : e < 10) (hl : acts + left = 300) (k6 : Int32 → Int32 → RS → Option (Int32 × RS)) (k2' : Int32 → RS → Option RS) :
    ∀ d b dn k k2 w a, szN e - b = d → b ≤ szN e → d < k → d < k2 → RW w a → IW w → dn ≤ left →
      ∃ dn' w' a', dn ≤ dn' ∧ dn' ≤ left ∧ fX10_readExtents_L15 N x1 x2 (nI left) k6 k (nI dn) (nI e) (nI b) w = k6 (nI dn') (nI (e + 1)) w' ∧ (fX12_goScan_L10 N y1 y2 k2' k2 (nI e) (nI b) (sr (AA mm (acts + dn)) 1 a) = k2' (nI (e + 1)) (sr (AA mm (acts + dn')) 1 a') ∨ (dn' = left ∧ fX12_goScan_L10 N y1 y2 k2' k2 (nI e) (nI b) (sr (AA mm (acts + dn)) 1 a) = some (sr (AA mm (acts + dn')) 1 a'))) ∧ SC (10 * (dn' - dn)) w a w' a' := by
  have hz := szN_le e
  intro d
  induction d with
  | zero =>
    intro b dn k k2 w a h1 h2 h3 h4 hr hi hd
    obtain ⟨k, rfl⟩ : ∃ j, k = j + 1 := ⟨k - 1, by omega⟩
    obtain ⟨k2, rfl⟩ : ∃ j, k2 = j + 1 := ⟨k2 - 1, by omega⟩
    have eb : b = szN e := by omega
    subst eb
    refine ⟨dn, w, a, Nat.le_refl _, hd, ?_, Or.inl ?_, (SC.rf hr hi).le (by omega)⟩
    · show ck (inb (nI e) 10) _ = _
      rw [inb_nI he (by omega), ck_t, cl_nI (by omega), sizeT_N e he, if_pos (nI_le (Nat.le_refl _) (by omega))]
      unfold fX10_readExtents_L50
      rw [j1]
    · show (if fX12_sizeOf (nI e) ≤ nI (szN e) then _ else _) = _
      rw [sizeM_N e he, if_pos (nI_le (Nat.le_refl _) (by omega)), j1]
  | succ d ih =>
    intro b dn k k2 w a h1 h2 h3 h4 hr hi hd
    obtain ⟨k, rfl⟩ : ∃ j, k = j + 1 := ⟨k - 1, by omega⟩
    obtain ⟨k2, rfl⟩ : ∃ j, k2 = j + 1 := ⟨k2 - 1, by omega⟩
    have hcc : fX10_readExtents_L15 N x1 x2 (nI left) k6 (k + 1) (nI dn) (nI e) (nI b) w = if nI left ≤ nI dn then k6 (nI dn) (nI (e + 1)) w else (bnd (fX10_readBlock N (nI e) (nI b) w) fun r2 => fX10_readExtents_L15 N x1 x2 (nI left) k6 k (nI (dn + 1)) (nI e) (nI (b + 1)) r2.2) := by
      show ck (inb (nI e) 10) _ = _
      rw [inb_nI he (by omega), ck_t, cl_nI (by omega), sizeT_N e he, if_neg (nI_ge (by omega) (by omega)), j1, j1]
      unfold fX10_readExtents_L50
      rw [j1]
    have hm : fX12_goScan_L10 N y1 y2 k2' (k2 + 1) (nI e) (nI b) (sr (AA mm (acts + dn)) 1 a) = if (if acts + dn = 300 then (1 : Int32) else 0) = 0 then (bnd (fX12_readNow N (nI e) (nI b) (sr (AA mm (acts + dn)) 1 a)) fun r2 => thn (st r2.2 0 18 ((r2.2 0 18) + 1)) fun mm_3 => fX12_goScan_L10 N y1 y2 k2' k2 (nI e) (nI (b + 1)) mm_3) else some (sr (AA mm (acts + dn)) 1 a) := by
      show (if fX12_sizeOf (nI e) ≤ nI b then _ else _) = _
      rw [sizeM_N e he, if_neg (nI_ge (by omega) (by omega)), isOverM (by omega), j1]
    by_cases q : dn = left
    · subst q
      rw [if_pos (nI_le (Nat.le_refl _) (by omega))] at hcc
      rw [if_pos hl, if_neg (by decide)] at hm
      exact ⟨dn, w, a, Nat.le_refl _, Nat.le_refl _, hcc, Or.inr ⟨rfl, hm⟩, (SC.rf hr hi).le (by omega)⟩
    · obtain ⟨v, w1, a1, g1, g2, g3, g4⟩ := read_SC (mm := AA mm (acts + dn)) hN he (by omega : b < szN e) hr hi
      rw [if_neg (nI_ge (by omega) (by omega)), g1, bnd_s] at hcc
      rw [if_neg (show ¬ acts + dn = 300 by omega), if_pos rfl, g2, bnd_s] at hm
      dsimp only at hm
      rw [sr_n (by decide), AA_18, j1, AA_st, thn_e] at hm
      obtain ⟨dn', w2, a2, i1, i2, i3, i4, i5⟩ := ih (b + 1) (dn + 1) k k2 w1 a1 (by omega) (by omega) (by omega) (by omega) g3.1 g3.2.1 (by omega)
      refine ⟨dn', w2, a2, by omega, i2, hcc.trans i3, ?_, (g3.tr i5).le (by omega)⟩
      rcases i4 with i4 | ⟨i4, i4'⟩
      · exact Or.inl (hm.trans i4)
      · exact Or.inr ⟨i4, hm.trans i4'⟩
theorem goFull {N : Nat} (hN : 24 ≤ N) {x1 : Int32} {t left : Nat} (ht : t < 10) (hl : left ≤ 300) {w : RS} : ∀ d e k, t + 1 - e = d → e ≤ 10 → d < k → fX10_readExtents_L6 N x1 (nI t) (nI left) k (nI left) (nI e) w = some (nI left, w) := by
  intro d
  induction d with
  | zero =>
    intro e k h1 h2 h3
    obtain ⟨k, rfl⟩ : ∃ j, k = j + 1 := ⟨k - 1, by omega⟩
    rw [fX10_readExtents_L6, if_pos (nI_lt (by omega) (by omega))]
  | succ d ih =>
    intro e k h1 h2 h3
    obtain ⟨k, rfl⟩ : ∃ j, k = j + 1 := ⟨k - 1, by omega⟩
    obtain ⟨n, rfl⟩ : ∃ n, N = n + 1 := ⟨N - 1, by omega⟩
    have hz := szN_le e
    rw [fX10_readExtents_L6, if_neg (nI_nlt (by omega) (by omega)), fX10_readExtents_L15, inb_nI (by omega) (by omega), ck_t, cl_nI (by omega), sizeT_N e (by omega), if_neg (show ¬ nI (szN e) ≤ 0 from nI_ge (a := 0) (by omega) (by omega)), if_pos (nI_le (Nat.le_refl _) (by omega))]
    unfold fX10_readExtents_L50
    rw [j1]
    exact ih (e + 1) k (by omega) (by omega) (by omega)
theorem goscan_ok {N : Nat} (hN : 24 ≤ N) {w mm : RS} {a : Nat → Int32} {f t acts left : Nat} (hf : f < 10) (ht : t < 10) (hl : acts + left = 300) (hr : RW w a) (hi : IW w) :
    ∃ q w' a', q ≤ left ∧ fX10_readExtents N (nI f) (nI t) (nI left) w = some (nI q, w') ∧ fX12_goScan N (nI f) (nI t) (sr (AA mm acts) 1 a) = some (sr (AA mm (acts + q)) 1 a') ∧ SC (10 * q) w a w' a' := by
  have key : ∀ d e dn k k2 w1 a1, t + 1 - e = d → e ≤ 10 → d < k → d < k2 → dn ≤ left → SC (10 * dn) w a w1 a1 →
      ∃ q w' a', q ≤ left ∧ fX10_readExtents_L6 N (nI f) (nI t) (nI left) k (nI dn) (nI e) w1 = some (nI q, w') ∧ fX12_goScan_L2 N (nI f) (nI t) k2 (nI e) (sr (AA mm (acts + dn)) 1 a1) = some (sr (AA mm (acts + q)) 1 a') ∧ SC (10 * q) w a w' a' := by
    intro d
    induction d with
    | zero =>
      intro e dn k k2 w1 a1 h1 h2 h3 h4 h5 hs
      obtain ⟨k, rfl⟩ : ∃ j, k = j + 1 := ⟨k - 1, by omega⟩
      obtain ⟨k2, rfl⟩ : ∃ j, k2 = j + 1 := ⟨k2 - 1, by omega⟩
      refine ⟨dn, w1, a1, h5, ?_, ?_, hs⟩
      · rw [fX10_readExtents_L6, if_pos (nI_lt (by omega) (by omega))]
      · rw [fX12_goScan_L2, if_pos (nI_lt (by omega) (by omega))]
    | succ d ih =>
      intro e dn k k2 w1 a1 h1 h2 h3 h4 h5 hs
      obtain ⟨k, rfl⟩ : ∃ j, k = j + 1 := ⟨k - 1, by omega⟩
      obtain ⟨k2, rfl⟩ : ∃ j, k2 = j + 1 := ⟨k2 - 1, by omega⟩
      have hz := szN_le e
      obtain ⟨dn', w2, a2, g1, g2, g3, g4, g5⟩ := goI (mm := mm) (x1 := nI f) (x2 := nI t) (y1 := nI f) (y2 := nI t) hN (by omega : e < 10) hl (fX10_readExtents_L6 N (nI f) (nI t) (nI left) k) (fX12_goScan_L2 N (nI f) (nI t) k2) (szN e) 0 dn N N w1 a1 (by omega) (by omega) (by omega) (by omega) hs.1 hs.2.1 h5
      have hc : fX10_readExtents_L6 N (nI f) (nI t) (nI left) (k + 1) (nI dn) (nI e) w1 = fX10_readExtents_L6 N (nI f) (nI t) (nI left) k (nI dn') (nI (e + 1)) w2 := by
        rw [fX10_readExtents_L6, if_neg (nI_nlt (by omega) (by omega))]
        exact g3
      have hss : SC (10 * dn') w a w2 a2 := (hs.tr g5).le (by omega)
      have hm : fX12_goScan_L2 N (nI f) (nI t) (k2 + 1) (nI e) (sr (AA mm (acts + dn)) 1 a1) = fX12_goScan_L10 N (nI f) (nI t) (fX12_goScan_L2 N (nI f) (nI t) k2) N (nI e) (nI 0) (sr (AA mm (acts + dn)) 1 a1) := by
        rw [fX12_goScan_L2, if_neg (nI_nlt (by omega) (by omega))]
        rfl
      rcases g4 with g4 | ⟨g4, g4'⟩
      · obtain ⟨q, w', a', b1, b2, b3, b4⟩ := ih (e + 1) dn' k k2 w2 a2 (by omega) (by omega) (by omega) (by omega) g2 hss
        exact ⟨q, w', a', b1, hc.trans b2, (hm.trans g4).trans b3, b4⟩
      · subst g4
        exact ⟨dn', w2, a2, Nat.le_refl _, hc.trans (goFull hN ht (by omega) d (e + 1) k (by omega) (by omega) (by omega)), hm.trans g4', hss⟩
  obtain ⟨q, w', a', b1, b2, b3, b4⟩ := key (t + 1 - f) f 0 N N w a rfl (by omega) (by omega) (by omega) (Nat.zero_le _) (SC.rf hr hi)
  exact ⟨q, w', a', b1, b2, b3, b4⟩
/-- both players at c -/
def PLS (tn X : Nat) (K W : Nat → Nat) (F : Nat → Int32) (o e r T : Nat → Nat) (c acts : Nat) (yy mm : RS) : Prop :=
  yy 0 3 = nI c ∧ yy 0 4 = nI acts ∧ yy 0 5 = nI (dep K c) ∧ mm 0 17 = nI c ∧ mm 0 18 = nI acts ∧ mm 0 14 = nI (dep K c) ∧ mm 0 15 = nI (lc K c (dep K c)) ∧ mm 0 11 = nI X ∧ MTx X tn K W mm ∧ BLK tn K F o e r c ∧
  ∀ D, D < dep K c → r D < T D ∧ T D ≤ 9 ∧ mm 7 D = nI (o D + 1) ∧ yy 1 D = nI (r D) ∧ yy 2 D = nI (T D) ∧ (flg K c D = true → mm 8 D = nI (T D) ∧ mm 9 (lc K c D) = nI (r D)) ∧ (flg K c D = false → mm 8 D = -1 ∧ T D = 1)
def frP (mm mm' : RS) : Prop := (∀ d, d ≠ 0 → d ≠ 1 → d ≠ 6 → d ≠ 7 → d ≠ 8 → d ≠ 9 → mm' d = mm d) ∧ ∀ j, j ≠ 11 → j ≠ 14 → j ≠ 15 → j ≠ 17 → j ≠ 18 → mm' 0 j = mm 0 j
theorem frP.rf {mm : RS} : frP mm mm := ⟨fun _ _ _ _ _ _ _ => rfl, fun _ _ _ _ _ _ => rfl⟩
theorem frP.tr {m1 m2 m3 : RS} (h : frP m1 m2) (g : frP m2 m3) : frP m1 m3 := ⟨fun d a1 a2 a3 a4 a5 a6 => (g.1 d a1 a2 a3 a4 a5 a6).trans (h.1 d a1 a2 a3 a4 a5 a6), fun j a1 a2 a3 a4 a5 => (g.2 j a1 a2 a3 a4 a5).trans (h.2 j a1 a2 a3 a4 a5)⟩
/-- a step of both -/
def STEP (tn X : Nat) (K W : Nat → Nat) (F : Nat → Int32) (S : Nat → Prop) (o e r : Nat → Nat) (c acts : Nat) (ww mm : RS) (oc : Option (RS × RS × RS)) (om : Option RS) : Prop :=
  ∃ yy' ww' pp' mm' o' e' r' T' c' acts', oc = some (yy', ww', pp') ∧ om = some mm' ∧ PLS tn X K W F o' e' r' T' c' acts' yy' mm' ∧ S c' ∧ acts ≤ acts' ∧ acts' ≤ 300 ∧ SM (54 * (acts' - acts)) ww (mm 1) ww' (mm' 1) ∧ frP mm mm' ∧ phi K o e r c < phi K o' e' r' c'
section Y2
variable {N tn X : Nat} {K W : Nat → Nat} {F : Nat → Int32} {tt ww pp yy mm : RS} {c acts : Nat} {o e r T : Nat → Nat} {S : Nat → Prop}
theorem PLS.rd (h : PLS tn X K W F o e r T c acts yy mm) : RDs K c yy mm := ⟨h.2.2.2.2.2.2.2.2.2.1.1, fun D hD => by
  obtain ⟨a1, a2, a3, a4, a5, a6, a7⟩ := h.2.2.2.2.2.2.2.2.2.2 D hD
  exact ⟨r D, by omega, a4, fun q => (a6 q).2⟩⟩
theorem PLS_on {c' acts' : Nat} {yy' mm' : RS} (h : PLS tn X K W F o e r T c acts yy mm) (hc : c ≤ c') (hc2 : c' ≤ tn) (hn : ∀ t, c ≤ t → t < c' → nbr K t) (y3 : yy' 0 3 = nI c') (y4 : yy' 0 4 = nI acts') (y5 : yy' 0 5 = yy 0 5) (y1 : yy' 1 = yy 1) (y2 : yy' 2 = yy 2) (m17 : mm' 0 17 = nI c') (m18 : mm' 0 18 = nI acts') (m14 : mm' 0 14 = mm 0 14) (m15 : mm' 0 15 = mm 0 15) (m11 : mm' 0 11 = mm 0 11) (m3 : mm' 3 = mm 3) (m7 : mm' 7 = mm 7) (m8 : mm' 8 = mm 8) (m9 : mm' 9 = mm 9) : PLS tn X K W F o e r T c' acts' yy' mm' := by
  obtain ⟨b1, b2, b3, b4, b5, b6, b7, b8, b9, ⟨b10, b11, b12⟩, b13⟩ := h
  obtain ⟨e1, e2⟩ := dep_run (K := K) (i := c) (c' - c) c' rfl hc hn
  have e3 : ∀ d, lc K c' d = lc K c d := fun d => by unfold lc; rw [e2]
  refine ⟨y3, y4, by rw [y5, e1]; exact b3, m17, m18, by rw [m14, e1]; exact b6, by rw [m15, e1, e3]; exact b7, by rw [m11]; exact b8, by unfold MTx; rw [m3]; exact b9, ⟨by rw [e1]; exact b10, hc2, fun D hD => ?_⟩, fun D hD => ?_⟩
  · rw [e1] at hD
    obtain ⟨a1, a2, a3, a4, a5, a6⟩ := b12 D hD
    refine ⟨a1, a2, by omega, ?_, a5, a6⟩
    by_cases q : c' ≤ e D
    · exact q
    · exact absurd a1.2.2.1 (hn (e D) a4 (by omega)).2
  · rw [e1] at hD
    rw [m7, y1, y2, m8, m9, e2, e3]
    exact b13 D hD
/-- what an act by sums leaves of both players' cells -/
theorem act_fin {c' acts' : Nat} {ww' : RS} {a' : Nat → Int32} (h : PLS tn X K W F o e r T c acts yy mm) (hS : S c') (hc : c < c') (hc2 : c' ≤ tn) (hn : ∀ t, c ≤ t → t < c' → nbr K t) (ha : acts ≤ acts') (ha2 : acts' ≤ 300) (hs : SM (54 * (acts' - acts)) ww (mm 1) ww' a') {oc : Option (RS × RS × RS)} {om : Option RS} {F6 : Nat → Int32}
    (h1 : ∃ pp', oc = some (st (YA yy c') 0 4 (nI acts'), ww', pp')) (h2 : om = some (sr (AA (sr (MA mm c') 6 F6) acts') 1 a')) : STEP tn X K W F S o e r c acts ww mm oc om := by
  obtain ⟨pp', h1⟩ := h1
  have g0 : (sr (AA (sr (MA mm c') 6 F6) acts') 1 a') 0 = upd (upd (mm 0) 17 (nI c')) 18 (nI acts') := by
    rw [sr_n (by decide)]
    unfold AA
    rw [sr_e, sr_n (by decide), MA_0]
  have gd : ∀ d, d ≠ 0 → d ≠ 1 → d ≠ 6 → (sr (AA (sr (MA mm c') 6 F6) acts') 1 a') d = mm d := fun d a1 a2 a3 => by
    rw [sr_n a2]
    unfold AA
    rw [sr_n a1, sr_n a3, MA_o a1]
  have y0 : (st (YA yy c') 0 4 (nI acts')) 0 = upd (upd (yy 0) 3 (nI c')) 4 (nI acts') := by rw [st_d, sr_e, YA_0]
  have yd : ∀ d, d ≠ 0 → (st (YA yy c') 0 4 (nI acts')) d = yy d := fun d a1 => by rw [st_n a1, YA_o a1]
  have hd := (dep_run (K := K) (i := c) (c' - c) c' rfl (by omega) hn).1
  refine ⟨_, ww', pp', _, o, e, r, T, c', acts', h1, h2, PLS_on h (by omega) hc2 hn ?_ ?_ ?_ (yd 1 (by decide)) (yd 2 (by decide)) ?_ ?_ ?_ ?_ ?_ (gd 3 (by decide) (by decide) (by decide)) (gd 7 (by decide) (by decide) (by decide)) (gd 8 (by decide) (by decide) (by decide)) (gd 9 (by decide) (by decide) (by decide)), hS, ha, ha2, by rw [sr_e]; exact hs, ⟨fun d a1 a2 a3 _ _ _ => gd d a1 a2 a3, fun j a0 a1 a2 a3 a4 => by rw [g0, upd_n a4, upd_n a3]⟩, phi_on hd hc⟩
  · rw [y0, upd_n (by decide), upd_e]
  · rw [y0, upd_e]
  · rw [y0, upd_n (by decide), upd_n (by decide)]
  · rw [g0, upd_n (by decide), upd_e]
  · rw [g0, upd_e]
  · rw [g0, upd_n (by decide), upd_n (by decide)]
  · rw [g0, upd_n (by decide), upd_n (by decide)]
  · rw [g0, upd_n (by decide), upd_n (by decide)]
/-- the statement's word on both sides -/
theorem wordC (hT : CTx tn K F tt) (h : PLS tn X K W F o e r T c acts yy mm) (hc : c < tn) : fX9_kindAt N tn (yy 0 3) tt = some (nI (K c)) := by
  have := hT.1
  rw [h.1, kindC hT (by omega)]
  unfold kf
  rw [if_pos hc]
theorem wordM (hT : CTx tn K F tt) (hX : X ≤ 1806) (h : PLS tn X K W F o e r T c acts yy mm) (hc : c < tn) : fX12_tokenAt N (mm 0 17) mm = some (nI (km (K c))) := by
  have := hT.1
  rw [h.2.2.2.1, tokM h.2.2.2.2.2.2.2.2.1 hX this h.2.2.2.2.2.2.2.1 (by omega), if_pos hc]
theorem YA1 (h : PLS tn X K W F o e r T c acts yy mm) : st yy 0 3 ((yy 0 3) + 1) = YA yy (c + 1) := by rw [h.1, j1]; rfl
theorem MA1 (h : PLS tn X K W F o e r T c acts yy mm) : st mm 0 17 ((mm 0 17) + 1) = MA mm (c + 1) := by rw [h.2.2.2.1, j1]; rfl
theorem MA_w {p : Nat} : sr (AA (MA mm p) acts) 1 (mm 1) = AA (MA mm p) acts := by
  have : AA (MA mm p) acts 1 = mm 1 := by
    unfold AA
    rw [sr_n (by decide), MA_o (by decide)]
  rw [← this, sr_self]
theorem MA_AA (h : PLS tn X K W F o e r T c acts yy mm) {p : Nat} : AA (MA mm p) acts = MA mm p := AA_id (by rw [MA_n (by decide)]; exact h.2.2.2.2.1)
theorem AA6 {m : RS} {k : Nat} {a : Nat → Int32} : sr (AA m k) 1 a = sr (AA (sr m 6 (m 6)) k) 1 a := by rw [sr_self]
theorem L126_ok (h : PLS tn X K W F o e r T c acts yy mm) {p : Nat} {x : Int32} {a' : Nat → Int32} : fX12_goAct_L126 N x (sr (MA mm p) 1 a') = some (sr (AA (sr (MA mm p) 6 (MA mm p 6)) (acts + 1)) 1 a') := by
  have e18 : (sr (MA mm p) 1 a') 0 18 = nI acts := by rw [sr_n (by decide), MA_n (by decide)]; exact h.2.2.2.2.1
  have e : sr (MA mm p) 1 a' = sr (AA (MA mm p) acts) 1 a' := by rw [MA_AA h]
  unfold fX12_goAct_L126
  rw [e18, j1, e, AA_st, thn_e, sr_self]
theorem sum_args (hN : 2000 ≤ N) (hT : CTx tn K F tt) (hX : X ≤ 1806) (hK : ∀ j, j < tn → 0 < K j ∧ K j < 126) (h : PLS tn X K W F o e r T c acts yy mm) {i j : Nat} (hs : SUMV tn K W F c i j) (hj : j < tn) :
    ∃ v, v ≤ 9999 ∧ fX7_sum N tn (YA yy i) ww pp tt = some (nI v, YA yy (j + 1)) ∧ fX12_goSum N (MA mm i) = some (nI v, MA mm (if K j = 123 then j else j + 1)) := sum_v hN hT h.2.2.2.2.2.2.2.2.1 hX h.2.2.2.2.2.2.2.1 h.rd hK hs hj
theorem run2 {i j1 k : Nat} (h0 : nbr K c) (s1 : ∀ t, c + 1 ≤ t → t < j1 → nbr K t) (h1 : nbr K j1) (s2 : ∀ t, j1 + 1 ≤ t → t < k → nbr K t) (h2 : nbr K k) : ∀ t, c ≤ t → t < k + 1 → nbr K t := fun t t1 t2 => by
  by_cases q1 : t = c
  · subst q1; exact h0
  · by_cases q2 : t < j1
    · exact s1 t (by omega) q2
    · by_cases q3 : t = j1
      · subst q3; exact h1
      · by_cases q4 : t < k
        · exact s2 t (by omega) q4
        · have : t = k := by omega
          subst this
          exact h2
theorem step_read (hN : 2000 ≤ N) (hT : CTx tn K F tt) (hX : X ≤ 1806) (hK : ∀ j, j < tn → 0 < K j ∧ K j < 126) (h : PLS tn X K W F o e r T c acts yy mm) (hc : c < tn) (ha : acts < 300) (hr : RW ww (mm 1)) (hi : IW ww) {j k : Nat} (hk : K c = 4) (s1 : SUMV tn K W F c (c + 1) j) (k1 : K j = 44) (s2 : SUMV tn K W F c (j + 1) k) (k2 : K k = 59) (hkt : k < tn) (hS : S (k + 1)) :
    STEP tn X K W F S o e r c acts ww mm (fX7_statement N tn yy ww pp tt) (fX12_goStatement N mm) := by
  have n1 := SUMV_nb s1
  have n2 := SUMV_nb s2
  obtain ⟨v, v1, v2, v3⟩ := sum_args (ww := ww) (pp := pp) hN hT hX hK h s1 (by omega)
  obtain ⟨u, u1, u2, u3⟩ := sum_args (ww := ww) (pp := pp) hN hT hX hK h s2 hkt
  rw [k1, if_neg (by decide)] at v3
  rw [k2, if_neg (by decide)] at u3
  have he : v % 10 < 10 := Nat.mod_lt _ (by decide)
  have hz := szN_le (v % 10)
  have hb : u % szN (v % 10) < szN (v % 10) := Nat.mod_lt _ (by omega)
  obtain ⟨x, w', a', g1, g2, g3, -⟩ := read_SC (mm := AA (MA mm (k + 1)) acts) (N := N) (by omega) he hb hr hi
  rw [MA_w, MA_AA h] at g2
  refine act_fin (c' := k + 1) (acts' := acts + 1) (F6 := (MA mm (k + 1)) 6) h hS (by omega) (by omega) (run2 (i := 0) (by unfold nbr; omega) n1.2 (by unfold nbr; omega) n2.2 (by unfold nbr; omega)) (by omega) (by omega) (g3.sm.le (by omega)) ⟨pp, ?_⟩ ?_
  · unfold fX7_statement
    rw [wordC hT h hc, bnd_s, YA1 h, thn_e, hk, if_pos (by decide)]
    unfold fX7_readOne
    rw [v2, bnd_s, r10 (by omega), thn_e, u2, bnd_s, inb_nI he (by decide), ck_t, cl_nI (by omega), sizeT_N _ he, nz_nI (by omega) (by omega), ck_t, irem_N (by omega) (by omega) (by omega), thn_e, g1, bnd_s]
    dsimp only
    rw [YA_n (by decide), h.2.1, j1, thn_e, bnd_s]
  · unfold fX12_goStatement
    rw [wordM hT hX h hc, bnd_s, hk, if_neg (by decide), MA1 h, thn_e, if_neg (by decide), if_neg (by decide)]
    unfold fX12_goAct
    rw [if_neg (by decide), if_neg (by decide), v3, bnd_s, r10 (by omega), thn_e, u3, bnd_s, if_neg (by decide), if_pos (by decide), sizeM_N _ he, nz_nI (by omega) (by omega), ck_t, irem_N (by omega) (by omega) (by omega), g2, bnd_s]
    rw [L126_ok h, bnd_s]
theorem step_write (hN : 2000 ≤ N) (hT : CTx tn K F tt) (hX : X ≤ 1806) (hK : ∀ j, j < tn → 0 < K j ∧ K j < 126) (h : PLS tn X K W F o e r T c acts yy mm) (hc : c < tn) (ha : acts < 300) (hr : RW ww (mm 1)) (hi : IW ww) {j k l : Nat} (hk : K c = 5) (s1 : SUMV tn K W F c (c + 1) j) (k1 : K j = 44) (s2 : SUMV tn K W F c (j + 1) k) (k2 : K k = 44) (s3 : SUMV tn K W F c (k + 1) l) (k3 : K l = 59) (hkt : l < tn) (hS : S (l + 1)) :
    STEP tn X K W F S o e r c acts ww mm (fX7_statement N tn yy ww pp tt) (fX12_goStatement N mm) := by
  have n1 := SUMV_nb s1
  have n2 := SUMV_nb s2
  have n3 := SUMV_nb s3
  obtain ⟨v, v1, v2, v3⟩ := sum_args (ww := ww) (pp := pp) hN hT hX hK h s1 (by omega)
  obtain ⟨u, u1, u2, u3⟩ := sum_args (ww := ww) (pp := pp) hN hT hX hK h s2 (by omega)
  obtain ⟨z, z1, z2, z3⟩ := sum_args (ww := ww) (pp := pp) hN hT hX hK h s3 hkt
  rw [k1, if_neg (by decide)] at v3
  rw [k2, if_neg (by decide)] at u3
  rw [k3, if_neg (by decide)] at z3
  have he : v % 10 < 10 := Nat.mod_lt _ (by decide)
  have hz := szN_le (v % 10)
  have hb : u % szN (v % 10) < szN (v % 10) := Nat.mod_lt _ (by omega)
  obtain ⟨w', a', g1, g2, g3⟩ := write_SC (mm := AA (MA mm (l + 1)) acts) (N := N) (x := nI (z % 1000)) (by omega) he hb hr hi
  rw [MA_w, MA_AA h] at g2
  have hrun := run2 (K := K) (i := 0) (c := c) (j1 := j) (k := k) (by unfold nbr; omega) n1.2 (by unfold nbr; omega) n2.2 (by unfold nbr; omega)
  refine act_fin (c' := l + 1) (acts' := acts + 1) (F6 := (MA mm (l + 1)) 6) h hS (by omega) (by omega) (fun t t1 t2 => ?_) (by omega) (by omega) (g3.sm.le (by omega)) ⟨pp, ?_⟩ ?_
  · by_cases q1 : t < k + 1
    · exact hrun t t1 q1
    · by_cases q2 : t < l
      · exact n3.2 t (by omega) q2
      · have : t = l := by omega
        subst this
        unfold nbr; omega
  · unfold fX7_statement
    rw [wordC hT h hc, bnd_s, YA1 h, thn_e, hk, if_neg (by decide), if_pos (by decide)]
    unfold fX7_writeOne
    rw [v2, bnd_s, r10 (by omega), thn_e, u2, bnd_s, inb_nI he (by decide), ck_t, cl_nI (by omega), sizeT_N _ he, nz_nI (by omega) (by omega), ck_t, irem_N (by omega) (by omega) (by omega), thn_e, z2, bnd_s, r1000 (by omega), g1, bnd_s]
    dsimp only
    rw [YA_n (by decide), h.2.1, j1, thn_e, bnd_s]
  · unfold fX12_goStatement
    rw [wordM hT hX h hc, bnd_s, hk, if_neg (by decide), MA1 h, thn_e, if_neg (by decide), if_neg (by decide)]
    unfold fX12_goAct
    rw [if_neg (by decide), if_neg (by decide), v3, bnd_s, r10 (by omega), thn_e, u3, bnd_s, if_neg (by decide), if_neg (by decide), sizeM_N _ he, nz_nI (by omega) (by omega), ck_t, z3, bnd_s, irem_N (by omega) (by omega) (by omega), r1000 (by omega), g2, bnd_s]
    rw [L126_ok h, bnd_s]
theorem step_scan (hN : 2000 ≤ N) (hT : CTx tn K F tt) (hX : X ≤ 1806) (hK : ∀ j, j < tn → 0 < K j ∧ K j < 126) (h : PLS tn X K W F o e r T c acts yy mm) (hc : c < tn) (ha : acts < 300) (hr : RW ww (mm 1)) (hi : IW ww) {j k : Nat} (hk : K c = 6) (s1 : SUMV tn K W F c (c + 1) j) (k1 : K j = 44) (s2 : SUMV tn K W F c (j + 1) k) (k2 : K k = 59) (hkt : k < tn) (hS : S (k + 1)) :
    STEP tn X K W F S o e r c acts ww mm (fX7_statement N tn yy ww pp tt) (fX12_goStatement N mm) := by
  have n1 := SUMV_nb s1
  have n2 := SUMV_nb s2
  obtain ⟨v, v1, v2, v3⟩ := sum_args (ww := ww) (pp := pp) hN hT hX hK h s1 (by omega)
  obtain ⟨u, u1, u2, u3⟩ := sum_args (ww := ww) (pp := pp) hN hT hX hK h s2 hkt
  rw [k1, if_neg (by decide)] at v3
  rw [k2, if_neg (by decide)] at u3
  have he : v % 10 < 10 := Nat.mod_lt _ (by decide)
  have he2 : u % 10 < 10 := Nat.mod_lt _ (by decide)
  obtain ⟨q, w', a', g0, g1, g2, g3⟩ := goscan_ok (mm := MA mm (k + 1)) (N := N) (acts := acts) (left := 300 - acts) (by omega) he he2 (by omega) hr hi
  rw [MA_w, MA_AA h] at g2
  refine act_fin (c' := k + 1) (acts' := acts + q) (F6 := (MA mm (k + 1)) 6) h hS (by omega) (by omega) (run2 (i := 0) (by unfold nbr; omega) n1.2 (by unfold nbr; omega) n2.2 (by unfold nbr; omega)) (by omega) (by omega) (g3.sm.le (by omega)) ⟨pp, ?_⟩ ?_
  · unfold fX7_statement
    rw [wordC hT h hc, bnd_s, YA1 h, thn_e, hk, if_neg (by decide), if_neg (by decide), if_pos (by decide)]
    unfold fX7_scanSome
    rw [v2, bnd_s, r10 (by omega), thn_e, u2, bnd_s]
    dsimp only
    rw [r10 (by omega), thn_e, YA_n (by decide), h.2.1, show (300 : Int32) - nI acts = nI (300 - acts) from sub_nI (a := 300) (by omega), g1, bnd_s]
    dsimp only
    rw [nI_add, thn_e, bnd_s]
  · unfold fX12_goStatement
    rw [wordM hT hX h hc, bnd_s, hk, if_neg (by decide), MA1 h, thn_e, if_neg (by decide), if_neg (by decide)]
    unfold fX12_goAct
    rw [if_neg (by decide), if_neg (by decide), v3, bnd_s, r10 (by omega), thn_e, u3, bnd_s, if_pos (by decide), r10 (by omega), g2, bnd_s, bnd_s, sr_self]
theorem step_tick (hN : 2000 ≤ N) (hT : CTx tn K F tt) (hX : X ≤ 1806) (h : PLS tn X K W F o e r T c acts yy mm) (hc : c < tn) (ha : acts < 300) (hr : RW ww (mm 1)) (hi : IW ww) (hk : K c = 7) (k1 : K (c + 1) = 59) (hkt : c + 1 < tn) (hS : S (c + 2)) :
    STEP tn X K W F S o e r c acts ww mm (fX7_statement N tn yy ww pp tt) (fX12_goStatement N mm) := by
  obtain ⟨w', a', p', F6, g1, g2, g3⟩ := tick_ok (mm := AA (MA mm (c + 2)) acts) (N := N) hN hr hi pp
  rw [MA_w, MA_AA h] at g2
  refine act_fin (c' := c + 2) (acts' := acts + 1) (F6 := F6) h hS (by omega) (by omega) (fun t t1 t2 => ?_) (by omega) (by omega) (g3.le (by omega)) ⟨p', ?_⟩ ?_
  · have : t = c ∨ t = c + 1 := by omega
    rcases this with rfl | rfl
    · unfold nbr; omega
    · unfold nbr; omega
  · unfold fX7_statement
    rw [wordC hT h hc, bnd_s, YA1 h, thn_e, hk, if_neg (by decide), if_neg (by decide), if_neg (by decide), if_pos (by decide), g1, bnd_s, YA_n (by decide), h.2.1, j1, thn_e]
    have e3 : (st (YA yy (c + 1)) 0 4 (nI (acts + 1))) 0 3 = nI (c + 1) := by rw [st_e, upd_n (by decide), YA_3]
    rw [e3, j1, thn_e, st_d, st_d, sr_e, sr_sr]
    have : upd (upd (YA yy (c + 1) 0) 4 (nI (acts + 1))) 3 (nI (c + 1 + 1)) = upd (YA yy (c + 2) 0) 4 (nI (acts + 1)) := by
      rw [YA_0, YA_0]
      funext q
      by_cases q3 : q = 3
      · subst q3; rw [upd_e, upd_n (by decide), upd_e]
      · rw [upd_n q3]
        by_cases q4 : q = 4
        · subst q4; rw [upd_e, upd_e]
        · rw [upd_n q4, upd_n q3, upd_n q4, upd_n q3]
    rw [this]
    have : sr (YA yy (c + 1)) 0 (upd (YA yy (c + 2) 0) 4 (nI (acts + 1))) = st (YA yy (c + 2)) 0 4 (nI (acts + 1)) := by
      rw [st_d]
      unfold YA
      rw [sr_sr, sr_sr]
    rw [this]
  · unfold fX12_goStatement
    rw [wordM hT hX h hc, bnd_s, hk, if_neg (by decide), MA1 h, thn_e, if_neg (by decide), if_neg (by decide)]
    unfold fX12_goAct fX12_goAct_L14 fX12_goAct_L43
    rw [if_pos (by decide), MA_17, j1, MA_st, thn_e, if_pos (by decide), g2, bnd_s]
    unfold MM
    have e18 : (sr (sr (MA mm (c + 2)) 6 F6) 1 a') 0 18 = nI acts := by rw [sr_n (by decide), sr_n (by decide), MA_n (by decide)]; exact h.2.2.2.2.1
    have e : sr (sr (MA mm (c + 2)) 6 F6) 1 a' = sr (AA (sr (MA mm (c + 2)) 6 F6) acts) 1 a' := by
      rw [AA_id (by rw [sr_n (by decide), MA_n (by decide)]; exact h.2.2.2.2.1)]
    rw [e18, j1, e, AA_st, thn_e, bnd_s]
theorem step_crash (hN : 2000 ≤ N) (hT : CTx tn K F tt) (hX : X ≤ 1806) (h : PLS tn X K W F o e r T c acts yy mm) (hc : c < tn) (ha : acts < 300) (hr : RW ww (mm 1)) (hi : IW ww) (hk : K c = 8) (k1 : K (c + 1) = 59) (hkt : c + 1 < tn) (hS : S (c + 2)) :
    STEP tn X K W F S o e r c acts ww mm (fX7_statement N tn yy ww pp tt) (fX12_goStatement N mm) := by
  obtain ⟨mv, w', a', -, g1, g2, g3⟩ := crash_ok (mm := AA (MA mm (c + 2)) acts) (N := N) (by omega) hr hi
  rw [MA_w, MA_AA h] at g2
  refine act_fin (c' := c + 2) (acts' := acts + 1) (F6 := (MA mm (c + 2)) 6) h hS (by omega) (by omega) (fun t t1 t2 => ?_) (by omega) (by omega) (g3.le (by omega)) ⟨pp, ?_⟩ ?_
  · have : t = c ∨ t = c + 1 := by omega
    rcases this with rfl | rfl
    · unfold nbr; omega
    · unfold nbr; omega
  · unfold fX7_statement
    rw [wordC hT h hc, bnd_s, YA1 h, thn_e, hk, if_neg (by decide), if_neg (by decide), if_neg (by decide), if_neg (by decide), if_pos (by decide), g1, bnd_s, YA_n (by decide), h.2.1, j1, thn_e]
    have e3 : (st (YA yy (c + 1)) 0 4 (nI (acts + 1))) 0 3 = nI (c + 1) := by rw [st_e, upd_n (by decide), YA_3]
    rw [e3, j1, thn_e, st_d, st_d, sr_e, sr_sr]
    have : upd (upd (YA yy (c + 1) 0) 4 (nI (acts + 1))) 3 (nI (c + 1 + 1)) = upd (YA yy (c + 2) 0) 4 (nI (acts + 1)) := by
      rw [YA_0, YA_0]
      funext q
      by_cases q3 : q = 3
      · subst q3; rw [upd_e, upd_n (by decide), upd_e]
      · rw [upd_n q3]
        by_cases q4 : q = 4
        · subst q4; rw [upd_e, upd_e]
        · rw [upd_n q4, upd_n q3, upd_n q4, upd_n q3]
    rw [this]
    have : sr (YA yy (c + 1)) 0 (upd (YA yy (c + 2) 0) 4 (nI (acts + 1))) = st (YA yy (c + 2)) 0 4 (nI (acts + 1)) := by
      rw [st_d]
      unfold YA
      rw [sr_sr, sr_sr]
    rw [this]
  · unfold fX12_goStatement
    rw [wordM hT hX h hc, bnd_s, hk, if_neg (by decide), MA1 h, thn_e, if_neg (by decide), if_neg (by decide)]
    unfold fX12_goAct fX12_goAct_L14 fX12_goAct_L43
    rw [if_neg (by decide), if_pos (by decide), MA_17, j1, MA_st, thn_e, if_neg (by decide), g2, bnd_s]
    have e18 : (sr (MA mm (c + 2)) 1 a') 0 18 = nI acts := by rw [sr_n (by decide), MA_n (by decide)]; exact h.2.2.2.2.1
    have e : sr (MA mm (c + 2)) 1 a' = sr (AA (MA mm (c + 2)) acts) 1 a' := by rw [MA_AA h]
    show bnd (thn (st (sr (MA mm (c + 2)) 1 a') 0 18 ((sr (MA mm (c + 2)) 1 a') 0 18 + 1)) fun mm_1 => some mm_1) _ = _
    rw [e18, j1, e, AA_st, thn_e, bnd_s, sr_self]
end Y2
