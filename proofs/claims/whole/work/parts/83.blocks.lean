/-! PLAYING: blocks -/
section Y3
variable {N tn X : Nat} {K W : Nat → Nat} {F : Nat → Int32} {tt ww pp yy mm : RS} {c acts : Nat} {o e r T : Nat → Nat} {S : Nat → Prop}
theorem STEP_of {c' : Nat} {yy' mm' : RS} {o' e' r' T' : Nat → Nat} (hr : RW ww (mm 1)) (hi : IW ww) (ha : acts < 300) (hP : PLS tn X K W F o' e' r' T' c' acts yy' mm') (hS : S c') (h1 : mm' 1 = mm 1) (hf : frP mm mm') (hp : phi K o e r c < phi K o' e' r' c') {oc : Option (RS × RS × RS)} {om : Option RS} (g1 : oc = some (yy', ww, pp)) (g2 : om = some mm') : STEP tn X K W F S o e r c acts ww mm oc om :=
  ⟨yy', ww, pp, mm', o', e', r', T', c', acts, g1, g2, hP, hS, Nat.le_refl _, by omega, by rw [h1]; exact (SM.rf hr hi).le (by omega), hf, hp⟩
/-- into a block -/
theorem PLS_in {s E T0 : Nat} {f : Bool} {yy' mm' : RS} (h : PLS tn X K W F o e r T c acts yy mm) (hs : c ≤ s) (hst : s < tn) (hn : ∀ t, c ≤ t → t < s → nbr K t) (hK : K s = 123) (hd : dep K c < 3) (hE : clo K F s E) (hEt : E < tn) (hf : decide (K (s - 2) = 9) = f) (hT0 : 0 < T0) (hT9 : T0 ≤ 9) (hT1 : f = false → T0 = 1)
    (y3 : yy' 0 3 = nI (s + 1)) (y4 : yy' 0 4 = nI acts) (y5 : yy' 0 5 = nI (dep K c + 1)) (y1 : yy' 1 = upd (yy 1) (dep K c) (nI 0)) (y2 : yy' 2 = upd (yy 2) (dep K c) (nI T0))
    (m17 : mm' 0 17 = nI (s + 1)) (m18 : mm' 0 18 = nI acts) (m14 : mm' 0 14 = nI (dep K c + 1)) (m15 : mm' 0 15 = nI (lc K c (dep K c) + if f then 1 else 0)) (m11 : mm' 0 11 = mm 0 11) (m3 : mm' 3 = mm 3) (m7 : mm' 7 = upd (mm 7) (dep K c) (nI (s + 1))) (m8 : mm' 8 = upd (mm 8) (dep K c) (if f then nI T0 else -1)) (m9 : ∀ w, w < lc K c (dep K c) → mm' 9 w = mm 9 w) (m9' : f = true → mm' 9 (lc K c (dep K c)) = nI 0) :
    PLS tn X K W F (fun x => if x = dep K c then s else o x) (fun x => if x = dep K c then E else e x) (fun x => if x = dep K c then 0 else r x) (fun x => if x = dep K c then T0 else T x) (s + 1) acts yy' mm' ∧ phi K o e r c < phi K (fun x => if x = dep K c then s else o x) (fun x => if x = dep K c then E else e x) (fun x => if x = dep K c then 0 else r x) (s + 1) := by
  obtain ⟨b1, b2, b3, b4, b5, b6, b7, b8, b9, ⟨b10, b11, b12⟩, b13⟩ := h
  obtain ⟨e1, e2⟩ := dep_run (K := K) (i := c) (s - c) s rfl hs hn
  have ed : dep K (s + 1) = dep K c + 1 := by rw [dep_op hK, e1]
  have ef : ∀ d, flg K (s + 1) d = if d = dep K c then f else flg K c d := fun d => by
    show (if K s = 123 ∧ d = dep K s then decide (K (s - 2) = 9) else flg K s d) = _
    rw [e1, e2]
    by_cases q : d = dep K c
    · rw [if_pos ⟨hK, q⟩, if_pos q, hf]
    · rw [if_neg (fun z => q z.2), if_neg q]
  have el : ∀ d, d ≤ dep K c → lc K (s + 1) d = lc K c d := fun d hd => lc_cg fun x hx => by rw [ef, if_neg (by omega)]
  have el1 : lc K (s + 1) (dep K c + 1) = lc K c (dep K c) + if f then 1 else 0 := by rw [lc_s, el _ (Nat.le_refl _), ef, if_pos rfl]
  refine ⟨⟨y3, y4, by rw [ed]; exact y5, m17, m18, by rw [ed]; exact m14, by rw [ed, el1]; exact m15, by rw [m11]; exact b8, by unfold MTx; rw [m3]; exact b9, ⟨by omega, by omega, fun D hD => ?_⟩, fun D hD => ?_⟩, phi_in hs ed (fun x hx => ⟨if_neg (by omega), if_neg (by omega), if_neg (by omega)⟩) (if_pos rfl) (if_pos rfl)⟩
  · rw [ed] at hD
    by_cases q : D = dep K c
    · subst q
      simp only [if_true]
      exact ⟨hE, e1, by omega, hE.1, hEt, by omega⟩
    · simp only [if_neg q]
      obtain ⟨a1, a2, a3, a4, a5, a6⟩ := b12 D (by omega)
      refine ⟨a1, a2, by omega, ?_, a5, a6⟩
      by_cases z : s + 1 ≤ e D
      · exact z
      · exfalso
        by_cases z2 : e D = s
        · have := a1.2.2.1; rw [z2, hK] at this; omega
        · exact (hn (e D) a4 (by omega)).2 a1.2.2.1
  · rw [ed] at hD
    by_cases q : D = dep K c
    · subst q
      simp only [if_true]
      rw [el _ (Nat.le_refl _), ef, if_pos rfl, m7, y1, y2, m8, upd_e, upd_e, upd_e, upd_e]
      refine ⟨hT0, hT9, rfl, rfl, rfl, fun z => ⟨by rw [z]; rfl, m9' z⟩, fun z => ⟨by rw [z]; rfl, hT1 z⟩⟩
    · simp only [if_neg q]
      obtain ⟨a1, a2, a3, a4, a5, a6, a7⟩ := b13 D (by omega)
      rw [el _ (by omega), ef, if_neg q, m7, y1, y2, m8, upd_n q, upd_n q, upd_n q, upd_n q]
      refine ⟨a1, a2, a3, a4, a5, fun z => ⟨(a6 z).1, ?_⟩, a7⟩
      rw [m9 _ ?_]
      · exact (a6 z).2
      · have : lc K c (D + 1) = lc K c D + 1 := by rw [lc_s, z, if_pos rfl]
        have := lc_mono (K := K) (i := c) (d := D + 1) (e := dep K c) (by omega)
        omega
theorem enterC {T0 : Nat} {p : Nat} (h5 : yy 0 5 = nI (dep K c)) (hd : dep K c < 3) : fX7_enter N tn (nI T0) (YA yy p) ww pp tt = some (sr (sr (sr (YA yy p) 1 (upd (yy 1) (dep K c) (nI 0))) 2 (upd (yy 2) (dep K c) (nI T0))) 0 (upd (YA yy p 0) 5 (nI (dep K c + 1)))) := by
  have e5 : YA yy p 0 5 = nI (dep K c) := by rw [YA_n (by decide)]; exact h5
  have cl1 : (nI (dep K c)).toNatClampNeg = dep K c := cl_nI (by omega)
  have ib1 : inb (nI (dep K c)) 3 = true := inb_nI hd (by decide)
  unfold fX7_enter
  rw [e5, if_neg (show ¬ (3 : Int32) ≤ nI (dep K c) from nI_ge (b := 3) (by omega) (by decide)), ib1, ck_t, cl1]
  simp (disch := decide) only [thn_e, st_d, sr_n, sr_e, e5, ib1, ck_t, cl1, j1]
  rw [YA_o (by decide), YA_o (by decide)]
  rfl
theorem fin_in {s E T0 : Nat} {f : Bool} {mm' yy' : RS} (h : PLS tn X K W F o e r T c acts yy mm) (hs : c ≤ s) (hst : s < tn) (hn : ∀ t, c ≤ t → t < s → nbr K t) (hK : K s = 123) (hd : dep K c < 3) (hE : clo K F s E) (hEt : E < tn) (hf : decide (K (s - 2) = 9) = f) (hT0 : 0 < T0) (hT9 : T0 ≤ 9) (hT1 : f = false → T0 = 1) (hr : RW ww (mm 1)) (hi : IW ww) (ha : acts < 300) (hS : S (s + 1))
    (y0 : yy' 0 = upd (upd (yy 0) 3 (nI (s + 1))) 5 (nI (dep K c + 1))) (y1 : yy' 1 = upd (yy 1) (dep K c) (nI 0)) (y2 : yy' 2 = upd (yy 2) (dep K c) (nI T0))
    (w0 : mm' 0 = if f then upd (upd (upd (mm 0) 17 (nI (s + 1))) 14 (nI (dep K c + 1))) 15 (nI (lc K c (dep K c) + 1)) else upd (upd (mm 0) 17 (nI (s + 1))) 14 (nI (dep K c + 1))) (w7 : mm' 7 = upd (mm 7) (dep K c) (nI (s + 1))) (w8 : mm' 8 = upd (mm 8) (dep K c) (if f then nI T0 else -1)) (w9 : mm' 9 = if f then upd (mm 9) (lc K c (dep K c)) (nI 0) else mm 9) (wd : ∀ d, d ≠ 0 → d ≠ 7 → d ≠ 8 → d ≠ 9 → mm' d = mm d)
    {oc : Option (RS × RS × RS)} {om : Option RS} (g1 : oc = some (yy', ww, pp)) (g2 : om = some mm') : STEP tn X K W F S o e r c acts ww mm oc om := by
  have z0 : ∀ j, j ≠ 14 → j ≠ 15 → j ≠ 17 → mm' 0 j = mm 0 j := fun j a1 a2 a3 => by
    rw [w0]
    cases f with
    | false => simp only [Bool.false_eq_true, if_false]; rw [upd_n a1, upd_n a3]
    | true => simp only [if_true]; rw [upd_n a2, upd_n a1, upd_n a3]
  obtain ⟨hP, hp⟩ := PLS_in (yy' := yy') (mm' := mm') h hs hst hn hK hd hE hEt hf hT0 hT9 hT1 (by rw [y0, upd_n (by decide), upd_e]) (by rw [y0, upd_n (by decide), upd_n (by decide)]; exact h.2.1) (by rw [y0, upd_e]) y1 y2
    (by rw [w0]; cases f with
      | false => simp only [Bool.false_eq_true, if_false]; rw [upd_n (by decide), upd_e]
      | true => simp only [if_true]; rw [upd_n (by decide), upd_n (by decide), upd_e])
    (by rw [z0 18 (by decide) (by decide) (by decide)]; exact h.2.2.2.2.1)
    (by rw [w0]; cases f with
      | false => simp only [Bool.false_eq_true, if_false]; rw [upd_e]
      | true => simp only [if_true]; rw [upd_n (by decide), upd_e])
    (by rw [w0]; cases f with
      | false => simp only [Bool.false_eq_true, if_false]; rw [upd_n (by decide), upd_n (by decide)]; exact h.2.2.2.2.2.2.1
      | true => simp only [if_true]; rw [upd_e])
    (z0 11 (by decide) (by decide) (by decide)) (wd 3 (by decide) (by decide) (by decide) (by decide)) w7 w8
    (fun w hw => by rw [w9]; cases f with
      | false => rfl
      | true => simp only [if_true]; rw [upd_n (by omega)])
    (fun z => by rw [w9, z]; simp only [if_true]; rw [upd_e])
  exact STEP_of hr hi ha hP hS (wd 1 (by decide) (by decide) (by decide) (by decide)) ⟨fun d a1 a2 a3 a4 a5 a6 => wd d a1 a4 a5 a6, fun j a0 a1 a2 a3 a4 => z0 j a1 a2 a3⟩ hp g1 g2
theorem intoM {x : Int32} {p : Nat} (h14 : mm 0 14 = nI (dep K c)) (h15 : mm 0 15 = nI (lc K c (dep K c))) (hd : dep K c < 3) : ∃ m', fX12_goInto N x (MA mm p) = some m' ∧ (m' 0 = if x = -1 then upd (upd (mm 0) 17 (nI (p + 1))) 14 (nI (dep K c + 1)) else upd (upd (upd (mm 0) 17 (nI (p + 1))) 14 (nI (dep K c + 1))) 15 (nI (lc K c (dep K c) + 1))) ∧ m' 7 = upd (mm 7) (dep K c) (nI (p + 1)) ∧ m' 8 = upd (mm 8) (dep K c) x ∧ (m' 9 = if x = -1 then mm 9 else upd (mm 9) (lc K c (dep K c)) (nI 0)) ∧ ∀ d, d ≠ 0 → d ≠ 7 → d ≠ 8 → d ≠ 9 → m' d = mm d := by
  have hlc : lc K c (dep K c) ≤ dep K c := lc_le
  have e14 : MA mm (p + 1) 0 14 = nI (dep K c) := by rw [MA_n (by decide)]; exact h14
  have e15 : MA mm (p + 1) 0 15 = nI (lc K c (dep K c)) := by rw [MA_n (by decide)]; exact h15
  have e17 : MA mm (p + 1) 0 17 = nI (p + 1) := MA_17
  have cl1 : (nI (dep K c)).toNatClampNeg = dep K c := cl_nI (by omega)
  have ib1 : inb (nI (dep K c)) 3 = true := inb_nI hd (by decide)
  have cl2 : (nI (lc K c (dep K c))).toNatClampNeg = lc K c (dep K c) := cl_nI (by omega)
  have ib2 : inb (nI (lc K c (dep K c))) 3 = true := inb_nI (by omega) (by decide)
  unfold fX12_goInto
  rw [MA_17, j1, MA_st, thn_e, e14, ib1, ck_t, cl1, e17]
  simp (disch := decide) only [thn_e, st_d, sr_n, sr_e, sr_sr, e14, e15, ib1, ck_t, cl1, j1, ib2, cl2, upd_n]
  by_cases q : x = -1
  · rw [if_pos q, if_pos q, if_pos q]
    exact ⟨_, rfl, by rw [sr_e, MA_0], by rw [sr_n (by decide), sr_n (by decide), sr_e, MA_o (by decide)], by rw [sr_n (by decide), sr_e, MA_o (by decide)], by rw [sr_n (by decide), sr_n (by decide), sr_n (by decide), MA_o (by decide)], fun d a1 a2 a3 a4 => by rw [sr_n a1, sr_n a3, sr_n a2, MA_o a1]⟩
  · rw [if_neg q, if_neg q, if_neg q]
    refine ⟨_, rfl, ?_, ?_, ?_, ?_, fun d a1 a2 a3 a4 => ?_⟩
    · simp (disch := decide) only [sr_n, sr_e, MA_0]
    · simp (disch := decide) only [sr_n, sr_e, MA_o]
    · simp (disch := decide) only [sr_n, sr_e, MA_o]
    · simp (disch := decide) only [sr_n, sr_e, MA_o]
      rfl
    · rw [sr_n a1, sr_n a4, sr_n a1, sr_n a3, sr_n a2, MA_o a1]
theorem step_loop (hT : CTx tn K F tt) (hX : X ≤ 1806) (h : PLS tn X K W F o e r T c acts yy mm) (hc : c < tn) (ha : acts < 300) (hr : RW ww (mm 1)) (hi : IW ww) {E : Nat} (hk : K c = 9) (k1 : K (c + 1) = 2) (w1 : 1 ≤ W (c + 1)) (w9 : W (c + 1) ≤ 9) (hF : F (c + 1) = nI (W (c + 1))) (k2 : K (c + 2) = 123) (hd : dep K c < 3) (hct : c + 2 < tn) (hE : clo K F (c + 2) E) (hEt : E < tn) (hS : S (c + 3)) :
    STEP tn X K W F S o e r c acts ww mm (fX7_statement N tn yy ww pp tt) (fX12_goStatement N mm) := by
  have htn := hT.1
  have hC := enterC (N := N) (tn := tn) (ww := ww) (pp := pp) (tt := tt) (T0 := W (c + 1)) (p := c + 1) h.2.2.1 hd
  obtain ⟨m', hM, w0, w7, w8, w9', wd⟩ := intoM (N := N) (mm := mm) (x := nI (W (c + 1))) (p := c + 2) h.2.2.2.2.2.1 h.2.2.2.2.2.2.1 hd
  have hne : ¬ nI (W (c + 1)) = -1 := ne_m1 (by omega)
  rw [if_neg hne] at w0 w9'
  refine fin_in (pp := pp) (s := c + 2) (f := true) (T0 := W (c + 1)) (mm' := m') (yy' := sr (sr (sr (YA yy (c + 1)) 1 (upd (yy 1) (dep K c) (nI 0))) 2 (upd (yy 2) (dep K c) (nI (W (c + 1))))) 0 (upd (upd (YA yy (c + 1) 0) 5 (nI (dep K c + 1))) 3 (nI (c + 3)))) h (by omega) hct (fun t t1 t2 => ?_) k2 hd hE hEt (by rw [show c + 2 - 2 = c from by omega]; exact decide_eq_true hk) w1 w9 (fun z => absurd z (by decide)) hr hi ha hS ?_ ?_ ?_ w0 w7 w8 w9' wd ?_ ?_
  · have : t = c ∨ t = c + 1 := by omega
    rcases this with rfl | rfl
    · unfold nbr; omega
    · unfold nbr; omega
  · rw [sr_e, YA_0]
    funext q
    by_cases q3 : q = 3
    · subst q3; rw [upd_e, upd_n (by decide), upd_e]
    · rw [upd_n q3]
      by_cases q5 : q = 5
      · subst q5; rw [upd_e, upd_e]
      · rw [upd_n q5, upd_n q3, upd_n q5, upd_n q3]
  · rw [sr_n (by decide), sr_n (by decide), sr_e]
  · rw [sr_n (by decide), sr_e]
  · unfold fX7_statement
    rw [wordC hT h hc, bnd_s, YA1 h, thn_e, hk, if_neg (by decide), if_neg (by decide), if_neg (by decide), if_neg (by decide), if_neg (by decide), if_pos (by decide), YA_3, valC hT (by omega), bnd_s, hF, hC, bnd_s]
    simp (disch := decide) only [thn_e, st_d, sr_n, sr_e, sr_sr, upd_n, YA_0, upd_e, j2]
  · unfold fX12_goStatement
    rw [wordM hT hX h hc, bnd_s, hk, if_neg (by decide), MA1 h, thn_e, if_pos (by decide), MA_17, nmAt (MA_T h.2.2.2.2.2.2.2.2.1) hX htn (by rw [MA_n (by decide)]; exact h.2.2.2.2.2.2.2.1) (by omega), bnd_s, j1, MA_st, thn_e, hM, bnd_s]
theorem dep_b {K : Nat → Nat} : ∀ i, dep K i ≤ i := by
  intro i
  induction i with
  | zero => exact Nat.le_refl _
  | succ i ih =>
    show (if K i = 123 then dep K i + 1 else if K i = 125 then dep K i - 1 else dep K i) ≤ i + 1
    split
    · omega
    · split <;> omega
/-- past a block -/
theorem passM {s E : Nat} (hM : MTx X tn K W mm) (hX : X ≤ 1806) (ht : tn ≤ 300) (h11 : mm 0 11 = nI X) (hK : ∀ j, j < tn → 0 < K j ∧ K j < 126) (hE : clo K F s E) (hEt : E < tn) : ∀ d t k, E - t = d → s ≤ t → t ≤ E → d + 1 < k → fX12_passBlock_L4 N k (nI (dep K t - dep K s)) 1 (MA mm t) = some (MA mm (E + 1)) := by
  have hdE := dep_cl hE
  obtain ⟨c1, c2, c3, c4, c5, c6, c7⟩ := hE
  intro d
  induction d with
  | zero =>
    intro t k h1 h2 h3 h4
    obtain ⟨k, rfl⟩ : ∃ q, k = q + 2 := ⟨k - 2, by omega⟩
    have : t = E := by omega
    subst this
    have e125 : km (K t) = 125 := by rw [c3]; decide
    rw [fX12_passBlock_L4, if_neg (by decide), MA_17, tokM (MA_T hM) hX ht (by rw [MA_n (by decide)]; exact h11) (by omega), bnd_s, if_pos hEt, e125, if_neg (by decide), bnd_s, if_pos (by decide)]
    unfold fX12_passBlock_L44 fX12_passBlock_L65
    rw [thn_e, MA_17, j1, MA_st, thn_e, n1 (by omega), show dep K t - dep K s - 1 = 0 from by omega, if_pos (by decide), fX12_passBlock_L4, if_pos rfl]
  | succ d ih =>
    intro t k h1 h2 h3 h4
    obtain ⟨k, rfl⟩ : ∃ q, k = q + 1 := ⟨k - 1, by omega⟩
    have hk := hK t (by omega)
    have hkm := kmf _ hk.2
    have hlt := hkm.2.2.2.2.2.2.2.2.2.2.2
    have hn := c5 (t + 1) (by omega) (by omega)
    have edt : dep K (t + 1) = if K t = 123 then dep K t + 1 else if K t = 125 then dep K t - 1 else dep K t := rfl
    have hds : dep K s ≤ dep K t := by
      by_cases q : t = s
      · subst q; exact Nat.le_refl _
      · have := c5 t (by omega) h3; omega
    have fin : ∀ s1 : Int32, nI (dep K t - dep K s) + s1 = nI (dep K (t + 1) - dep K s) → fX12_passBlock_L44 N (fX12_passBlock_L4 N k) (nI (dep K t - dep K s)) s1 (MA mm t) = some (MA mm (E + 1)) := fun s1 hs1 => by
      unfold fX12_passBlock_L44 fX12_passBlock_L65
      rw [thn_e, MA_17, j1, MA_st, thn_e, hs1, if_neg (show ¬ nI (dep K (t + 1) - dep K s) ≤ 0 from nI_ge (a := 0) (by omega) (by have := dep_b (K := K) (t + 1); omega))]
      exact ih (t + 1) k (by omega) (by omega) (by omega) (by omega)
    rw [fX12_passBlock_L4, if_neg (by decide), MA_17, tokM (MA_T hM) hX ht (by rw [MA_n (by decide)]; exact h11) (by omega), bnd_s, if_pos (show t < tn by omega), bnd_s]
    by_cases q1 : K t = 123
    · rw [if_pos (by rw [q1]; decide)]
      refine fin 1 ?_
      rw [if_pos q1] at edt
      rw [j1, edt]
      congr 1
      omega
    · rw [if_neg (show ¬ nI (km (K t)) = 123 from fun z => q1 (hkm.2.2.2.2.2.2.2.2.2.1.mp ((eq_nI (b := 123) (by omega) (by decide)).mp z)))]
      rw [if_neg q1] at edt
      by_cases q2 : K t = 125
      · rw [if_pos (by rw [q2]; decide)]
        rw [if_pos q2] at edt
        refine fin (-1) ?_
        rw [n1 (by omega), edt]
        congr 1
        omega
      · rw [if_neg (show ¬ nI (km (K t)) = 125 from fun z => q2 (hkm.2.2.2.2.2.2.2.2.2.2.1.mp ((eq_nI (b := 125) (by omega) (by decide)).mp z)))]
        rw [if_neg q2] at edt
        refine fin 0 ?_
        rw [Int32.add_zero, edt]
end Y3
