/-! PLAYING: ifs, ends of blocks, the whole -/
theorem nsub1 {k : Nat} : nI (k + 1) - (1 : Int32) = nI (k + 1 - 1) := s1 (by omega)
section Y4
variable {N tn X : Nat} {K W : Nat → Nat} {F : Nat → Int32} {tt ww pp yy mm : RS} {c acts : Nat} {o e r T : Nat → Nat} {S : Nat → Prop}
theorem PLS_sk {s E : Nat} (h : PLS tn X K W F o e r T c acts yy mm) (hs : c ≤ s) (hn : ∀ t, c ≤ t → t < s → nbr K t) (hK : K s = 123) (hE : clo K F s E) (hEt : E < tn) : PLS tn X K W F o e r T (E + 1) acts (YA yy (E + 1)) (MA mm (E + 1)) ∧ phi K o e r c < phi K o e r (E + 1) := by
  obtain ⟨b1, b2, b3, b4, b5, b6, b7, b8, b9, ⟨b10, b11, b12⟩, b13⟩ := h
  obtain ⟨e1, e2⟩ := dep_run (K := K) (i := c) (s - c) s rfl hs hn
  have ed : dep K (E + 1) = dep K c := by rw [dep_cl hE, e1]
  obtain ⟨c1, c2, c3, c4, c5, c6, c7⟩ := id hE
  have ef : ∀ d, d < dep K c → flg K (E + 1) d = flg K c d := fun d hd => by
    rw [flg_nc (fun z => by omega), flg_in (o := s) _ E rfl (by omega) (fun t t1 t2 => by have := c5 t t1 (by omega); omega), flg_nc (fun z => by omega), e2]
  have el : ∀ d, d ≤ dep K c → lc K (E + 1) d = lc K c d := fun d hd => lc_cg fun x hx => ef x (by omega)
  refine ⟨⟨YA_3, by rw [YA_n (by decide)]; exact b2, by rw [YA_n (by decide), ed]; exact b3, MA_17, by rw [MA_n (by decide)]; exact b5, by rw [MA_n (by decide), ed]; exact b6, by rw [MA_n (by decide), ed, el _ (Nat.le_refl _)]; exact b7, by rw [MA_n (by decide)]; exact b8, MA_T b9, ⟨by omega, by omega, fun D hD => ?_⟩, fun D hD => ?_⟩, phi_on ed (by omega)⟩
  · rw [ed] at hD
    obtain ⟨a1, a2, a3, a4, a5, a6⟩ := b12 D hD
    refine ⟨a1, a2, by omega, ?_, a5, a6⟩
    by_cases z : E + 1 ≤ e D
    · exact z
    · exfalso
      have hse : s < e D := by
        by_cases z1 : e D = s
        · have := a1.2.2.1; rw [z1, hK] at this; omega
        · by_cases z2 : e D < s
          · exact absurd a1.2.2.1 (hn (e D) a4 z2).2
          · omega
      have := c5 (e D) hse (by omega)
      have := a1.2.2.2.1
      omega
  · rw [ed] at hD
    obtain ⟨a1, a2, a3, a4, a5, a6, a7⟩ := b13 D hD
    rw [el _ (by omega), ef D hD, MA_o (by decide), MA_o (by decide), MA_o (by decide), YA_o (by decide), YA_o (by decide)]
    exact ⟨a1, a2, a3, a4, a5, a6, a7⟩
theorem step_if (hN : 2000 ≤ N) (hT : CTx tn K F tt) (hX : X ≤ 1806) (hK : ∀ j, j < tn → 0 < K j ∧ K j < 126) (h : PLS tn X K W F o e r T c acts yy mm) (hc : c < tn) (ha : acts < 300) (hr : RW ww (mm 1)) (hi : IW ww) {j k E : Nat} (hk : K c = 10) (s1 : SUMV tn K W F c (c + 1) j) (k1 : K j = 60 ∨ K j = 61) (s2 : SUMV tn K W F c (j + 1) k) (k2 : K k = 123) (hd : dep K c < 3) (hkt : k < tn) (hE : clo K F k E) (hEt : E < tn) (hS : S (k + 1)) (hSE : S (E + 1)) :
    STEP tn X K W F S o e r c acts ww mm (fX7_statement N tn yy ww pp tt) (fX12_goStatement N mm) := by
  have htn := hT.1
  have n1' := SUMV_nb s1
  have n2 := SUMV_nb s2
  have hM := h.2.2.2.2.2.2.2.2.1
  have h11 := h.2.2.2.2.2.2.2.1
  obtain ⟨v, v1, v2, v3⟩ := sum_args (ww := ww) (pp := pp) hN hT hX hK h s1 (by omega)
  obtain ⟨u, u1, u2, u3⟩ := sum_args (ww := ww) (pp := pp) hN hT hX hK h s2 hkt
  rw [if_neg (by omega)] at v3
  rw [if_pos k2] at u3
  have hrun : ∀ t, c ≤ t → t < k → nbr K t := fun t t1 t2 => by
    by_cases q1 : t = c
    · subst q1; unfold nbr; omega
    · by_cases q2 : t < j
      · exact n1'.2 t (by omega) q2
      · by_cases q3 : t = j
        · subst q3; unfold nbr; omega
        · exact n2.2 t (by omega) t2
  have hf : decide (K (k - 2) = 9) = false := by
    obtain ⟨w, w1, w2, w3, -⟩ := s2
    apply decide_eq_false
    by_cases q : w = 0
    · rw [show k - 2 = j from by omega]; omega
    · have := w3 (w - 1) (by omega)
      rw [show j + 1 + 2 * (w - 1) + 1 = k - 2 from by omega] at this
      omega
  have hkj : km (K j) = K j := by rcases k1 with q | q <;> rw [q] <;> decide
  -- into
  have intoC : (∃ mf, fX7_statement N tn yy ww pp tt = (bnd (fX7_enterIf_L43 N tn ww pp tt (YA yy (k + 1))) fun r15 => some (r15, ww, pp)) ∧ fX12_goStatement N mm = (bnd (bnd (fX12_goChoice_L48 N (MA mm k)) mf) fun r4 => some r4) ∧ mf = fun r => some r) → STEP tn X K W F S o e r c acts ww mm (fX7_statement N tn yy ww pp tt) (fX12_goStatement N mm) := by
    rintro ⟨mf, g1, g2, rfl⟩
    have hC := enterC (N := N) (tn := tn) (ww := ww) (pp := pp) (tt := tt) (T0 := 1) (p := k + 1) h.2.2.1 hd
    obtain ⟨m', hMM, w0, w7, w8, w9', wd⟩ := intoM (N := N) (mm := mm) (x := -1) (p := k) h.2.2.2.2.2.1 h.2.2.2.2.2.2.1 hd
    rw [if_pos rfl] at w0 w9'
    refine fin_in (pp := pp) (s := k) (f := false) (T0 := 1) (mm' := m') (yy' := sr (sr (sr (YA yy (k + 1)) 1 (upd (yy 1) (dep K c) (nI 0))) 2 (upd (yy 2) (dep K c) (nI 1))) 0 (upd (YA yy (k + 1) 0) 5 (nI (dep K c + 1)))) h (by omega) hkt hrun k2 hd hE hEt hf (by decide) (by decide) (fun _ => rfl) hr hi ha hS (by rw [sr_e, YA_0]) (by rw [sr_n (by decide), sr_n (by decide), sr_e]) (by rw [sr_n (by decide), sr_e]) w0 w7 w8 w9' wd ?_ ?_
    · rw [g1]
      unfold fX7_enterIf_L43
      show bnd (bnd (fX7_enter N tn (nI 1) (YA yy (k + 1)) ww pp tt) fun r1 => some r1) _ = _
      rw [hC, bnd_s, bnd_s]
    · rw [g2]
      unfold fX12_goChoice_L48
      rw [hMM, bnd_s, bnd_s, bnd_s]
  have skipC : (∃ mf, fX7_statement N tn yy ww pp tt = (bnd (fX7_enterIf_L51 N tn ww pp tt (YA yy (k + 1))) fun r15 => some (r15, ww, pp)) ∧ fX12_goStatement N mm = (bnd (bnd (fX12_goChoice_L56 N (MA mm k)) mf) fun r4 => some r4) ∧ mf = fun r => some r) → STEP tn X K W F S o e r c acts ww mm (fX7_statement N tn yy ww pp tt) (fX12_goStatement N mm) := by
    rintro ⟨mf, g1, g2, rfl⟩
    obtain ⟨hP, hp⟩ := PLS_sk h (by omega) hrun k2 hE hEt
    have hpass := passM (N := N) (mm := mm) hM hX htn h11 hK hE hEt (E - k) k N rfl (Nat.le_refl _) (by have := hE.1; omega) (by omega)
    rw [Nat.sub_self] at hpass
    refine STEP_of (pp := pp) hr hi ha hP hSE (MA_o (by decide)) ⟨fun d a1 _ _ _ _ _ => MA_o a1, fun q _ _ _ a3 _ => MA_n a3⟩ hp ?_ ?_
    · rw [g1]
      unfold fX7_enterIf_L51
      rw [YA_3, nsub1, show k + 1 - 1 = k from rfl, valC hT hkt, hE.2.2.2.2.2.2, bnd_s, j1, YA_st, thn_e, bnd_s]
    · rw [g2]
      unfold fX12_goChoice_L56 fX12_passBlock
      show bnd (bnd (bnd (fX12_passBlock_L4 N N (nI 0) 1 (MA mm k)) fun r1 => some r1) fun r => some r) _ = _
      rw [hpass, bnd_s, bnd_s, bnd_s]
  have hcl : fX7_statement N tn yy ww pp tt = bnd (if K j = 60 then (if nI u ≤ nI v then fX7_enterIf_L51 N tn ww pp tt (YA yy (k + 1)) else fX7_enterIf_L43 N tn ww pp tt (YA yy (k + 1))) else (if nI v = nI u then fX7_enterIf_L43 N tn ww pp tt (YA yy (k + 1)) else fX7_enterIf_L51 N tn ww pp tt (YA yy (k + 1)))) fun r15 => some (r15, ww, pp) := by
    unfold fX7_statement
    rw [wordC hT h hc, bnd_s, YA1 h, thn_e, hk, if_neg (by decide), if_neg (by decide), if_neg (by decide), if_neg (by decide), if_neg (by decide), if_neg (by decide), if_pos (by decide)]
    unfold fX7_enterIf
    rw [v2, bnd_s]
    dsimp only
    rw [YA_3, nsub1, show j + 1 - 1 = j from rfl, kindC hT (by omega), bnd_s, u2, bnd_s]
    unfold kf
    rw [if_pos (show j < tn by omega)]
    congr 1
    by_cases q : K j = 60
    · rw [if_pos q, if_pos (by rw [q]; rfl)]
    · rw [if_neg q, if_neg (show ¬ nI (K j) = 60 from fun z => q ((eq_nI (b := 60) (by omega) (by decide)).mp z))]
  have hml : fX12_goStatement N mm = bnd (bnd (if K j = 60 then (if nI u ≤ nI v then fX12_goChoice_L56 N (MA mm k) else fX12_goChoice_L48 N (MA mm k)) else (if nI v = nI u then fX12_goChoice_L48 N (MA mm k) else fX12_goChoice_L56 N (MA mm k))) fun r => some r) fun r4 => some r4 := by
    unfold fX12_goStatement
    rw [wordM hT hX h hc, bnd_s, hk, if_neg (by decide), MA1 h, thn_e, if_neg (by decide), if_pos (by decide)]
    unfold fX12_goChoice
    rw [v3, bnd_s]
    dsimp only
    rw [MA_17, nsub1, show j + 1 - 1 = j from rfl, tokM (MA_T hM) hX htn (by rw [MA_n (by decide)]; exact h11) (by omega), bnd_s, if_pos (show j < tn by omega), hkj]
    unfold fX12_goChoice_L25
    rw [u3, bnd_s, bnd_s, bnd_some']
    by_cases q : K j = 60
    · rw [if_pos q, if_pos (show nI (K j) = 60 by rw [q]; rfl), if_neg (by decide)]
      exact (bnd_some'.trans bnd_some').symm
    · rw [if_neg q, if_neg (show ¬ nI (K j) = 60 from fun z => q ((eq_nI (b := 60) (by omega) (by decide)).mp z)), if_pos rfl]
      exact (bnd_some'.trans bnd_some').symm
  by_cases q : K j = 60
  · rw [if_pos q] at hcl hml
    by_cases z : nI u ≤ nI v
    · rw [if_pos z] at hcl hml
      exact skipC ⟨_, hcl, hml, rfl⟩
    · rw [if_neg z] at hcl hml
      exact intoC ⟨_, hcl, hml, rfl⟩
  · rw [if_neg q] at hcl hml
    by_cases z : nI v = nI u
    · rw [if_pos z] at hcl hml
      exact intoC ⟨_, hcl, hml, rfl⟩
    · rw [if_neg z] at hcl hml
      exact skipC ⟨_, hcl, hml, rfl⟩
end Y4
