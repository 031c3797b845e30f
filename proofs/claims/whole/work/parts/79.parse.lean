/-! PARSING: the main loop, the whole -/
def fX8_parse_L95 (N : Nat) (k36 : (Int32 → RS → Option (RS))) (x1 : Int32) (rr : RS) : Option (RS) := k36 (x1 + 1) rr
def fX8_parse_L91 (N : Nat) (k36 : (Int32 → RS → Option (RS))) (x1 : Int32) (rr : RS) : Option (RS) := bnd (fX8_statement N rr) fun r1 => fX8_parse_L95 N k36 x1 r1
def fX8_parse_L113 (N : Nat) (rr : RS) : Option (RS) := thn (st rr 0 1 0) fun rr_1 => some rr_1
def fX8_parse_L101 (N : Nat) (rr : RS) : Option (RS) := if (rr 0 10) ≤ 0 then (fX8_parse_L113 N rr) else (bnd (fX8_blame N 1 rr) fun r1 => fX8_parse_L113 N r1)
def fX8_parse_L36 (N : Nat) : Nat → Int32 → RS → Option (RS)
  | 0, _, _ => none
  | k + 1, x1, rr => if (rr 0 7) ≤ x1 then (fX8_parse_L101 N rr) else (if (rr 0 2) = 0 then (ck (inb (rr 0 8) 301) <| if (rr 2 (rr 0 8).toNatClampNeg) = 0 then (fX8_parse_L101 N rr) else (if (rr 2 (rr 0 8).toNatClampNeg) = 125 then (if (rr 0 10) ≤ 0 then (fX8_parse_L91 N (fX8_parse_L36 N k) x1 rr) else (bnd (fX8_close N rr) fun r2 => fX8_parse_L95 N (fX8_parse_L36 N k) x1 r2)) else (fX8_parse_L91 N (fX8_parse_L36 N k) x1 rr))) else (fX8_parse_L101 N rr))
def fX8_parse (N : Nat) (rr : RS) : Option (RS) := bnd (fX8_listTokens N rr) fun r1 => thn (st r1 0 2 0) fun rr_2 => thn (st rr_2 0 3 (-1)) fun rr_3 => thn (st rr_3 0 8 0) fun rr_4 => thn (st rr_4 0 9 0) fun rr_5 => thn (st rr_5 0 10 0) fun rr_6 => thn (st rr_6 0 12 0) fun rr_7 => fX8_parse_L36 N N 0 rr_7
/-- the shape of a text without a fault -/
def TSH (tn : Nat) (K W : Nat → Nat) (F : Nat → Int32) : Prop := (∀ j, j < tn → 0 < K j ∧ K j < 126) ∧ dep K tn = 0 ∧ (∃ S : Nat → Prop, S 0 ∧ ∀ j, S j → j ≤ tn ∧ dep K j ≤ 3 ∧ (j < tn → ∃ j', okS tn K W F j j' ∧ S j')) ∧
  (∀ c, c < tn → K c = 125 → ∃ o, clo K F o c) ∧ ∀ o, o < tn → K o = 123 → ∃ c, c < tn ∧ clo K F o c
/-- the reference's text at X -/
def MTx (X tn : Nat) (K W : Nat → Nat) (mm : RS) : Prop := mm 3 X = nI tn ∧ ∀ j, j < tn → mm 3 (X + 1 + 2 * j) = nI (km (K j)) ∧ mm 3 (X + 2 + 2 * j) = nI (W j)
def PRES (tn X : Nat) (K W : Nat → Nat) (m0 : RS) (oc : Option RS) (om : Option (Int32 × RS)) : Prop :=
  (∃ r' m', oc = some r' ∧ om = some (0, m') ∧ frM X m0 m' ∧ r' 0 1 = 0 ∧ r' 0 2 = 0 ∧ r' 0 3 = -1 ∧ r' 0 7 = nI (tn + 1) ∧ (∀ j, j < tn → r' 2 j = nI (K j)) ∧ TSH tn K W (r' 3) ∧ MTx X tn K W m') ∨
  ∃ f r' m', oc = some r' ∧ om = some (nI f, m') ∧ frM X m0 m' ∧ 0 < f ∧ f < 10 ∧ r' 0 1 = 0 ∧ r' 0 2 = nI f ∧ r' 0 3 = m' 0 8
theorem PRES.fr {tn X : Nat} {K W : Nat → Nat} {m0 m1 : RS} {oc : Option RS} {om : Option (Int32 × RS)} (h : PRES tn X K W m1 oc om) (h1 : frM X m0 m1) : PRES tn X K W m0 oc om := by
  rcases h with ⟨r', m', a, c, d, e⟩ | ⟨f, r', m', a, c, d, e⟩
  · exact Or.inl ⟨r', m', a, c, h1.tr d, e⟩
  · exact Or.inr ⟨f, r', m', a, c, h1.tr d, e⟩
section P7
variable {N n tn X : Nat} {b K V W P E : Nat → Nat} {rr mm : RS} {i c : Nat}
def MIv (n tn X : Nat) (b K V W P E : Nat → Nat) (i : Nat) (r m : RS) : Prop := PC n tn K V P i r ∧ PM n tn X b K W P E i m ∧ CXI K i r m ∧ cnt40 r m ∧ SHP tn K W i (r 3) ∧ r 0 3 = -1
theorem L101_no {r : RS} (h : r 0 2 ≠ 0) : fX8_parse_L101 N r = some (sr r 0 (upd (r 0) 1 0)) := by
  unfold fX8_parse_L101 fX8_parse_L113
  rw [bl_no h, bnd_s, thn_e, st_d, ite_self]
theorem L36_no {k : Nat} {x : Int32} {r : RS} (h : r 0 2 ≠ 0) : fX8_parse_L36 N (k + 1) x r = some (sr r 0 (upd (r 0) 1 0)) := by
  rw [fX8_parse_L36, if_neg h, L101_no h, ite_self]
theorem kf0 (T : TD N n tn X b K V W P E) (hi : i ≤ tn) (h : kf tn K i = 0) : i = tn := by
  by_cases q : i < tn
  · have := (KV_le (T.2.2.2.2.1 i q).1).2
    unfold kf at h
    rw [if_pos q] at h
    omega
  · omega
theorem main_loop (T : TD N n tn X b K V W P E) : ∀ d i k k2 x1 r m, tn + 1 - i = d → MIv n tn X b K V W P E i r m → x1 ≤ i → d < k → d < k2 → PRES tn X K W m (fX8_parse_L36 N k (nI x1) r) (fX12_readText_L48 N k2 m) := by
  have hn : tn ≤ 300 := Nat.le_trans T.2.1 T.2.2.1
  intro d
  induction d using Nat.strongRecOn with
  | ind d ih =>
    intro i k k2 x1 r m h1 hI h3 h4 h5
    obtain ⟨k, rfl⟩ : ∃ q, k = q + 1 := ⟨k - 1, by omega⟩
    obtain ⟨k2, rfl⟩ : ∃ q, k2 = q + 1 := ⟨k2 - 1, by omega⟩
    obtain ⟨hC, hM, hx, hs, hsh, hf3⟩ := hI
    have hi := hC.1
    have hx1 := hx.1
    have c0 : ∀ {α : Type} {A B : α}, (if r 2 i = 0 then A else B) = if kf tn K i = 0 then A else B := kc_if T hC (c := 0) (by decide)
    have c125 : ∀ {α : Type} {A B : α}, (if r 2 i = 125 then A else B) = if kf tn K i = 125 then A else B := kc_if T hC (c := 125) (by decide)
    have hkm := kmf _ (kf_le T i)
    have m0 : ∀ {α : Type} {A B : α}, (if m 0 9 = 0 then A else B) = if km (kf tn K i) = 0 then A else B := mc_if T hM (c := 0) (by decide)
    have m125 : ∀ {α : Type} {A B : α}, (if m 0 9 = 125 then A else B) = if kf tn K i = 125 then A else B := ms_if T hM (c := 125) (by omega)
    have d0 : ∀ {α : Type} {A B : α}, (if nI (dep K i) ≤ 0 then A else B) = if dep K i = 0 then A else B := fun {α A B} => by
      by_cases q : dep K i = 0
      · rw [if_pos q, if_pos ((ge_0 (by omega)).mpr q)]
      · rw [if_neg q, if_neg (fun z => q ((ge_0 (by omega)).mp z))]
    have hc : fX8_parse_L36 N (k + 1) (nI x1) r = if kf tn K i = 0 then fX8_parse_L101 N r else if kf tn K i = 125 then (if dep K i = 0 then fX8_parse_L91 N (fX8_parse_L36 N k) (nI x1) r else bnd (fX8_close N r) fun r2 => fX8_parse_L95 N (fX8_parse_L36 N k) (nI x1) r2) else fX8_parse_L91 N (fX8_parse_L36 N k) (nI x1) r := by
      rw [fX8_parse_L36, hC.2.2.2.1, if_neg (nI_ge (by omega) (by omega)), if_pos hC.2.2.1, hC.2.1, inb_nI (by omega) (by omega), ck_t, cl_nI (by omega), c0, c125, hx.2.1, d0]
    have hm : fX12_readText_L48 N (k2 + 1) m = if kf tn K i = 0 then (if dep K i = 0 then some (0, m) else fX12_readText_L62 N (fX12_readText_L48 N k2) m) else fX12_readText_L62 N (fX12_readText_L48 N k2) m := by
      rw [fX12_readText_L48, m0, hx.2.2.2.1, d0]
      by_cases q : kf tn K i = 0
      · rw [if_pos q, if_pos (hkm.2.2.1.mpr q)]
      · rw [if_neg q, if_neg (fun z => q (hkm.2.2.1.mp z))]
    have h62 : fX12_readText_L62 N (fX12_readText_L48 N k2) m = if kf tn K i = 125 then (if dep K i = 0 then fX12_readText_L85 N (fX12_readText_L48 N k2) m else bnd (fX12_closed N m) fun r1 => fX12_readText_L48 N k2 r1) else fX12_readText_L85 N (fX12_readText_L48 N k2) m := by
      unfold fX12_readText_L62
      rw [m125, hx.2.2.2.1, d0]
    have stat : (K i = 125 → dep K i = 0) → PRES tn X K W m (fX8_parse_L91 N (fX8_parse_L36 N k) (nI x1) r) (fX12_readText_L85 N (fX12_readText_L48 N k2) m) := by
      intro h125
      unfold fX8_parse_L91 fX8_parse_L95 fX12_readText_L85
      rcases stat_ok T hC hM hx hs with ⟨j, r', m', g1, g2, g3, ⟨r0, m0', g4, g5, g6⟩, g7⟩ | ⟨f, r', m', g1, g2, g3, g4⟩
      · rw [g1, bnd_s, g2, bnd_s, if_pos rfl, j1]
        obtain ⟨s1, s2, s3, s4, s5, s6, s7⟩ := g4
        have hK : K i ≠ 125 := fun z => by
          have := h125 z
          obtain ⟨-, -, y⟩ := s4
          rcases y with ⟨-, -, y⟩ | ⟨y, -⟩ | ⟨y, -⟩ | ⟨y, -⟩ | ⟨y, -⟩ | ⟨y, -⟩ <;> omega
        have hij := s4.1
        have hj := s1.1
        refine (ih (tn + 1 - j) (by omega) j k k2 (x1 + 1) r' m' rfl ⟨s1, s2, s3, g7, ?_, ?_⟩ (by omega) (by omega) (by omega)).fr g3
        · exact SHP_st hsh hK s4 s3.1 (fun t ht => by rw [s5 t ht, g5])
        · rw [s6 3 (Or.inr rfl), g6]; exact hf3
      · rw [g1, bnd_s, g2, bnd_s, if_neg (show ¬ nI f = 0 from nI_ne0 g4.1 (by have := g4.2.1; omega))]
        obtain ⟨k, rfl⟩ : ∃ q, k = q + 1 := ⟨k - 1, by omega⟩
        rw [L36_no g4.ne]
        exact Or.inr ⟨f, _, m', rfl, rfl, g3, g4.1, g4.2.1, by rw [sr_e, upd_e], by rw [sr_e, upd_n (by decide)]; exact g4.2.2.1, by rw [sr_e, upd_n (by decide)]; exact g4.2.2.2.1⟩
    rw [hc, hm]
    by_cases q0 : kf tn K i = 0
    · have e := kf0 T hi q0
      subst e
      rw [if_pos q0, if_pos q0]
      by_cases qd : dep K i = 0
      · rw [if_pos qd]
        refine Or.inl ⟨sr r 0 (upd (r 0) 1 0), m, ?_, rfl, frM.rf, by rw [sr_e, upd_e], by rw [sr_e, upd_n (by decide)]; exact hC.2.2.1, by rw [sr_e, upd_n (by decide)]; exact hf3, by rw [sr_e, upd_n (by decide)]; exact hC.2.2.2.1, fun j hj => ?_, ?_, ?_, fun j hj => ?_⟩
        · unfold fX8_parse_L101 fX8_parse_L113
          rw [hx.2.1, d0, if_pos qd, thn_e, st_d]
        · rw [sr_n (by decide), (hC.2.2.2.2.1 j (by omega)).1]
          unfold kf
          rw [if_pos hj]
        · rw [sr_n (by decide)]
          obtain ⟨S, a1, a2, a3, a4, a5⟩ := hsh
          refine ⟨fun j hj => ?_, qd, ⟨S, a1, a3⟩, a4, fun o ho hk => ?_⟩
          · have := KV_le (T.2.2.2.2.1 j hj).1
            omega
          · rcases a5 o ho hk with z | z
            · exact z
            · have := z i ho (Nat.le_refl _)
              omega
        · have := hM.2.2.2.2.2.1
          rw [if_neg (by omega)] at this
          exact this
        · exact hM.2.2.2.2.2.2 j hj (by omega)
      · rw [if_neg qd, h62, if_neg (by omega)]
        have hb := bl_F (f := 1) T hC hM (by decide) (by decide)
        refine Or.inr ⟨1, sr (sr r 0 (upd (upd (r 0) 2 (nI 1)) 3 (nI (pf n i P i)))) 0 (upd ((sr r 0 (upd (upd (r 0) 2 (nI 1)) 3 (nI (pf n i P i)))) 0) 1 0), m, ?_, ?_, frM.rf, by decide, by decide, ?_, ?_, ?_⟩
        · unfold fX8_parse_L101 fX8_parse_L113
          rw [hx.2.1, d0, if_neg qd, show (1 : Int32) = nI 1 from rfl, bl_ok T hC, bnd_s, thn_e, st_d]
        · unfold fX12_readText_L85 fX12_statement
          rw [hM.2.2.1, q0, thn_e, show fX12_isIn (nI (km 0)) 200 206 = 0 from by decide, if_pos rfl, bnd_s]
          exact if_neg (show ¬ (1 : Int32) = 0 by decide)
        · rw [sr_e, upd_e]
        · rw [sr_e, upd_n (by decide)]; exact hb.2.2.1
        · rw [sr_e, upd_n (by decide)]; exact hb.2.2.2.1
    · rw [if_neg q0, if_neg q0, h62]
      by_cases q1 : kf tn K i = 125
      · obtain ⟨hit, hK⟩ := kf_in q1 (by decide)
        rw [if_pos q1, if_pos q1]
        by_cases qd : dep K i = 0
        · rw [if_pos qd, if_pos qd]
          exact stat (fun _ => qd)
        · rw [if_neg qd, if_neg qd]
          obtain ⟨o, r', m', g1, g2, g3, g4, g5, g6, g7, g8, g9, g10, g11, g12, g13⟩ := close_ok T hC hM hx hit hK (by omega)
          obtain ⟨s, s1, s2, s3⟩ := hs
          unfold fX8_parse_L95
          rw [g1, bnd_s, g2, bnd_s, j1]
          refine (ih (tn + 1 - (i + 1)) (by omega) (i + 1) k k2 (x1 + 1) r' m' rfl ⟨g4, g5, g6, ⟨s, s1, by rw [g12 9 (Or.inl rfl)]; exact s2, by rw [g13]; exact s3⟩, ?_, by rw [g12 3 (Or.inr rfl)]; exact hf3⟩ (by omega) (by omega) (by omega)).fr g3
          rw [g11]
          exact SHP_cl hsh hit hK g7 g8 g9 g10
      · rw [if_neg q1, if_neg q1]
        refine stat (fun z => ?_)
        by_cases hit : i < tn
        · exact absurd (by unfold kf; rw [if_pos hit]; exact z) q1
        · exact absurd (by unfold kf; rw [if_neg hit]) q0
end P7
/-- what reading a text may change of the reference's cells -/
def frX (X : Nat) (mm mm' : RS) : Prop := (∀ j, j ≠ 7 → j ≠ 8 → j ≠ 9 → j ≠ 10 → j ≠ 11 → j ≠ 12 → j ≠ 14 → j ≠ 15 → mm' 0 j = mm 0 j) ∧ (∀ d, d ≠ 0 → d ≠ 3 → d ≠ 5 → mm' d = mm d) ∧ ∀ j, (j < X ∨ X + 602 ≤ j) → mm' 3 j = mm 3 j
theorem parse_ok {N n t : Nat} (hN : 2000 ≤ N) {rr mm : RS} (hT : TP n rr mm) (ht : t < 4) (h0 : mm 1 0 = nI t) :
    (∃ tn K W r' m', tn ≤ 300 ∧ fX8_parse N rr = some r' ∧ fX12_readText N mm = some (0, m') ∧ frX (602 * t) mm m' ∧ r' 0 1 = 0 ∧ r' 0 2 = 0 ∧ r' 0 3 = -1 ∧ r' 0 7 = nI (tn + 1) ∧ (∀ j, j < tn → r' 2 j = nI (K j)) ∧ TSH tn K W (r' 3) ∧ MTx (602 * t) tn K W m') ∨
    ∃ f r' m', fX8_parse N rr = some r' ∧ fX12_readText N mm = some (nI f, m') ∧ frX (602 * t) mm m' ∧ 0 < f ∧ f < 10 ∧ r' 0 1 = 0 ∧ r' 0 2 = nI f ∧ r' 0 3 = m' 0 8 := by
  obtain ⟨t1, t2, t3, t4⟩ := hT
  obtain ⟨b, eb⟩ : ∃ b : Nat → Nat, b = fun i => (rr 1 i).toNatClampNeg := ⟨_, rfl⟩
  have hbb : ∀ i, i < n → b i < 256 ∧ rr 1 i = nI (b i) ∧ mm 4 i = nI (b i) := fun i hi => by
    obtain ⟨v, v1, v2, v3⟩ := t4 i hi
    have : b i = v := by rw [eb]; show (rr 1 i).toNatClampNeg = v; rw [v2, cl_nI (by omega)]
    rw [this]
    exact ⟨v1, v2, v3⟩
  have hBC : BC n b rr := ⟨t1, t2, fun i hi => ⟨(hbb i hi).1, (hbb i hi).2.1⟩⟩
  obtain ⟨r1, tn, K, V, P, W, E, g1, l1, l2, l3, l4, l5, l6, l7, l8, l9, l10⟩ := tokens_ok hN hBC
  simp only [Nat.zero_add] at l1 l3 l4 l5 l6
  have T : TD N n tn (602 * t) b K V W P E := ⟨hN, l1, t1, by omega, fun i hi => ⟨(l4 i hi).2.2.2.1, (l4 i hi).2.2.2.2⟩, l7⟩
  -- the class
  obtain ⟨r7, er⟩ : ∃ r7, r7 = sr r1 0 (upd (upd (upd (upd (upd (upd (r1 0) 2 0) 3 (-1)) 8 0) 9 0) 10 0) 12 0) := ⟨_, rfl⟩
  have hc : fX8_parse N rr = fX8_parse_L36 N N (nI 0) r7 := by
    unfold fX8_parse
    rw [g1, bnd_s, er]
    simp only [thn_e, st_d, sr_sr, sr_e]
    rfl
  have hC : PC n tn K V P 0 r7 := by
    refine ⟨Nat.zero_le _, by rw [er, sr_e, upd_n (by decide), upd_n (by decide), upd_n (by decide), upd_e]; rfl, by rw [er, sr_e, upd_n (by decide), upd_n (by decide), upd_n (by decide), upd_n (by decide), upd_n (by decide), upd_e], by rw [er, sr_e, upd_n (by decide), upd_n (by decide), upd_n (by decide), upd_n (by decide), upd_n (by decide), upd_n (by decide)]; exact l3, fun j hj => ?_, fun j _ hj => by rw [er, sr_n (by decide)]; exact (l4 j hj).2.1⟩
    rw [er, sr_n (by decide), sr_n (by decide)]
    unfold kf pf
    by_cases q : j < tn
    · rw [if_pos q, if_pos q]; exact ⟨(l4 j q).1, (l4 j q).2.2.1⟩
    · have : j = tn := by omega
      subst this
      rw [if_neg q, if_neg q]; exact ⟨l5, l6⟩
  -- the reference
  obtain ⟨m7, em⟩ : ∃ m7, m7 = sr (sr mm 3 (upd (mm 3) (602 * t) 0)) 0 (upd (upd (upd (upd (upd (mm 0) 11 (nI (602 * t))) 12 0) 14 0) 15 0) 7 0) := ⟨_, rfl⟩
  have hm : fX12_readText N mm = bnd (fX12_nextToken N m7) fun r8 => fX12_readText_L48 N N r8 := by
    unfold fX12_readText
    have e11 : (602 : Int32) * nI t = nI (602 * t) := mul_nI 602 t
    rw [h0, e11, thn_e, st_d, sr_e, upd_e, inb_nI (by omega) (by decide), ck_t, cl_nI (by omega), em]
    have e : ∀ (f g : Nat → Int32) (h : Nat → Int32), sr (sr (sr mm 0 f) 3 h) 0 g = sr (sr mm 3 h) 0 g := fun f g h => by
      funext d
      by_cases q : d = 0
      · subst q; rw [sr_e, sr_e]
      · rw [sr_n q, sr_n q]
        by_cases q3 : d = 3
        · subst q3; rw [sr_e, sr_e]
        · rw [sr_n q3, sr_n q3, sr_n q]
    simp (disch := decide) only [thn_e, st_d, sr_sr, sr_n, sr_e, e]
  have z0 : ∀ j, j ≠ 7 → j ≠ 11 → j ≠ 12 → j ≠ 14 → j ≠ 15 → m7 0 j = mm 0 j := fun j a1 a2 a3 a4 a5 => by rw [em, sr_e, upd_n a1, upd_n a5, upd_n a4, upd_n a3, upd_n a2]
  have z7 : m7 0 7 = nI 0 := by rw [em, sr_e, upd_e]; rfl
  have z11 : m7 0 11 = nI (602 * t) := by rw [em, sr_e, upd_n (by decide), upd_n (by decide), upd_n (by decide), upd_n (by decide), upd_e]
  have z12 : m7 0 12 = nI 0 := by rw [em, sr_e, upd_n (by decide), upd_n (by decide), upd_n (by decide), upd_e]; rfl
  have z14 : m7 0 14 = nI 0 := by rw [em, sr_e, upd_n (by decide), upd_n (by decide), upd_e]; rfl
  have z15 : m7 0 15 = nI 0 := by rw [em, sr_e, upd_n (by decide), upd_e]; rfl
  have z3 : m7 3 = upd (mm 3) (602 * t) 0 := by rw [em, sr_n (by decide), sr_e]
  have zc : ∀ d, d ≠ 0 → d ≠ 3 → m7 d = mm d := fun d a1 a2 => by rw [em, sr_n a1, sr_n a2]
  have hBM : BM n b m7 := ⟨t1, by rw [z0 4 (by decide) (by decide) (by decide) (by decide) (by decide)]; exact t3, fun i hi => ⟨(hbb i hi).1, by rw [zc 4 (by decide) (by decide)]; exact (hbb i hi).2.2⟩⟩
  have hX0 : m7 3 (602 * t) = nI 0 := by rw [z3, upd_e]; rfl
  have fr7 : frX (602 * t) mm m7 := ⟨fun j a1 a2 a3 a4 a5 a6 a7 a8 => z0 j a1 a5 a6 a7 a8, fun d a1 a2 a3 => zc d a1 a2, fun j hj => by rw [z3, upd_n (by omega)]⟩
  have frt : ∀ m', frM (602 * t) m7 m' → frX (602 * t) mm m' := fun m' h => ⟨fun j a1 a2 a3 a4 a5 a6 a7 a8 => (h.1 j a1 a2 a3 a4 a6 a7 a8).trans (fr7.1 j a1 a2 a3 a4 a5 a6 a7 a8), fun d a1 a2 a3 => (h.2.1 d a1 a2 a3).trans (fr7.2.1 d a1 a2 a3), fun j hj => (h.2.2 j hj).trans (fr7.2.2 j hj)⟩
  have first : ∃ m8, fX12_nextToken N m7 = some m8 ∧ PM n tn (602 * t) b K W P E 0 m8 ∧ frM (602 * t) m7 m8 ∧ stM m7 m8 := by
    by_cases c : 0 < tn
    · obtain ⟨mm', g1, g2, g3, g4, g5, g6, g7, g8, g9, g10, g11⟩ := (l4 0 c).2.2.2.2 m7 (602 * t) 0 hBM (by rw [l2]; exact z7) z11 hX0 (by omega)
      refine ⟨mm', g1, ⟨⟨t1, by rw [g6 4 (by decide) (by decide) (by decide) (by decide)]; exact hBM.2.1, fun j hj => by rw [g7 4 (by decide) (by decide)]; exact hBM.2.2 j hj⟩, by rw [g6 11 (by decide) (by decide) (by decide) (by decide)]; exact z11, by rw [g4]; unfold kf; rw [if_pos c], by rw [g3]; unfold pf; rw [if_pos c], fun _ => ⟨g5, g2⟩, by rw [g8, if_pos c], fun j j1 j2 => ?_⟩, ⟨fun j a1 a2 a3 a4 _ _ _ => g6 j a1 a2 a3 a4, fun d a1 a2 a3 => g7 d a1 a2, fun j hj => g11 j (by omega) (by omega) (by omega)⟩, ⟨g6 12 (by decide) (by decide) (by decide) (by decide), g6 14 (by decide) (by decide) (by decide) (by decide), g6 15 (by decide) (by decide) (by decide) (by decide), g7 5 (by decide) (by decide)⟩⟩
      have : j = 0 := by omega
      subst this
      exact ⟨g9, g10⟩
    · have e1 : tn = 0 := by omega
      subst e1
      obtain ⟨mm', g1, g3, g4, g6, g7⟩ := l7 m7 hBM (by rw [l2]; exact z7)
      refine ⟨mm', g1, ⟨⟨t1, by rw [g6 4 (by decide) (by decide) (by decide) (by decide)]; exact hBM.2.1, fun j hj => by rw [g7 4 (by decide)]; exact hBM.2.2 j hj⟩, by rw [g6 11 (by decide) (by decide) (by decide) (by decide)]; exact z11, by rw [g4]; unfold kf; rw [if_neg c]; rfl, by rw [g3]; unfold pf; rw [if_neg c], fun z => absurd z c, by rw [g7 3 (by decide), hX0, if_neg c], fun j j1 j2 => absurd j1 (by omega)⟩, ⟨fun j a1 a2 a3 a4 _ _ _ => g6 j a1 a2 a3 a4, fun d a1 a2 a3 => g7 d a1, fun j hj => by rw [g7 3 (by decide)]⟩, ⟨g6 12 (by decide) (by decide) (by decide) (by decide), g6 14 (by decide) (by decide) (by decide) (by decide), g6 15 (by decide) (by decide) (by decide) (by decide), g7 5 (by decide)⟩⟩
  obtain ⟨m8, f1, f2, f3, f4⟩ := first
  rw [f1, bnd_s] at hm
  have hx : CXI K 0 r7 m8 := by
    have e : lc K 0 0 = 0 := rfl
    refine ⟨by show 0 ≤ 3; omega, by rw [er, sr_e, upd_n (by decide), upd_e]; rfl, by rw [er, sr_e, upd_e]; rfl, by rw [f4.2.1]; exact z14, by rw [f4.2.2.1]; exact z15, fun w hw => absurd hw (Nat.not_lt_zero _), fun D hD => absurd hD (Nat.not_lt_zero _), fun D hD => absurd hD (Nat.not_lt_zero _)⟩
  have hI : MIv n tn (602 * t) b K V W P E 0 r7 m8 := ⟨hC, f2, hx, ⟨0, by decide, by rw [er, sr_e, upd_n (by decide), upd_n (by decide), upd_e]; rfl, by rw [f4.1]; exact z12⟩, ⟨fun t => t = 0, rfl, rfl, fun j hj => by subst hj; exact ⟨Nat.le_refl _, by show 0 ≤ 3; omega, fun q => absurd q (Nat.lt_irrefl _)⟩, fun c hc => absurd hc (Nat.not_lt_zero _), fun o ho => absurd ho (Nat.not_lt_zero _)⟩, by rw [er, sr_e, upd_n (by decide), upd_n (by decide), upd_n (by decide), upd_n (by decide), upd_e]⟩
  have hn : tn ≤ 300 := Nat.le_trans l1 t1
  have := (main_loop T (tn + 1) 0 N N 0 r7 m8 rfl hI (Nat.le_refl _) (by omega) (by omega)).fr f3
  rw [← hc, ← hm] at this
  rcases this with ⟨r', m', a1, a2, a3, a4⟩ | ⟨f, r', m', a1, a2, a3, a4⟩
  · exact Or.inl ⟨tn, K, W, r', m', hn, a1, a2, frt m' a3, a4⟩
  · exact Or.inr ⟨f, r', m', a1, a2, frt m' a3, a4⟩
