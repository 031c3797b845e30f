/-! PARSING: blocks close; the main loop -/
def clo (K : Nat → Nat) (F : Nat → Int32) (o c : Nat) : Prop := o < c ∧ K o = 123 ∧ K c = 125 ∧ dep K c = dep K o + 1 ∧ (∀ t, o < t → t ≤ c → dep K o < dep K t) ∧ F c = nI o ∧ F o = nI c
/-- the shape of the tokens ahead of i -/
def SHP (tn : Nat) (K W : Nat → Nat) (i : Nat) (F : Nat → Int32) : Prop := ∃ S : Nat → Prop, S 0 ∧ S i ∧ (∀ j, S j → j ≤ i ∧ dep K j ≤ 3 ∧ (j < i → ∃ j', okS tn K W F j j' ∧ S j')) ∧
  (∀ c, c < i → K c = 125 → ∃ o, clo K F o c) ∧ ∀ o, o < i → K o = 123 → (∃ c, c < i ∧ clo K F o c) ∨ ∀ t, o < t → t ≤ i → dep K o < dep K t
theorem SUMV_nb {tn : Nat} {K W : Nat → Nat} {F : Nat → Int32} {c i j : Nat} (h : SUMV tn K W F c i j) : i < j ∧ ∀ t, i ≤ t → t < j → nbr K t := by
  obtain ⟨m, h1, h2, h4, h5⟩ := h
  refine ⟨by omega, fun t t1 t2 => ?_⟩
  by_cases c : (t - i) % 2 = 0
  · have := (h2 ((t - i) / 2) (by omega)).2
    rw [show i + 2 * ((t - i) / 2) = t from by omega] at this
    rcases this with ⟨q, -⟩ | ⟨q, -⟩
    · unfold nbr; omega
    · unfold nbr; omega
  · have := h4 ((t - i) / 2) (by omega)
    rw [show i + 2 * ((t - i) / 2) + 1 = t from by omega] at this
    unfold nbr
    omega
/-- within a statement (a head) there is no brace but a head's last -/
theorem okS_in {tn : Nat} {K W : Nat → Nat} {F : Nat → Int32} {i j : Nat} (h : okS tn K W F i j) (hK : K i ≠ 125) : ∀ t, i ≤ t → t < j → K t ≠ 125 ∧ (K t = 123 → j = t + 1) := by
  intro t t1 t2
  have fin : nbr K t → K t ≠ 125 ∧ (K t = 123 → j = t + 1) := fun q => ⟨q.2, fun z => absurd z q.1⟩
  obtain ⟨h1, h2, h⟩ := h
  rcases h with ⟨h, -⟩ | ⟨a, j1, k, s1, a1, s2, a2, rfl⟩ | ⟨a, j1, k, l, s1, a1, s2, a2, s3, a3, rfl⟩ | ⟨a, a1, rfl⟩ | ⟨a, a1, a2, a3, a4, a5, a6, rfl⟩ | ⟨a, j1, k, s1, a1, s2, a2, a3, rfl⟩
  · exact absurd h hK
  · have n1 := SUMV_nb s1
    have n2 := SUMV_nb s2
    apply fin
    by_cases q1 : t = i
    · subst q1; unfold nbr; omega
    · by_cases q2 : t < j1
      · exact n1.2 t (by omega) q2
      · by_cases q3 : t = j1
        · subst q3; unfold nbr; omega
        · by_cases q4 : t < k
          · exact n2.2 t (by omega) q4
          · have : t = k := by omega
            subst this
            unfold nbr; omega
  · have n1 := SUMV_nb s1
    have n2 := SUMV_nb s2
    have n3 := SUMV_nb s3
    apply fin
    by_cases q1 : t = i
    · subst q1; unfold nbr; omega
    · by_cases q2 : t < j1
      · exact n1.2 t (by omega) q2
      · by_cases q3 : t = j1
        · subst q3; unfold nbr; omega
        · by_cases q4 : t < k
          · exact n2.2 t (by omega) q4
          · by_cases q5 : t = k
            · subst q5; unfold nbr; omega
            · by_cases q6 : t < l
              · exact n3.2 t (by omega) q6
              · have : t = l := by omega
                subst this
                unfold nbr; omega
  · apply fin
    have : t = i ∨ t = i + 1 := by omega
    rcases this with rfl | rfl
    · unfold nbr; omega
    · unfold nbr; omega
  · have : t = i ∨ t = i + 1 ∨ t = i + 2 := by omega
    rcases this with rfl | rfl | rfl
    · exact fin (by unfold nbr; omega)
    · exact fin (by unfold nbr; omega)
    · exact ⟨by omega, fun _ => rfl⟩
  · have n1 := SUMV_nb s1
    have n2 := SUMV_nb s2
    by_cases q1 : t = i
    · subst q1; exact fin (by unfold nbr; omega)
    · by_cases q2 : t < j1
      · exact fin (n1.2 t (by omega) q2)
      · by_cases q3 : t = j1
        · subst q3; exact fin (by unfold nbr; omega)
        · by_cases q4 : t < k
          · exact fin (n2.2 t (by omega) q4)
          · have : t = k := by omega
            subst this
            exact ⟨by omega, fun _ => rfl⟩
theorem dep_up {K : Nat → Nat} {i : Nat} : ∀ d t, t - i = d → i ≤ t → (∀ u, i ≤ u → u < t → K u ≠ 125) → dep K i ≤ dep K t := by
  intro d
  induction d with
  | zero =>
    intro t h1 h2 _
    have : t = i := by omega
    subst this
    exact Nat.le_refl _
  | succ d ih =>
    intro t h1 h2 h3
    obtain ⟨t, rfl⟩ : ∃ q, t = q + 1 := ⟨t - 1, by omega⟩
    have a := ih t (by omega) (by omega) (fun u u1 u2 => h3 u u1 (by omega))
    have c := h3 t (by omega) (by omega)
    have e : dep K (t + 1) = if K t = 123 then dep K t + 1 else if K t = 125 then dep K t - 1 else dep K t := rfl
    rw [e, if_neg c]
    split <;> omega
/-- a statement (not a }) more -/
theorem SHP_st {tn : Nat} {K W : Nat → Nat} {F F' : Nat → Int32} {i j : Nat} (h : SHP tn K W i F) (hK : K i ≠ 125) (ho : okS tn K W F' i j) (hd : dep K j ≤ 3) (hF : ∀ t, t < i → F' t = F t) : SHP tn K W j F' := by
  obtain ⟨S, h1, h2, h3, h4, h5⟩ := h
  have hin := okS_in ho hK
  have hij := ho.1
  refine ⟨fun t => S t ∨ t = j, Or.inl h1, Or.inr rfl, ?_, ?_, ?_⟩
  · rintro t (ht | rfl)
    · obtain ⟨a1, a2, a3⟩ := h3 t ht
      refine ⟨by omega, a2, fun _ => ?_⟩
      by_cases q : t < i
      · obtain ⟨t', b1, b2⟩ := a3 q
        have := (h3 t' b2).1
        exact ⟨t', okS_cg b1 (fun u u1 u2 _ => hF u (by omega)), Or.inl b2⟩
      · have : t = i := by omega
        subst this
        exact ⟨j, ho, Or.inr rfl⟩
    · exact ⟨Nat.le_refl _, hd, fun q => absurd q (Nat.lt_irrefl _)⟩
  · intro c hc hk
    have hci : c < i := Nat.not_le.mp fun q => (hin c q hc).1 hk
    obtain ⟨o, a1, a2, a3, a4, a5, a6, a7⟩ := h4 c hci hk
    exact ⟨o, a1, a2, a3, a4, a5, by rw [hF c hci]; exact a6, by rw [hF o (by omega)]; exact a7⟩
  · intro o ho2 hk
    by_cases q : o < i
    · rcases h5 o q hk with ⟨c, hc, a1, a2, a3, a4, a5, a6, a7⟩ | h5
      · exact Or.inl ⟨c, by omega, a1, a2, a3, a4, a5, by rw [hF c hc]; exact a6, by rw [hF o q]; exact a7⟩
      · refine Or.inr fun t t1 t2 => ?_
        by_cases z : t ≤ i
        · exact h5 t t1 z
        · have := h5 i q (Nat.le_refl _)
          have := dep_up (K := K) (i := i) (t - i) t rfl (by omega) (fun u u1 u2 => (hin u u1 (by omega)).1)
          omega
    · have e := (hin o (by omega) ho2).2 hk
      refine Or.inr fun t t1 t2 => ?_
      have : t = o + 1 := by omega
      subst this
      have e : dep K (o + 1) = if K o = 123 then dep K o + 1 else if K o = 125 then dep K o - 1 else dep K o := rfl
      rw [e, if_pos hk]
      omega
/-- a } more -/
theorem SHP_cl {tn : Nat} {K W : Nat → Nat} {F : Nat → Int32} {o c : Nat} (h : SHP tn K W c F) (hc : c < tn) (hK : K c = 125) (ho : o < c) (hko : K o = 123) (hd : dep K c = dep K o + 1) (hop : ∀ t, o < t → t ≤ c → dep K o < dep K t) : SHP tn K W (c + 1) (upd (upd F c (nI o)) o (nI c)) := by
  obtain ⟨S, h1, h2, h3, h4, h5⟩ := h
  have ed : dep K (c + 1) = dep K o := by
    show (if K c = 123 then dep K c + 1 else if K c = 125 then dep K c - 1 else dep K c) = _
    rw [if_neg (by omega), if_pos hK]
    omega
  have hF : ∀ t, t ≠ c → t ≠ o → upd (upd F c (nI o)) o (nI c) t = F t := fun t a b => by rw [upd_n b, upd_n a]
  have hFc : upd (upd F c (nI o)) o (nI c) c = nI o := by rw [upd_n (by omega), upd_e]
  have hFo : upd (upd F c (nI o)) o (nI c) o = nI c := upd_e _ _ _
  have d3 := (h3 c h2).2.1
  refine ⟨fun t => S t ∨ t = c + 1, Or.inl h1, Or.inr rfl, ?_, ?_, ?_⟩
  · rintro t (ht | rfl)
    · obtain ⟨a1, a2, a3⟩ := h3 t ht
      refine ⟨by omega, a2, fun _ => ?_⟩
      by_cases q : t < c
      · obtain ⟨t', b1, b2⟩ := a3 q
        exact ⟨t', okS_cg b1 (fun u u1 u2 un => hF u (fun z => un.2 (by rw [z]; exact hK)) (fun z => un.1 (by rw [z]; exact hko))), Or.inl b2⟩
      · have : t = c := by omega
        subst this
        exact ⟨t + 1, ⟨by omega, by omega, Or.inl ⟨hK, rfl, by omega⟩⟩, Or.inr rfl⟩
    · exact ⟨Nat.le_refl _, by omega, fun q => absurd q (Nat.lt_irrefl _)⟩
  · intro c' hc' hk
    by_cases q : c' = c
    · subst q
      exact ⟨o, ho, hko, hK, hd, hop, hFc, hFo⟩
    · obtain ⟨o', a1, a2, a3, a4, a5, a6, a7⟩ := h4 c' (by omega) hk
      have hne : o' ≠ o := fun z => by
        subst z
        have e : dep K (c' + 1) = if K c' = 123 then dep K c' + 1 else if K c' = 125 then dep K c' - 1 else dep K c' := rfl
        rw [if_neg (by omega), if_pos hk] at e
        have := hop (c' + 1) (by omega) (by omega)
        omega
      exact ⟨o', a1, a2, a3, a4, a5, by rw [hF c' q (fun z => by rw [z, hko] at hk; omega)]; exact a6, by rw [hF o' (fun z => by rw [z, hK] at a2; omega) hne]; exact a7⟩
  · intro o' ho' hk
    by_cases q : o' = o
    · subst q
      exact Or.inl ⟨c, by omega, ho, hko, hK, hd, hop, hFc, hFo⟩
    · have hoc : o' ≠ c := fun z => by rw [z, hK] at hk; omega
      rcases h5 o' (by omega) hk with ⟨c', hc', a1, a2, a3, a4, a5, a6, a7⟩ | h5
      · exact Or.inl ⟨c', by omega, a1, a2, a3, a4, a5, by rw [hF c' (by omega) (fun z => by rw [z, hko] at a3; omega)]; exact a6, by rw [hF o' hoc q]; exact a7⟩
      · refine Or.inr fun t t1 t2 => ?_
        by_cases z : t ≤ c
        · exact h5 t t1 z
        · have : t = c + 1 := by omega
          subst this
          rw [ed]
          by_cases y : o' < o
          · exact h5 o y (by omega)
          · have := hop o' (by omega) (by omega)
            have := h5 c (by omega) (Nat.le_refl _)
            omega
section P6
variable {N n tn X : Nat} {b K V W P E : Nat → Nat} {rr mm : RS} {i c : Nat}
/-- a block closes -/
theorem close_ok (T : TD N n tn X b K V W P E) (hC : PC n tn K V P c rr) (hM : PM n tn X b K W P E c mm) (hx : CXI K c rr mm) (hi : c < tn) (hK : K c = 125) (hd : 0 < dep K c) :
    ∃ o r' m', fX8_close N rr = some r' ∧ fX12_closed N mm = some m' ∧ frM X mm m' ∧ PC n tn K V P (c + 1) r' ∧ PM n tn X b K W P E (c + 1) m' ∧ CXI K (c + 1) r' m' ∧ o < c ∧ K o = 123 ∧ dep K c = dep K o + 1 ∧ (∀ t, o < t → t ≤ c → dep K o < dep K t) ∧ r' 3 = upd (upd (rr 3) c (nI o)) o (nI c) ∧ (∀ q, q = 9 ∨ q = 3 → r' 0 q = rr 0 q) ∧ m' 0 12 = mm 0 12 := by
  have hn : tn ≤ 300 := Nat.le_trans T.2.1 T.2.2.1
  obtain ⟨D, eD⟩ : ∃ D, dep K c = D + 1 := ⟨dep K c - 1, by omega⟩
  obtain ⟨x1, x2, x3, x4, x5, x6, x7, x8⟩ := hx
  rw [eD] at x1 x2 x3 x4 x5 x6 x7 x8
  obtain ⟨o, o1, o2, o3, o4, o5⟩ := x8 D (by omega)
  have hle : lc K c D ≤ D := lc_le
  have hs := lc_s (K := K) (i := c) (d := D)
  have ed : dep K (c + 1) = D := by
    show (if K c = 123 then dep K c + 1 else if K c = 125 then dep K c - 1 else dep K c) = _
    rw [if_neg (by omega), if_pos hK]
    omega
  have ef : flg K (c + 1) = flg K c := by
    funext d
    show (if K c = 123 ∧ d = dep K c then decide (K (c - 2) = 9) else flg K c d) = _
    rw [if_neg (fun z => by omega)]
  have el : ∀ d, lc K (c + 1) d = lc K c d := fun d => by unfold lc; rw [ef]
  -- the class
  have h45 : ∀ r : RS, r 0 10 = nI D → r 0 8 = nI c → r 5 = rr 5 → fX8_close_L45 N r = some (sr (sr r 3 (upd (upd (r 3) c (nI o)) o (nI c))) 0 (upd (r 0) 8 (nI (c + 1)))) := by
    intro r h1 h2 h3
    unfold fX8_close_L45
    rw [h1, inb_nI (by omega) (by decide), ck_t, h2, inb_nI (by omega) (by decide), ck_t, cl_nI (by omega), cl_nI (by omega), h3, o1, thn_e, st_d, sr_n (by decide), h1, inb_nI (by omega) (by decide), ck_t, cl_nI (by omega), sr_n (by decide), h3, o1, inb_nI (by omega) (by decide), ck_t, cl_nI (by omega), h2, thn_e, st_sr, thn_e, st_d, sr_n (by decide), h2, j1]
  obtain ⟨z, ez⟩ : ∃ z, z = sr rr 0 (upd (upd (rr 0) 10 (nI D)) 12 (nI (lc K c D))) := ⟨_, rfl⟩
  have hcl : fX8_close N rr = fX8_close_L45 N z := by
    unfold fX8_close
    rw [thn_e, st_d, x2, s1 (by omega)]
    have e12 : (sr rr 0 (upd (rr 0) 10 (nI (D + 1 - 1)))) 0 12 = nI (lc K c (D + 1)) := by rw [sr_e, upd_n (by decide)]; exact x3
    rw [e12]
    by_cases f : flg K c D = true
    · rw [f, if_pos rfl] at hs
      rw [if_neg (show ¬ nI (lc K c (D + 1)) ≤ 0 from fun q => by have := (ge_0 (by omega)).mp q; omega), s1 (by omega), inb_nI (by omega) (by decide), ck_t, cl_nI (by omega)]
      obtain ⟨D', a1, a2, a3, a4⟩ := x6 (lc K c (D + 1) - 1) (by omega)
      have hDD : D' = D := by
        by_cases q : D' = D
        · exact q
        · exfalso
          have : lc K c (D' + 1) = lc K c D' + 1 := by rw [lc_s, a2, if_pos rfl]
          have := lc_mono (K := K) (i := c) (d := D' + 1) (e := D) (by omega)
          omega
      rw [hDD] at a4
      rw [sr_n (by decide), a4, sr_e, upd_e, if_pos (by rw [Nat.add_sub_cancel]), thn_e, st_sr, ez, show lc K c (D + 1) - 1 = lc K c D from by omega, Nat.add_sub_cancel]
    · rw [if_neg f] at hs
      replace hs : lc K c (D + 1) = lc K c D := hs
      have e : sr rr 0 (upd (rr 0) 10 (nI (D + 1 - 1))) = z := by
        rw [ez, Nat.add_sub_cancel]
        congr 1
        funext q
        by_cases h : q = 12
        · subst h; rw [upd_e, upd_n (by decide), x3, hs]
        · rw [upd_n h]
      by_cases q : lc K c (D + 1) = 0
      · rw [if_pos ((ge_0 (by omega)).mpr q), e]
      · rw [if_neg (fun y => q ((ge_0 (by omega)).mp y)), s1 (by omega), inb_nI (by omega) (by decide), ck_t, cl_nI (by omega)]
        obtain ⟨D', a1, a2, a3, a4⟩ := x6 (lc K c (D + 1) - 1) (by omega)
        have hDD : D' ≠ D := fun y => f (by rw [← y]; exact a2)
        rw [sr_n (by decide), a4, sr_e, upd_e, if_neg (fun y => hDD (by have := (eq_nI (by omega) (by omega)).mp y; omega)), ← e]
  have z0 : z 0 10 = nI D := by rw [ez, sr_e, upd_n (by decide), upd_e]
  have z8 : z 0 8 = nI c := by rw [ez, sr_e, upd_n (by decide), upd_n (by decide)]; exact hC.2.1
  have z3 : z 3 = rr 3 := by rw [ez, sr_n (by decide)]
  have hc2 := hcl.trans (h45 z z0 z8 (by rw [ez, sr_n (by decide)]))
  -- the reference
  obtain ⟨m1, em⟩ : ∃ m1, m1 = sr mm 0 (upd (upd (mm 0) 14 (nI D)) 15 (nI (lc K c D))) := ⟨_, rfl⟩
  have hm : fX12_closed N mm = bnd (fX12_nextToken N m1) fun r2 => some r2 := by
    unfold fX12_closed fX12_closed_L32
    rw [thn_e, st_d, x4, s1 (by omega), Nat.add_sub_cancel]
    have e14 : (sr mm 0 (upd (mm 0) 14 (nI D))) 0 14 = nI D := by rw [sr_e, upd_e]
    have e15 : (sr mm 0 (upd (mm 0) 14 (nI D))) 0 15 = nI (lc K c (D + 1)) := by rw [sr_e, upd_n (by decide)]; exact x5
    rw [e14, inb_nI (by omega) (by decide), ck_t, cl_nI (by omega), e15, sr_n (by decide), x7 D (by omega)]
    cases f : flg K c D with
    | true =>
      rw [f, if_pos rfl] at hs
      rw [if_neg (show ¬ b2i true = 0 by decide), thn_e, st_sr, show nI (lc K c (D + 1)) - 1 = nI (lc K c D) from by rw [s1 (by omega)]; congr 1; omega, em]
    | false =>
      rw [f, if_neg (by decide)] at hs
      replace hs : lc K c (D + 1) = lc K c D := hs
      rw [if_pos (show b2i false = 0 from rfl), thn_e, st_sr, hs, show nI (lc K c D) - 0 = nI (lc K c D) from sub_nI (Nat.zero_le _), em]
  have hM1 : PM n tn X b K W P E c m1 := PM_fr hM (by rw [em, sr_n (by decide)]) (by rw [em, sr_n (by decide)]) (fun j a1 a2 a3 => by rw [em, sr_e, upd_n a3, upd_n a2])
  have fr1 : frM X mm m1 := ⟨fun j a1 a2 a3 a4 a5 a6 a7 => by rw [em, sr_e, upd_n a7, upd_n a6], fun d a1 a2 a3 => by rw [em, sr_n a1], fun j hj => by rw [em, sr_n (by decide)]⟩
  obtain ⟨m', g1, g2, g3, g4⟩ := adv_M T hM1 hi
  rw [g1, bnd_s] at hm
  refine ⟨o, _, m', hc2, hm, fr1.tr g3, ?_, g2, ?_, o2, o3, by omega, fun t t1 t2 => by rw [o4]; exact o5 t t1 t2, ?_, ?_, ?_⟩
  · refine ⟨hi, by rw [sr_e, upd_e], by rw [sr_e, upd_n (by decide), ez, sr_e, upd_n (by decide), upd_n (by decide)]; exact hC.2.2.1, by rw [sr_e, upd_n (by decide), ez, sr_e, upd_n (by decide), upd_n (by decide)]; exact hC.2.2.2.1, fun j hj => ?_, fun j j1 j2 => ?_⟩
    · rw [sr_n (by decide), sr_n (by decide), sr_n (by decide), sr_n (by decide), ez, sr_n (by decide), sr_n (by decide)]
      exact hC.2.2.2.2.1 j hj
    · rw [sr_n (by decide), sr_e, upd_n (by omega), upd_n (by omega), z3]
      exact hC.2.2.2.2.2 j (by omega) j2
  · unfold CXI
    rw [ed, ef, el]
    refine ⟨by omega, by rw [sr_e, upd_n (by decide)]; exact z0, by rw [sr_e, upd_n (by decide), ez, sr_e, upd_e], by rw [g4.2.1, em, sr_e, upd_n (by decide), upd_e], by rw [g4.2.2.1, em, sr_e, upd_e], fun w hw => ?_, fun D' hD' => ?_, fun D' hD' => ?_⟩
    · obtain ⟨D', a1, a2, a3, a4⟩ := x6 w (by omega)
      refine ⟨D', ?_, a2, by rw [el]; exact a3, by rw [sr_n (by decide), sr_n (by decide), ez, sr_n (by decide)]; exact a4⟩
      by_cases q : D' = D
      · subst q; omega
      · omega
    · rw [g4.2.2.2, em, sr_n (by decide)]
      exact x7 D' (by omega)
    · obtain ⟨o', a1, a2, a3, a4, a5⟩ := x8 D' (by omega)
      refine ⟨o', by rw [sr_n (by decide), sr_n (by decide), ez, sr_n (by decide)]; exact a1, by omega, a3, a4, fun t t1 t2 => ?_⟩
      by_cases q : t ≤ c
      · exact a5 t t1 q
      · have : t = c + 1 := by omega
        subst this
        rw [ed]
        exact hD'
  · rw [sr_n (by decide), sr_e, z3]
  · intro q hq
    rw [sr_e, upd_n (by omega), ez, sr_e, upd_n (by omega), upd_n (by omega)]
  · rw [g4.1, em, sr_e, upd_n (by decide), upd_n (by decide)]
end P6
