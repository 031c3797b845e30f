/-! PARSING: heads of loops and ifs, statements -/
theorem bnd_eta {o : Option (Int32 × RS)} : (bnd o fun r => some (r.1, r.2)) = o := by cases o <;> rfl
theorem bnd_sm {α : Type} {o : Option α} : (bnd o fun r => some r) = o := by cases o <;> rfl
section P4
variable {N n tn X : Nat} {b K V W P E : Nat → Nat} {rr mm : RS} {i : Nat}
theorem PM_fr {mm' : RS} (h : PM n tn X b K W P E i mm) (h3 : mm' 3 = mm 3) (h4 : mm' 4 = mm 4) (h0 : ∀ j, j ≠ 12 → j ≠ 14 → j ≠ 15 → mm' 0 j = mm 0 j) : PM n tn X b K W P E i mm' := by
  obtain ⟨a1, a2, a3, a4, a5, a6, a7⟩ := h
  refine ⟨⟨a1.1, by rw [h0 4 (by decide) (by decide) (by decide)]; exact a1.2.1, fun j hj => by rw [h4]; exact a1.2.2 j hj⟩, by rw [h0 11 (by decide) (by decide) (by decide)]; exact a2, by rw [h0 9 (by decide) (by decide) (by decide)]; exact a3, by rw [h0 8 (by decide) (by decide) (by decide)]; exact a4, fun q => ?_, by rw [h3]; exact a6, fun j j1 j2 => by rw [h3]; exact a7 j j1 j2⟩
  rw [h0 10 (by decide) (by decide) (by decide), h0 7 (by decide) (by decide) (by decide)]
  exact a5 q
theorem PC_fr {rr' : RS} (h : PC n tn K V P i rr) (h2 : rr' 2 = rr 2) (h3 : rr' 3 = rr 3) (h4 : rr' 4 = rr 4) (h0 : ∀ j, j = 8 ∨ j = 2 ∨ j = 7 → rr' 0 j = rr 0 j) : PC n tn K V P i rr' := by
  obtain ⟨a1, a2, a3, a4, a5, a6⟩ := h
  refine ⟨a1, by rw [h0 8 (by decide)]; exact a2, by rw [h0 2 (by decide)]; exact a3, by rw [h0 7 (by decide)]; exact a4, fun j hj => by rw [h2, h4]; exact a5 j hj, fun j j1 j2 => by rw [h3]; exact a6 j j1 j2⟩
theorem lc_cg {K' : Nat → Nat} {c c' d : Nat} (h : ∀ x, x < d → flg K c x = flg K' c' x) : lc K c d = lc K' c' d := sN_cg fun x hx => by rw [h x hx]
/-- a brace opens -/
theorem CXI_open {o : Nat} {f : Bool} {r' m' : RS} (h : CXI K o rr mm) (hK : K o = 123) (hd : dep K o < 3) (hf : decide (K (o - 2) = 9) = f)
    (c10 : r' 0 10 = nI (dep K o + 1)) (c12 : r' 0 12 = nI (lc K o (dep K o) + if f then 1 else 0)) (d14 : m' 0 14 = nI (dep K o + 1)) (d15 : m' 0 15 = nI (lc K o (dep K o) + if f then 1 else 0))
    (c5 : r' 5 = upd (rr 5) (dep K o) (nI o)) (c6 : ∀ w, w < lc K o (dep K o) → r' 6 w = rr 6 w) (c6' : f = true → r' 6 (lc K o (dep K o)) = nI (dep K o)) (d5 : m' 5 = upd (mm 5) (dep K o) (b2i f)) : CXI K (o + 1) r' m' := by
  obtain ⟨h1, h2, h3, h4, h5, h6, h7, h8⟩ := h
  have e1 : dep K (o + 1) = dep K o + 1 := by
    show (if K o = 123 then dep K o + 1 else _) = _
    rw [if_pos hK]
  have e2 : ∀ d, flg K (o + 1) d = if d = dep K o then f else flg K o d := fun d => by
    show (if K o = 123 ∧ d = dep K o then decide (K (o - 2) = 9) else flg K o d) = _
    by_cases q : d = dep K o
    · rw [if_pos ⟨hK, q⟩, if_pos q, hf]
    · rw [if_neg (fun z => q z.2), if_neg q]
  have e3 : ∀ d, d ≤ dep K o → lc K (o + 1) d = lc K o d := fun d hd => lc_cg fun x hx => by rw [e2, if_neg (by omega)]
  have e4 : lc K (o + 1) (dep K o + 1) = lc K o (dep K o) + if f then 1 else 0 := by rw [lc_s, e3 _ (Nat.le_refl _), e2, if_pos rfl]
  refine ⟨by omega, by rw [e1]; exact c10, by rw [e1, e4]; exact c12, by rw [e1]; exact d14, by rw [e1, e4]; exact d15, ?_, ?_, ?_⟩
  · rw [e1, e4]
    intro w hw
    by_cases q : w < lc K o (dep K o)
    · obtain ⟨D, a1, a2, a3, a4⟩ := h6 w q
      exact ⟨D, by omega, by rw [e2, if_neg (by omega)]; exact a2, by rw [e3 D (by omega)]; exact a3, by rw [c6 w q]; exact a4⟩
    · cases f with
      | false => exact absurd hw (by simp; omega)
      | true =>
        have : w = lc K o (dep K o) := by simp at hw; omega
        subst this
        exact ⟨dep K o, by omega, by rw [e2, if_pos rfl], e3 _ (Nat.le_refl _), c6' rfl⟩
  · rw [e1, d5]
    intro D hD
    rw [e2]
    by_cases q : D = dep K o
    · subst q; rw [upd_e, if_pos rfl]
    · rw [upd_n q, if_neg q]; exact h7 D (by omega)
  · rw [e1, c5]
    intro D hD
    by_cases q : D = dep K o
    · subst q
      refine ⟨o, upd_e _ _ _, by omega, hK, rfl, fun t t1 t2 => ?_⟩
      have : t = o + 1 := by omega
      subst this
      omega
    · obtain ⟨o2, a1, a2, a3, a4, a5⟩ := h8 D (by omega)
      refine ⟨o2, by rw [upd_n q]; exact a1, by omega, a3, a4, fun t t1 t2 => ?_⟩
      by_cases c : t ≤ o
      · exact a5 t t1 c
      · have : t = o + 1 := by omega
        subst this
        omega
theorem open_no {x : Int32} (h : rr 0 2 ≠ 0) : fX8_open N x rr = some rr := by
  unfold fX8_open
  rw [thn_e, take_no h, bnd_s, if_neg h]
/-- the last of a head: { -/
theorem open_ok {f : Bool} (T : TD N n tn X b K V W P E) (hC : PC n tn K V P i rr) (hM : PM n tn X b K W P E i mm) (hx : CXI K i rr mm) (hd : dep K i < 3) (hf : K i = 123 → decide (K (i - 2) = 9) = f) :
    R2 X mm (fun j rr' mm' => j = i + 1 ∧ i < tn ∧ K i = 123 ∧ PC n tn K V P j rr' ∧ PM n tn X b K W P E j mm' ∧ CXI K j rr' mm' ∧ rr' 3 = rr 3 ∧ (∀ q, q = 9 ∨ q = 3 → rr' 0 q = rr 0 q) ∧ mm' 0 12 = mm 0 12) (fX8_open N (b2i f) rr) (fX12_opened N (b2i f) mm) := by
  have hn : tn ≤ 300 := Nat.le_trans T.2.1 T.2.2.1
  have hlc : lc K i (dep K i) ≤ dep K i := lc_le
  obtain ⟨x1, x2, x3, x4, x5, x6, x7, x8⟩ := id hx
  have hm : ∀ {α : Type} {A B : α}, (if mm 0 9 = 123 then A else B) = if kf tn K i = 123 then A else B := ms_if T hM (c := 123) (by omega)
  have ht : fX8_take N 123 rr = _ := take_at T hC (c := 123) (by decide)
  by_cases q : kf tn K i = 123
  · obtain ⟨hi, hk⟩ := kf_in q (by decide)
    have hf' := hf hk
    have e2 : (sr rr 0 (upd (rr 0) 8 (nI (i + 1)))) 0 2 = 0 := by rw [sr_e, upd_n (by decide)]; exact hC.2.2.1
    have e10 : (sr rr 0 (upd (rr 0) 8 (nI (i + 1)))) 0 10 = nI (dep K i) := by rw [sr_e, upd_n (by decide)]; exact x2
    have cl1 : (nI (lc K i (dep K i))).toNatClampNeg = lc K i (dep K i) := cl_nI (by omega)
    have ib1 : inb (nI (lc K i (dep K i))) 3 = true := inb_nI (by omega) (by decide)
    obtain ⟨r', hcc, q0, q5, q6, qd⟩ : ∃ r', fX8_open N (b2i f) rr = some r' ∧ r' 0 = upd (if f then upd (upd (rr 0) 8 (nI (i + 1))) 12 (nI (lc K i (dep K i) + 1)) else upd (rr 0) 8 (nI (i + 1))) 10 (nI (dep K i + 1)) ∧ r' 5 = upd (rr 5) (dep K i) (nI i) ∧ r' 6 = (if f then upd (rr 6) (lc K i (dep K i)) (nI (dep K i)) else rr 6) ∧ ∀ d, d ≠ 0 → d ≠ 5 → d ≠ 6 → r' d = rr d := by
      unfold fX8_open fX8_open_L63
      rw [thn_e, ht, if_pos q, bnd_s, hC.2.1, if_pos e2, e10, if_neg (show ¬ (3 : Int32) ≤ nI (dep K i) from nI_ge (b := 3) (by omega) (by decide)), inb_nI hd (by decide), ck_t, cl_nI (by omega)]
      simp (disch := decide) only [thn_e, st_d, sr_n, sr_e, upd_n, upd_e, x2, x3, j1, cl1, ib1, ck_t]
      cases f with
      | false =>
        rw [if_pos (show b2i false = 0 from rfl)]
        exact ⟨_, rfl, by rw [sr_e]; rfl, by rw [sr_n (by decide), sr_e], by rw [sr_n (by decide), sr_n (by decide), sr_n (by decide)]; rfl, fun d a1 a2 a3 => by rw [sr_n a1, sr_n a2, sr_n a1]⟩
      | true =>
        rw [if_neg (show ¬ b2i true = 0 from by decide)]
        exact ⟨_, rfl, by rw [sr_e]; rfl, by rw [sr_n (by decide), sr_n (by decide), sr_n (by decide), sr_e], by rw [sr_n (by decide), sr_n (by decide), sr_e]; rfl, fun d a1 a2 a3 => by rw [sr_n a1, sr_n a1, sr_n a3, sr_n a2, sr_n a1]⟩
    obtain ⟨m1, hmm, w0, w5, wd⟩ : ∃ m1, fX12_opened N (b2i f) mm = (bnd (fX12_nextToken N m1) fun r2 => some (0, r2)) ∧ m1 0 = upd (upd (mm 0) 14 (nI (dep K i + 1))) 15 (nI (lc K i (dep K i) + if f then 1 else 0)) ∧ m1 5 = upd (mm 5) (dep K i) (b2i f) ∧ ∀ d, d ≠ 0 → d ≠ 5 → m1 d = mm d := by
      unfold fX12_opened fX12_opened_L45
      rw [hm, if_pos q, x4, inb_nI hd (by decide), ck_t, isB_b2i, ck_t, cl_nI (by omega)]
      simp (disch := decide) only [thn_e, st_d, sr_n, sr_e, sr_sr, upd_n, upd_e, x4, x5, j1]
      cases f with
      | false =>
        rw [if_pos (show b2i false = 0 from rfl)]
        exact ⟨_, rfl, by rw [sr_e, Int32.add_zero]; rfl, by rw [sr_n (by decide), sr_e], fun d a1 a2 => by rw [sr_n a1, sr_n a2]⟩
      | true =>
        rw [if_neg (show ¬ b2i true = 0 from by decide)]
        exact ⟨_, rfl, by rw [sr_e]; rfl, by rw [sr_n (by decide), sr_e], fun d a1 a2 => by rw [sr_n a1, sr_n a2]⟩
    have hM2 : PM n tn X b K W P E i m1 := PM_fr hM (wd 3 (by decide) (by decide)) (wd 4 (by decide) (by decide)) (fun j a1 a2 a3 => by rw [w0, upd_n a3, upd_n a2])
    obtain ⟨mm', g1, g2, g3, g4⟩ := adv_M T hM2 hi
    rw [g1, bnd_s] at hmm
    have fr1 : frM X mm m1 := ⟨fun j a1 a2 a3 a4 a5 a6 a7 => by rw [w0, upd_n a7, upd_n a6], fun d a1 a2 a3 => wd d a1 a3, fun j hj => by rw [wd 3 (by decide) (by decide)]⟩
    refine Or.inl ⟨i + 1, r', mm', hcc, hmm, fr1.tr g3, rfl, hi, hk, ?_, g2, ?_, qd 3 (by decide) (by decide) (by decide), ?_, ?_⟩
    · refine PC_fr (adv_C hC hi) ?_ ?_ ?_ (fun j hj => ?_)
      · rw [qd 2 (by decide) (by decide) (by decide), sr_n (by decide)]
      · rw [qd 3 (by decide) (by decide) (by decide), sr_n (by decide)]
      · rw [qd 4 (by decide) (by decide) (by decide), sr_n (by decide)]
      · rw [q0, sr_e, upd_n (by omega)]
        cases f with
        | false => rfl
        | true => simp only [if_true]; rw [upd_n (by omega)]
    · refine CXI_open hx hk hd hf' ?_ ?_ ?_ ?_ q5 ?_ ?_ ?_
      · rw [q0, upd_e]
      · rw [q0, upd_n (by decide)]
        cases f with
        | false => simp only [Bool.false_eq_true, if_false]; rw [upd_n (by decide)]; exact x3
        | true => simp only [if_true]; rw [upd_e]
      · rw [g4.2.1, w0, upd_n (by decide), upd_e]
      · rw [g4.2.2.1, w0, upd_e]
      · intro w hw
        rw [q6]
        cases f with
        | false => rfl
        | true => simp only [if_true]; rw [upd_n (by omega)]
      · intro ef
        subst ef
        rw [q6]
        simp only [if_true]
        rw [upd_e]
      · rw [g4.2.2.2, w5]
    · intro q hq
      rw [q0, upd_n (by omega)]
      cases f with
      | false => simp only [Bool.false_eq_true, if_false]; rw [upd_n (by omega)]
      | true => simp only [if_true]; rw [upd_n (by omega), upd_n (by omega)]
    · rw [g4.1, w0, upd_n (by decide), upd_n (by decide)]
  · have hb := bl_F (f := 1) T hC hM (by decide) (by decide)
    refine Or.inr ⟨1, _, mm, ?_, ?_, frM.rf, hb⟩
    · unfold fX8_open
      rw [thn_e, ht, if_neg q, show (1 : Int32) = nI 1 from rfl, bl_ok T hC, bnd_s, if_neg hb.ne]
    · unfold fX12_opened
      rw [hm, if_neg q]
      rfl
end P4
