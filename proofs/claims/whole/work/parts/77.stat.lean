/-! PARSING: statements -/
section P5
variable {N n tn X : Nat} {b K V W P E : Nat → Nat} {rr mm : RS} {i c : Nat}
/-- what a statement (a head) leaves -/
def STQ (n tn X : Nat) (b K V W P E : Nat → Nat) (c : Nat) (r0 m0 : RS) : Nat → RS → RS → Prop := fun j rr' mm' => PC n tn K V P j rr' ∧ PM n tn X b K W P E j mm' ∧ CXI K j rr' mm' ∧ okS tn K W (rr' 3) c j ∧ (∀ t, t < c → rr' 3 t = r0 3 t) ∧ (∀ q, q = 9 ∨ q = 3 → rr' 0 q = r0 0 q) ∧ mm' 0 12 = m0 0 12
theorem BDY_st {G : Nat → RS → Prop} {j : Nat} {r2 m2 rr' mm' : RS} (hx : CXI K c r2 m2) (hk : nbr K c) (h : BDY n tn X b K V W P E r2 m2 (c + 1) G j rr' mm') (hok : G j rr' → okS tn K W (rr' 3) c j) : STQ n tn X b K V W P E c r2 m2 j rr' mm' := by
  obtain ⟨h1, h2, h3, h4, h5, h6, h7⟩ := h
  refine ⟨h1, h2, CXI_run hx (by omega) (fun t t1 t2 => ?_) (h3.1 10 (by decide) (by decide) (by decide)) (h3.1 12 (by decide) (by decide) (by decide)) (h3.2.1 5 (by decide) (by decide)) (h3.2.1 6 (by decide) (by decide)) h4.2.1 h4.2.2.1 h4.2.2.2, hok h7, fun t ht => h3.2.2 t (by omega), fun q hq => h3.1 q (by omega) (by omega) (by omega), h4.1⟩
  by_cases q : t = c
  · subst q; exact hk
  · exact h6 t (by omega) t2
theorem if_ok {x : Int32} (T : TD N n tn X b K V W P E) (hC : PC n tn K V P (c + 1) rr) (hM : PM n tn X b K W P E (c + 1) mm) (hx : CXI K c rr mm) (hk : K c = 10) (hd : dep K c < 3) :
    R2 X mm (STQ n tn X b K V W P E c rr mm) (bnd (fX8_sum N rr) fun r11 => ck (inb (r11 0 8) 301) <| if (r11 2 (r11 0 8).toNatClampNeg) = 60 then (fX8_behindWord_L110 N x 60 r11) else (fX8_behindWord_L110 N x 61 r11)) (fX12_choiceHead N mm) := by
  have hNN := T.1
  have hn : tn ≤ 300 := Nat.le_trans T.2.1 T.2.2.1
  have hL := hx.2.2.1
  have hmL := hx.2.2.2.2.1
  have hL3 : lc K c (dep K c) ≤ 3 := Nat.le_trans lc_le (by omega)
  have hm : fX12_choiceHead N mm = mSum N (nI (lc K c (dep K c))) (fun r => if r 0 9 = 60 then fX12_choiceHead_L35 N r else if r 0 9 = 61 then fX12_choiceHead_L35 N r else some (1, r)) mm := by
    unfold fX12_choiceHead mSum
    rw [hmL]
  rw [hm]
  refine R2_sum hL3 T hC hM hL (fun j r1 m1 a1 a2 a3 a4 a5 => ?_) (fun f r' m' h => ?_)
  · have n1 := sumF_nb a5
    have hj := a1.1
    have key : ∀ s : Nat, (s = 60 ∨ s = 61) → R2 X m1 (STQ n tn X b K V W P E c rr mm) (fX8_behindWord_L110 N x (nI s) r1) (mTake N (nI s) (fun r => mSum N (r 0 15) (fun r => bnd (fX12_opened N 0 r) fun r3 => some (r3.1, r3.2)) r) m1) := by
      intro s hs
      unfold fX8_behindWord_L110
      refine R2_tk (c := s) T a1 a2 (by omega) (fun r2 m2 c1 c2 c3 c4 c5 c6 c7 => ?_) (fun f r' m' h => ?_)
      · have e15 : m2 0 15 = nI (lc K c (dep K c)) := by rw [c6.2.2.1, a4.2.2.1]; exact hmL
        show R2 X m2 _ _ (mSum N (m2 0 15) _ m2)
        rw [e15]
        refine R2_sum hL3 T c3 c4 (frK_L c5 (frK_L a3 hL)) (fun k r3 m3 d1 d2 d3 d4 d5 => ?_) (fun f r' m' h => by rw [open_no h.ne, bnd_s])
        have n2 := sumF_nb d5
        have hrun : ∀ t, c ≤ t → t < k → nbr K t := fun t t1 t2 => by
          by_cases q1 : t = c
          · subst q1; unfold nbr; omega
          · by_cases q2 : t < j
            · exact n1.2 t (by omega) q2
            · by_cases q3 : t = j
              · subst q3; unfold nbr; omega
              · exact n2.2 t (by omega) t2
        have hfr : frK rr r3 (c + 1) := (a3.tr c5 (by omega)).tr d3 (by omega)
        have hst : stM mm m3 := (a4.tr c6).tr d4
        have hxk : CXI K k r3 m3 := CXI_run hx (by omega) hrun (hfr.1 10 (by decide) (by decide) (by decide)) (hfr.1 12 (by decide) (by decide) (by decide)) (hfr.2.1 5 (by decide) (by decide)) (hfr.2.1 6 (by decide) (by decide)) hst.2.1 hst.2.2.1 hst.2.2.2
        have hdk : dep K k = dep K c := (dep_run (k - c) k rfl (by omega) hrun).1
        have ho := open_ok (f := false) T d1 d2 hxk (by omega) (fun _ => by
          obtain ⟨w, w1, w2, w3, -⟩ := d5
          apply decide_eq_false
          by_cases q : w = 0
          · rw [show k - 2 = j from by omega]; omega
          · have := w3 (w - 1) (by omega)
            rw [show j + 1 + 2 * (w - 1) + 1 = k - 2 from by omega] at this
            omega)
        rw [bnd_some']
        show R2 X m3 _ _ (bnd (fX12_opened N 0 m3) fun r3 => some (r3.1, r3.2))
        rw [bnd_eta]
        refine ho.mono (fun q r4 m4 _ h => ?_)
        obtain ⟨rfl, k1, k2, k3, k4, k5, k6, k7, k8⟩ := h
        have s1 : sumF tn K W (lc K c (dep K c)) rr r4 (c + 1) j := sumF_cg a5 (fun t ht => by rw [k6, d3.2.2 t (by omega), c7])
        have s2 : sumF tn K W (lc K c (dep K c)) rr r4 (j + 1) k := sumF_cg (sumF_cg0 d5 (by rw [c5.2.1 6 (by decide) (by decide), a3.2.1 6 (by decide) (by decide)])) (fun t ht => by rw [k6])
        exact ⟨k3, k4, k5, ⟨by omega, k3.1, Or.inr (Or.inr (Or.inr (Or.inr (Or.inr ⟨hk, j, k, SUM_of c1 hx s1, by omega, SUM_of k1 hx s2, k2, hd, rfl⟩))))⟩, fun t ht => by rw [k6, hfr.2.2 t (by omega)], fun q hq => by rw [k7 q hq]; exact hfr.1 q (by omega) (by omega) (by omega), by rw [k8]; exact hst.1⟩
      · obtain ⟨y, y1, y2⟩ := h.2.2.2.2
        rw [sum_no (by omega) h.ne y1 y2, bnd_s, open_no h.ne, bnd_s]
    have h60 : ∀ {α : Type} {A B : α}, (if m1 0 9 = 60 then A else B) = if kf tn K j = 60 then A else B := ms_if T a2 (c := 60) (by omega)
    have h61 : ∀ {α : Type} {A B : α}, (if m1 0 9 = 61 then A else B) = if kf tn K j = 61 then A else B := ms_if T a2 (c := 61) (by omega)
    have c60 : ∀ {α : Type} {A B : α}, (if r1 2 j = 60 then A else B) = if kf tn K j = 60 then A else B := kc_if T a1 (c := 60) (by decide)
    show R2 X m1 _ _ (if m1 0 9 = 60 then fX12_choiceHead_L35 N m1 else if m1 0 9 = 61 then fX12_choiceHead_L35 N m1 else some (1, m1))
    rw [a1.2.1, inb_nI (by omega) (by omega), ck_t, cl_nI (by omega), c60]
    by_cases q60 : kf tn K j = 60
    · have := key 60 (Or.inl rfl)
      have e : mTake N (nI 60) (fun r => mSum N (r 0 15) (fun r => bnd (fX12_opened N 0 r) fun r3 => some (r3.1, r3.2)) r) m1 = fX12_choiceHead_L35 N m1 := by
        show (if m1 0 9 = 60 then _ else _) = _
        rw [h60, if_pos q60]
        rfl
      rw [e] at this
      rw [if_pos q60, h60, if_pos q60]
      exact this
    · have := key 61 (Or.inr rfl)
      have e : mTake N (nI 61) (fun r => mSum N (r 0 15) (fun r => bnd (fX12_opened N 0 r) fun r3 => some (r3.1, r3.2)) r) m1 = if kf tn K j = 61 then fX12_choiceHead_L35 N m1 else some (1, m1) := by
        show (if m1 0 9 = 61 then _ else _) = _
        rw [h61]
        rfl
      rw [e] at this
      rw [if_neg q60, h60, if_neg q60, h61]
      exact this
  · obtain ⟨y, y1, y2⟩ := h.2.2.2.2
    have e : ∀ s : Int32, fX8_behindWord_L110 N x s r' = some r' := fun s => by
      unfold fX8_behindWord_L110
      rw [take_no h.ne, bnd_s, sum_no (by omega) h.ne y1 y2, bnd_s, open_no h.ne, bnd_s]
    rw [y2, inb_nI (by omega) (by omega), ck_t, e, e, ite_self]
theorem loop_ok (T : TD N n tn X b K V W P E) (hC : PC n tn K V P (c + 1) rr) (hM : PM n tn X b K W P E (c + 1) mm) (hx : CXI K c rr mm) (hk : K c = 9) (hd : dep K c < 3) :
    R2 X mm (STQ n tn X b K V W P E c rr mm) (bnd (fX8_times N rr) fun r9 => bnd (fX8_open N 1 r9) fun r10 => some r10) (fX12_loopHead N mm) := by
  have hn : tn ≤ 300 := Nat.le_trans T.2.1 T.2.2.1
  have hkm := kmf _ (kf_le T (c + 1))
  have h1 := hC.1
  have c2 : ∀ {α : Type} {A B : α}, (if rr 2 (c + 1) = 2 then A else B) = if kf tn K (c + 1) = 2 then A else B := kc_if T hC (c := 2) (by decide)
  have m1 : ∀ {α : Type} {A B : α}, (if mm 0 9 = 1 then A else B) = if km (kf tn K (c + 1)) = 1 then A else B := mc_if T hM (c := 1) (by decide)
  have t2 : fX8_take N 2 rr = _ := take_at T hC (c := 2) (by decide)
  have ht : fX8_times N rr = if kf tn K (c + 1) = 2 then (if rr 3 (c + 1) < 1 then fX8_times_L40 N rr else if rr 3 (c + 1) ≤ 9 then fX8_times_L45 N rr else fX8_times_L40 N rr) else fX8_times_L45 N rr := by
    unfold fX8_times
    rw [hC.2.1, inb_nI (by omega) (by omega), ck_t, cl_nI (by omega), c2]
  have hm : fX12_loopHead N mm = if km (kf tn K (c + 1)) = 1 then (if fX12_isIn (mm 0 10) 1 9 = 0 then some (2, mm) else (bnd (fX12_nextToken N mm) fun r2 => bnd (fX12_opened N 1 r2) fun r3 => some (r3.1, r3.2))) else some (1, mm) := by
    unfold fX12_loopHead
    rw [m1]
  by_cases q : kf tn K (c + 1) = 2
  · obtain ⟨hi, hk2⟩ := kf_in q (by decide)
    have hv : vr (V (c + 1)) (W (c + 1)) := by
      rcases (T.2.2.2.2.1 _ hi).1 with ⟨-, z⟩ | ⟨z, -⟩ | ⟨-, -, z⟩
      · exact z
      · omega
      · rcases z with z | z | z
        · omega
        · omega
        · rw [hk2] at z; cases z
    have hle := vr_le hv
    have e3 := hC.2.2.2.2.2 (c + 1) (Nat.le_refl _) hi
    have e10 := (hM.2.2.2.2.1 hi).1
    unfold vr at hv
    rw [if_pos q, e3] at ht
    rw [if_pos (hkm.2.1.mpr q), e10] at hm
    by_cases cl : 1 ≤ V (c + 1) ∧ V (c + 1) ≤ 9
    · rw [if_neg (show ¬ nI (V (c + 1)) < 1 from nI_nlt (b := 1) cl.1 (by omega)), if_pos (show nI (V (c + 1)) ≤ 9 from nI_le (b := 9) cl.2 (by decide))] at ht
      have hin : fX12_isIn (nI (W (c + 1))) 1 9 = 1 := by
        unfold fX12_isIn
        rw [if_neg (show ¬ nI (W (c + 1)) < 1 from nI_nlt (b := 1) (by omega) (by omega)), if_neg (show ¬ (9 : Int32) < nI (W (c + 1)) from nI_nlt (a := 9) (by omega) (by omega))]
      rw [hin, if_neg (by decide)] at hm
      obtain ⟨mm', g1, g2, g3, g4⟩ := adv_M T hM hi
      rw [g1, bnd_s, bnd_eta] at hm
      unfold fX8_times_L45 at ht
      rw [t2, if_pos q, bnd_s] at ht
      have hC2 := adv_C hC hi
      have hrun : ∀ t, c ≤ t → t < c + 1 + 1 → nbr K t := fun t t1 t2 => by
        have : t = c ∨ t = c + 1 := by omega
        rcases this with rfl | rfl
        · unfold nbr; omega
        · unfold nbr; omega
      have hxk : CXI K (c + 1 + 1) (sr rr 0 (upd (rr 0) 8 (nI (c + 1 + 1)))) mm' := CXI_run hx (by omega) hrun (by rw [sr_e, upd_n (by decide)]) (by rw [sr_e, upd_n (by decide)]) (sr_n (by decide)) (sr_n (by decide)) g4.2.1 g4.2.2.1 g4.2.2.2
      have hdk : dep K (c + 1 + 1) = dep K c := (dep_run _ _ rfl (by omega) hrun).1
      have ho := open_ok (f := true) T hC2 g2 hxk (by omega) (fun _ => by
        apply decide_eq_true
        rw [show c + 1 + 1 - 2 = c from by omega]
        exact hk)
      rw [ht, bnd_s, bnd_some', hm]
      refine (ho.fr g3).mono (fun z r4 m4 _ h => ?_)
      obtain ⟨rfl, k1, k2, k3, k4, k5, k6, k7, k8⟩ := h
      exact ⟨k3, k4, k5, ⟨by omega, k3.1, Or.inr (Or.inr (Or.inr (Or.inr (Or.inl ⟨hk, hk2, by omega, by omega, by rw [k6, sr_n (by decide), e3]; congr 1; omega, k2, hd, rfl⟩))))⟩, fun t ht => by rw [k6, sr_n (by decide)], fun q hq => by rw [k7 q hq, sr_e, upd_n (by omega)], by rw [k8]; exact g4.1⟩
    · have h40 : fX8_times N rr = fX8_times_L40 N rr := by
        rw [ht]
        by_cases z : V (c + 1) < 1
        · rw [if_pos (show nI (V (c + 1)) < 1 from nI_lt (b := 1) z (by decide))]
        · rw [if_neg (show ¬ nI (V (c + 1)) < 1 from nI_nlt (b := 1) (by omega) (by omega)), if_neg (show ¬ nI (V (c + 1)) ≤ 9 from nI_ge (a := 9) (by omega) (by omega))]
      have hin : fX12_isIn (nI (W (c + 1))) 1 9 = 0 := by
        unfold fX12_isIn
        by_cases z : W (c + 1) < 1
        · rw [if_pos (show nI (W (c + 1)) < 1 from nI_lt (b := 1) z (by decide))]
        · rw [if_neg (show ¬ nI (W (c + 1)) < 1 from nI_nlt (b := 1) (by omega) (by omega)), if_pos (show (9 : Int32) < nI (W (c + 1)) from nI_lt (a := 9) (by omega) (by omega))]
      have hb := bl_F (f := 2) T hC hM (by decide) (by decide)
      rw [hin, if_pos rfl] at hm
      refine Or.inr ⟨2, _, mm, ?_, hm, frM.rf, hb⟩
      rw [h40]
      unfold fX8_times_L40 fX8_times_L45
      rw [show (2 : Int32) = nI 2 from rfl, bl_ok T hC, bnd_s, take_no hb.ne, bnd_s, bnd_s, open_no hb.ne, bnd_s]
  · rw [if_neg q] at ht
    rw [if_neg (fun z => q (hkm.2.1.mp z))] at hm
    have hb := bl_F (f := 1) T hC hM (by decide) (by decide)
    refine Or.inr ⟨1, _, mm, ?_, hm, frM.rf, hb⟩
    rw [ht]
    unfold fX8_times_L45
    rw [t2, if_neg q, show (1 : Int32) = nI 1 from rfl, bl_ok T hC, bnd_s, bnd_s, open_no hb.ne, bnd_s]
def mDisp (N : Nat) (x1 : Int32) (r2 : RS) : Option (Int32 × RS) := if x1 = 200 then (bnd (fX12_sums N 2 (r2 0 15) r2) fun r3 => some (r3.1, r3.2)) else (if x1 = 201 then (bnd (fX12_sums N 3 (r2 0 15) r2) fun r4 => some (r4.1, r4.2)) else (if x1 = 202 then (bnd (fX12_sums N 2 (r2 0 15) r2) fun r5 => some (r5.1, r5.2)) else (if x1 = 203 then (bnd (fX12_sums N 0 (r2 0 15) r2) fun r6 => some (r6.1, r6.2)) else (if x1 = 204 then (bnd (fX12_sums N 0 (r2 0 15) r2) fun r7 => some (r7.1, r7.2)) else (if x1 = 205 then (bnd (fX12_loopHead N r2) fun r8 => some (r8.1, r8.2)) else (if x1 = 206 then (bnd (fX12_choiceHead N r2) fun r9 => some (r9.1, r9.2)) else (bnd (fX12_sums N 0 (r2 0 15) r2) fun r10 => some (r10.1, r10.2))))))))
theorem disp_ok {k : Nat} (T : TD N n tn X b K V W P E) (hC : PC n tn K V P (c + 1) rr) (hM : PM n tn X b K W P E (c + 1) mm) (hx : CXI K c rr mm) (hk : K c = k) (h4 : 4 ≤ k) (h10 : k ≤ 10) (hd : 9 ≤ k → dep K c < 3) :
    R2 X mm (STQ n tn X b K V W P E c rr mm) (fX8_behindWord N (nI k) rr) (mDisp N (nI (k + 196)) mm) := by
  have hL := hx.2.2.1
  have hmL := hx.2.2.2.2.1
  have hL3 : lc K c (dep K c) ≤ 3 := Nat.le_trans lc_le hx.1
  have hnb : nbr K c := by unfold nbr; omega
  have hcases : k = 4 ∨ k = 5 ∨ k = 6 ∨ k = 7 ∨ k = 8 ∨ k = 9 ∨ k = 10 := by omega
  rcases hcases with rfl | rfl | rfl | rfl | rfl | rfl | rfl
  · have hc : fX8_behindWord N 4 rr = bnd (fX8_sums N 2 rr) fun r1 => bnd (fX8_take N 59 r1) fun r2 => some r2 := by
      unfold fX8_behindWord
      rw [if_pos rfl]
    have hm : mDisp N 200 mm = fX12_sums N 2 (nI (lc K c (dep K c))) mm := by
      unfold mDisp
      rw [if_pos rfl, bnd_eta, hmL]
    show R2 X mm _ (fX8_behindWord N 4 rr) (mDisp N 200 mm)
    rw [hc, hm]
    refine (body2 hL3 T hC hM hL).mono (fun j rr' mm' _ h => BDY_st hx hnb h (fun ⟨g0, j1, j2, g1, g2, g3, g4, g5, g6, g7⟩ => ⟨by have := (sumF_nb g1).1; have := (sumF_nb g4).1; omega, g0, Or.inr (Or.inl ⟨by omega, j1, j2, SUM_of g2 hx g1, g3, SUM_of g5 hx g4, g6, g7⟩)⟩))
  · have hc : fX8_behindWord N 5 rr = bnd (fX8_sums N 3 rr) fun r1 => bnd (fX8_take N 59 r1) fun r2 => some r2 := by
      unfold fX8_behindWord
      rw [if_neg (by decide), if_pos rfl]
    have hm : mDisp N 201 mm = fX12_sums N 3 (nI (lc K c (dep K c))) mm := by
      unfold mDisp
      rw [if_neg (by decide), if_pos rfl, bnd_eta, hmL]
    show R2 X mm _ (fX8_behindWord N 5 rr) (mDisp N 201 mm)
    rw [hc, hm]
    refine (body3 hL3 T hC hM hL).mono (fun j rr' mm' _ h => BDY_st hx hnb h (fun ⟨g0, j1, j2, j3, g1, g2, g3, g4, g5, g6, g7, g8, g9, g10⟩ => ⟨by have := (sumF_nb g1).1; have := (sumF_nb g4).1; have := (sumF_nb g7).1; omega, g0, Or.inr (Or.inr (Or.inl ⟨hk, j1, j2, j3, SUM_of g2 hx g1, g3, SUM_of g5 hx g4, g6, SUM_of g8 hx g7, g9, g10⟩))⟩))
  · have hc : fX8_behindWord N 6 rr = bnd (fX8_sums N 2 rr) fun r1 => bnd (fX8_take N 59 r1) fun r2 => some r2 := by
      unfold fX8_behindWord
      rw [if_neg (by decide), if_neg (by decide), if_pos rfl]
    have hm : mDisp N 202 mm = fX12_sums N 2 (nI (lc K c (dep K c))) mm := by
      unfold mDisp
      rw [if_neg (by decide), if_neg (by decide), if_pos rfl, bnd_eta, hmL]
    show R2 X mm _ (fX8_behindWord N 6 rr) (mDisp N 202 mm)
    rw [hc, hm]
    refine (body2 hL3 T hC hM hL).mono (fun j rr' mm' _ h => BDY_st hx hnb h (fun ⟨g0, j1, j2, g1, g2, g3, g4, g5, g6, g7⟩ => ⟨by have := (sumF_nb g1).1; have := (sumF_nb g4).1; omega, g0, Or.inr (Or.inl ⟨by omega, j1, j2, SUM_of g2 hx g1, g3, SUM_of g5 hx g4, g6, g7⟩)⟩))
  · have hc : fX8_behindWord N 7 rr = bnd (fX8_take N 59 rr) fun r2 => some r2 := by
      unfold fX8_behindWord
      rw [if_neg (by decide), if_neg (by decide), if_neg (by decide), if_pos rfl]
    have hm : mDisp N 203 mm = fX12_sums N 0 (nI (lc K c (dep K c))) mm := by
      unfold mDisp
      rw [if_neg (by decide), if_neg (by decide), if_neg (by decide), if_pos rfl, bnd_eta, hmL]
    show R2 X mm _ (fX8_behindWord N 7 rr) (mDisp N 203 mm)
    rw [hc, hm]
    refine (body0 T hC hM).mono (fun j rr' mm' _ h => BDY_st hx hnb h (fun ⟨g0, g1, g2, g3⟩ => ⟨by omega, g0, Or.inr (Or.inr (Or.inr (Or.inl ⟨by omega, g2, by omega⟩)))⟩))
  · have hc : fX8_behindWord N 8 rr = bnd (fX8_take N 59 rr) fun r2 => some r2 := by
      unfold fX8_behindWord
      rw [if_neg (by decide), if_neg (by decide), if_neg (by decide), if_neg (by decide), if_pos rfl]
    have hm : mDisp N 204 mm = fX12_sums N 0 (nI (lc K c (dep K c))) mm := by
      unfold mDisp
      rw [if_neg (by decide), if_neg (by decide), if_neg (by decide), if_neg (by decide), if_pos rfl, bnd_eta, hmL]
    show R2 X mm _ (fX8_behindWord N 8 rr) (mDisp N 204 mm)
    rw [hc, hm]
    refine (body0 T hC hM).mono (fun j rr' mm' _ h => BDY_st hx hnb h (fun ⟨g0, g1, g2, g3⟩ => ⟨by omega, g0, Or.inr (Or.inr (Or.inr (Or.inl ⟨by omega, g2, by omega⟩)))⟩))
  · have hc : fX8_behindWord N 9 rr = bnd (fX8_times N rr) fun r9 => bnd (fX8_open N 1 r9) fun r10 => some r10 := by
      unfold fX8_behindWord
      rw [if_neg (by decide), if_neg (by decide), if_neg (by decide), if_neg (by decide), if_neg (by decide), if_pos rfl]
    have hm : mDisp N 205 mm = fX12_loopHead N mm := by
      unfold mDisp
      rw [if_neg (by decide), if_neg (by decide), if_neg (by decide), if_neg (by decide), if_neg (by decide), if_pos rfl, bnd_eta]
    show R2 X mm _ (fX8_behindWord N 9 rr) (mDisp N 205 mm)
    rw [hc, hm]
    exact loop_ok T hC hM hx hk (hd (by decide))
  · have hc : fX8_behindWord N 10 rr = bnd (fX8_sum N rr) fun r11 => ck (inb (r11 0 8) 301) <| if (r11 2 (r11 0 8).toNatClampNeg) = 60 then (fX8_behindWord_L110 N 10 60 r11) else (fX8_behindWord_L110 N 10 61 r11) := by
      unfold fX8_behindWord
      rw [if_neg (by decide), if_neg (by decide), if_neg (by decide), if_neg (by decide), if_neg (by decide), if_neg (by decide), if_pos rfl]
    have hm : mDisp N 206 mm = fX12_choiceHead N mm := by
      unfold mDisp
      rw [if_neg (by decide), if_neg (by decide), if_neg (by decide), if_neg (by decide), if_neg (by decide), if_neg (by decide), if_pos rfl, bnd_eta]
    show R2 X mm _ (fX8_behindWord N 10 rr) (mDisp N 206 mm)
    rw [hc, hm]
    exact if_ok T hC hM hx hk (hd (by decide))
/-- what the main loop holds of the count of statements -/
def cnt40 (rr mm : RS) : Prop := ∃ s, s ≤ 40 ∧ rr 0 9 = nI s ∧ mm 0 12 = nI s
theorem L53_ok {k : Nat} (T : TD N n tn X b K V W P E) (hC : PC n tn K V P c rr) (hM : PM n tn X b K W P E c mm) (hx : CXI K c rr mm) (hs : cnt40 rr mm) (hi : c < tn) (hk : K c = k) (h4 : 4 ≤ k) (h10 : k ≤ 10) (hd : 9 ≤ k → dep K c < 3) :
    R2 X mm (fun j rr' mm' => (∃ r0 m0, STQ n tn X b K V W P E c r0 m0 j rr' mm' ∧ r0 3 = rr 3 ∧ r0 0 3 = rr 0 3) ∧ cnt40 rr' mm') (fX8_statement_L53 N (nI k) rr) (fX12_statement_L37 N (nI (k + 196)) mm) := by
  obtain ⟨s, s1, s2, s3⟩ := hs
  have e40 : ∀ {α : Type} {A B : α}, (if nI s = 40 then A else B) = if s = 40 then A else B := fun {α A B} => by
    by_cases q : s = 40
    · subst q; rw [if_pos (show nI 40 = 40 from rfl), if_pos rfl]
    · rw [if_neg q, if_neg (show ¬ nI s = 40 from fun z => q ((eq_nI (b := 40) (by omega) (by decide)).mp z))]
  unfold fX8_statement_L53 fX12_statement_L37
  rw [s2, e40, s3, e40]
  by_cases q : s = 40
  · rw [if_pos q, if_pos q, bnd_some']
    exact R2_bl (f := 5) T hC hM (by decide) (by decide) rfl rfl
  · rw [if_neg q, if_neg q]
    simp only [thn_e, st_d, j1]
    rw [bnd_some']
    obtain ⟨r1, er⟩ : ∃ r1, r1 = sr rr 0 (upd (rr 0) 9 (nI (s + 1))) := ⟨_, rfl⟩
    obtain ⟨m1, em⟩ : ∃ m1, m1 = sr mm 0 (upd (mm 0) 12 (nI (s + 1))) := ⟨_, rfl⟩
    rw [← er, ← em]
    have hC1 : PC n tn K V P c r1 := PC_fr hC (by rw [er, sr_n (by decide)]) (by rw [er, sr_n (by decide)]) (by rw [er, sr_n (by decide)]) (fun j hj => by rw [er, sr_e, upd_n (by omega)])
    have hM1 : PM n tn X b K W P E c m1 := PM_fr hM (by rw [em, sr_n (by decide)]) (by rw [em, sr_n (by decide)]) (fun j a1 a2 a3 => by rw [em, sr_e, upd_n a1])
    rw [hC1.2.1, j1]
    obtain ⟨m2, g1, g2, g3, g4⟩ := adv_M T hM1 hi
    have hC2 := adv_C hC1 hi
    rw [g1, bnd_s]
    have fr1 : frM X mm m1 := ⟨fun j a1 a2 a3 a4 a5 a6 a7 => by rw [em, sr_e, upd_n a5], fun d a1 a2 a3 => by rw [em, sr_n a1], fun j hj => by rw [em, sr_n (by decide)]⟩
    have hx2 : CXI K c (sr r1 0 (upd (r1 0) 8 (nI (c + 1)))) m2 := CXI_run hx (Nat.le_refl _) (fun t t1 t2 => by omega) (by rw [sr_e, upd_n (by decide), er, sr_e, upd_n (by decide)]) (by rw [sr_e, upd_n (by decide), er, sr_e, upd_n (by decide)]) (by rw [sr_n (by decide), er, sr_n (by decide)]) (by rw [sr_n (by decide), er, sr_n (by decide)]) (by rw [g4.2.1, em, sr_e, upd_n (by decide)]) (by rw [g4.2.2.1, em, sr_e, upd_n (by decide)]) (by rw [g4.2.2.2, em, sr_n (by decide)])
    refine ((disp_ok T hC2 g2 hx2 hk h4 h10 hd).fr (fr1.tr g3)).mono (fun j rr' mm' _ h => ⟨⟨_, _, h, by rw [sr_n (by decide), er, sr_n (by decide)], by rw [sr_e, upd_n (by decide), er, sr_e, upd_n (by decide)]⟩, s + 1, by omega, ?_, ?_⟩)
    · rw [h.2.2.2.2.2.1 9 (Or.inl rfl), sr_e, upd_n (by decide), er, sr_e, upd_e]
    · rw [h.2.2.2.2.2.2, g4.1, em, sr_e, upd_e]
/-- a statement -/
theorem stat_ok (T : TD N n tn X b K V W P E) (hC : PC n tn K V P c rr) (hM : PM n tn X b K W P E c mm) (hx : CXI K c rr mm) (hs : cnt40 rr mm) :
    R2 X mm (fun j rr' mm' => (∃ r0 m0, STQ n tn X b K V W P E c r0 m0 j rr' mm' ∧ r0 3 = rr 3 ∧ r0 0 3 = rr 0 3) ∧ cnt40 rr' mm') (fX8_statement N rr) (fX12_statement N mm) := by
  have hn : tn ≤ 300 := Nat.le_trans T.2.1 T.2.2.1
  have hkl := kf_le T c
  have hkm := kmf _ hkl
  have hc1 := hC.1
  obtain ⟨k, ek⟩ : ∃ k, k = kf tn K c := ⟨_, rfl⟩
  unfold fX8_statement fX12_statement
  rw [hC.2.1, inb_nI (by omega) (by omega), ck_t, cl_nI (by omega), (hC.2.2.2.2.1 c hc1).1, thn_e, hM.2.2.1, thn_e]
  rw [← ek] at hkl hkm ⊢
  by_cases q : 4 ≤ k ∧ k ≤ 10
  · have hkk : km k = k + 196 := by unfold km; rw [if_neg (by omega), if_neg (by omega), if_neg (by omega), if_pos q]
    obtain ⟨hi, hK⟩ := kf_in ek.symm (by omega)
    have hin : fX12_isIn (nI (km k)) 200 206 = 1 := by
      unfold fX12_isIn
      rw [hkk, if_neg (show ¬ nI (k + 196) < 200 from nI_nlt (b := 200) (by omega) (by omega)), if_neg (show ¬ (206 : Int32) < nI (k + 196) from nI_nlt (a := 206) (by omega) (by omega))]
    rw [hin, if_neg (show ¬ (1 : Int32) = 0 by decide), if_neg (show ¬ nI k < 4 from nI_nlt (b := 4) q.1 (by omega)), if_pos (show nI k ≤ 10 from nI_le (b := 10) q.2 (by decide)), hkk]
    by_cases q9 : 9 ≤ k
    · have e39 : (if nI k = 9 then fX8_statement_L39 N (nI k) rr else if nI k = 10 then fX8_statement_L39 N (nI k) rr else fX8_statement_L53 N (nI k) rr) = fX8_statement_L39 N (nI k) rr := by
        have : k = 9 ∨ k = 10 := by omega
        rcases this with rfl | rfl
        · rw [if_pos (by decide)]
        · rw [if_neg (by decide), if_pos (by decide)]
      rw [e39, if_neg (show ¬ nI (k + 196) < 205 from nI_nlt (b := 205) (by omega) (by omega)), hx.2.2.2.1]
      unfold fX8_statement_L39
      rw [hx.2.1]
      have hd3 := hx.1
      by_cases d3 : dep K c = 3
      · rw [d3, if_pos (show nI 3 = 3 from rfl), if_pos (show nI 3 = 3 from rfl), bnd_some']
        exact R2_bl (f := 3) T hC hM (by decide) (by decide) rfl rfl
      · rw [if_neg (show ¬ nI (dep K c) = 3 from fun z => d3 ((eq_nI (b := 3) (by omega) (by decide)).mp z)), if_neg (show ¬ nI (dep K c) = 3 from fun z => d3 ((eq_nI (b := 3) (by omega) (by decide)).mp z))]
        exact L53_ok T hC hM hx hs hi hK q.1 q.2 (fun _ => by omega)
    · rw [if_neg (show ¬ nI k = 9 from fun z => q9 (by rw [(eq_nI (b := 9) (by omega) (by decide)).mp z]; exact Nat.le_refl _)), if_neg (show ¬ nI k = 10 from fun z => q9 (by rw [(eq_nI (b := 10) (by omega) (by decide)).mp z]; decide)), if_pos (show nI (k + 196) < 205 from nI_lt (b := 205) (by omega) (by decide))]
      exact L53_ok T hC hM hx hs hi hK q.1 q.2 (fun z => absurd z q9)
  · have hin : fX12_isIn (nI (km k)) 200 206 = 0 := by
      have : km k < 200 ∨ 206 < km k := by
        unfold km
        by_cases z1 : k = 1
        · rw [if_pos z1]; omega
        · rw [if_neg z1]
          by_cases z2 : k = 2
          · rw [if_pos z2]; omega
          · rw [if_neg z2]
            by_cases z3 : k = 3
            · rw [if_pos z3]; omega
            · rw [if_neg z3, if_neg q]; omega
      have hlt := hkm.2.2.2.2.2.2.2.2.2.2.2
      unfold fX12_isIn
      by_cases z : km k < 200
      · rw [if_pos (show nI (km k) < 200 from nI_lt (b := 200) z (by decide))]
      · rw [if_neg (show ¬ nI (km k) < 200 from nI_nlt (b := 200) (by omega) (by omega)), if_pos (show (206 : Int32) < nI (km k) from nI_lt (a := 206) (by omega) (by omega))]
    rw [hin, if_pos rfl]
    have e21 : (if nI k < 4 then fX8_statement_L21 N rr else if nI k ≤ 10 then (if nI k = 9 then fX8_statement_L39 N (nI k) rr else if nI k = 10 then fX8_statement_L39 N (nI k) rr else fX8_statement_L53 N (nI k) rr) else fX8_statement_L21 N rr) = fX8_statement_L21 N rr := by
      by_cases z : k < 4
      · rw [if_pos (show nI k < 4 from nI_lt (b := 4) z (by decide))]
      · rw [if_neg (show ¬ nI k < 4 from nI_nlt (b := 4) (by omega) (by omega)), if_neg (show ¬ nI k ≤ 10 from nI_ge (a := 10) (by omega) (by omega))]
    rw [e21]
    unfold fX8_statement_L21
    rw [bnd_some']
    exact R2_bl (f := 1) T hC hM (by decide) (by decide) rfl rfl
end P5
