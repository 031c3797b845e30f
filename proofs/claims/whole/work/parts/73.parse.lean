/-! PARSING: sums -/
def kf (tn : Nat) (K : Nat → Nat) (i : Nat) : Nat := if i < tn then K i else 0
def pf (n tn : Nat) (P : Nat → Nat) (i : Nat) : Nat := if i < tn then P i else n
def PC (n tn : Nat) (K V P : Nat → Nat) (i : Nat) (rr : RS) : Prop := i ≤ tn ∧ rr 0 8 = nI i ∧ rr 0 2 = 0 ∧ rr 0 7 = nI (tn + 1) ∧ (∀ j, j ≤ tn → rr 2 j = nI (kf tn K j) ∧ rr 4 j = nI (pf n tn P j)) ∧ ∀ j, i ≤ j → j < tn → rr 3 j = nI (V j)
def PM (n tn X : Nat) (b K W P E : Nat → Nat) (i : Nat) (mm : RS) : Prop := BM n b mm ∧ mm 0 11 = nI X ∧ mm 0 9 = nI (km (kf tn K i)) ∧ mm 0 8 = nI (pf n tn P i) ∧ (i < tn → mm 0 10 = nI (W i) ∧ mm 0 7 = nI (E (i + 1))) ∧ mm 3 X = nI (if i < tn then i + 1 else tn) ∧ ∀ j, j < tn → j ≤ i → mm 3 (X + 1 + 2 * j) = nI (km (K j)) ∧ mm 3 (X + 2 + 2 * j) = nI (W j)
def TD (N n tn X : Nat) (b K V W P E : Nat → Nat) : Prop := 2000 ≤ N ∧ tn ≤ n ∧ n ≤ 300 ∧ X ≤ 1806 ∧ (∀ i, i < tn → KV (K i) (V i) (W i) ∧ RTok N n b (E i) (P i) (E (i + 1)) (km (K i)) (W i)) ∧ REnd N n b (E tn)
/-- the reference's frame -/
def frM (X : Nat) (mm mm' : RS) : Prop := (∀ j, j ≠ 7 → j ≠ 8 → j ≠ 9 → j ≠ 10 → j ≠ 12 → j ≠ 14 → j ≠ 15 → mm' 0 j = mm 0 j) ∧ (∀ d, d ≠ 0 → d ≠ 3 → d ≠ 5 → mm' d = mm d) ∧ ∀ j, (j < X ∨ X + 602 ≤ j) → mm' 3 j = mm 3 j
theorem frM.rf {X : Nat} {mm : RS} : frM X mm mm := ⟨fun _ _ _ _ _ _ _ _ => rfl, fun _ _ _ _ => rfl, fun _ _ => rfl⟩
theorem frM.tr {X : Nat} {m1 m2 m3 : RS} (h : frM X m1 m2) (g : frM X m2 m3) : frM X m1 m3 := ⟨fun j a1 a2 a3 a4 a5 a6 a7 => (g.1 j a1 a2 a3 a4 a5 a6 a7).trans (h.1 j a1 a2 a3 a4 a5 a6 a7), fun d a1 a2 a3 => (g.2.1 d a1 a2 a3).trans (h.2.1 d a1 a2 a3), fun j hj => (g.2.2 j hj).trans (h.2.2 j hj)⟩
def stM (mm mm' : RS) : Prop := mm' 0 12 = mm 0 12 ∧ mm' 0 14 = mm 0 14 ∧ mm' 0 15 = mm 0 15 ∧ mm' 5 = mm 5
theorem stM.rf {mm : RS} : stM mm mm := ⟨rfl, rfl, rfl, rfl⟩
theorem stM.tr {m1 m2 m3 : RS} (h : stM m1 m2) (g : stM m2 m3) : stM m1 m3 := ⟨g.1.trans h.1, g.2.1.trans h.2.1, g.2.2.1.trans h.2.2.1, g.2.2.2.trans h.2.2.2⟩
/-- the class's frame -/
def frK (rr rr' : RS) (i0 : Nat) : Prop := (∀ j, j ≠ 2 → j ≠ 2 → j ≠ 8 → rr' 0 j = rr 0 j) ∧ (∀ d, d ≠ 0 → d ≠ 3 → rr' d = rr d) ∧ ∀ j, j < i0 → rr' 3 j = rr 3 j
theorem frK.rf {rr : RS} {i : Nat} : frK rr rr i := ⟨fun _ _ _ _ => rfl, fun _ _ _ => rfl, fun _ _ => rfl⟩
theorem frK.tr {r1 r2 r3 : RS} {i j : Nat} (h : frK r1 r2 i) (g : frK r2 r3 j) (hij : i ≤ j) : frK r1 r3 i := ⟨fun k a1 a2 a3 => (g.1 k a1 a2 a3).trans (h.1 k a1 a2 a3), fun d a1 a2 => (g.2.1 d a1 a2).trans (h.2.1 d a1 a2), fun k hk => (g.2.2 k (by omega)).trans (h.2.2 k hk)⟩
def FLT (f : Nat) (rr' mm' : RS) : Prop := 0 < f ∧ f < 10 ∧ rr' 0 2 = nI f ∧ rr' 0 3 = mm' 0 8 ∧ ∃ i, i ≤ 300 ∧ rr' 0 8 = nI i
def R2 (X : Nat) (mm : RS) (Q : Nat → RS → RS → Prop) (oc : Option RS) (om : Option (Int32 × RS)) : Prop := (∃ j rr' mm', oc = some rr' ∧ om = some (0, mm') ∧ frM X mm mm' ∧ Q j rr' mm') ∨ ∃ f rr' mm', oc = some rr' ∧ om = some (nI f, mm') ∧ frM X mm mm' ∧ FLT f rr' mm'
theorem kmf : ∀ k, k < 126 → (km k = 207 ↔ k = 3) ∧ (km k = 1 ↔ k = 2) ∧ (km k = 0 ↔ k = 0) ∧ (km k = 42 ↔ k = 42) ∧ (km k = 43 ↔ k = 43) ∧ (km k = 44 ↔ k = 44) ∧ (km k = 59 ↔ k = 59) ∧ (km k = 60 ↔ k = 60) ∧ (km k = 61 ↔ k = 61) ∧ (km k = 123 ↔ k = 123) ∧ (km k = 125 ↔ k = 125) ∧ km k < 1000 := by decide +kernel
theorem KV_le {k v w : Nat} (h : KV k v w) : k < 126 ∧ 0 < k := by
  rcases h with ⟨rfl, -⟩ | ⟨rfl, -⟩ | ⟨-, -, q⟩
  · decide
  · decide
  · rcases q with rfl | q | q
    · decide
    · omega
    · unfold isSg at q
      simp only [Bool.or_eq_true, decide_eq_true_eq] at q
      omega
section P1
variable {N n tn X : Nat} {b K V W P E : Nat → Nat} {rr mm : RS} {i : Nat}
theorem kf_le (T : TD N n tn X b K V W P E) (i : Nat) : kf tn K i < 126 := by
  unfold kf
  by_cases c : i < tn
  · rw [if_pos c]; exact (KV_le (T.2.2.2.2.1 i c).1).1
  · rw [if_neg c]; decide
theorem adv_C (h : PC n tn K V P i rr) (hi : i < tn) : PC n tn K V P (i + 1) (sr rr 0 (upd (rr 0) 8 (nI (i + 1)))) := by
  obtain ⟨h0, h1, h2, h3, h4, h5⟩ := h
  refine ⟨hi, by rw [sr_e, upd_e], by rw [sr_e, upd_n (by decide)]; exact h2, by rw [sr_e, upd_n (by decide)]; exact h3, fun j hj => ?_, fun j a1 a2 => ?_⟩
  · rw [sr_n (by decide), sr_n (by decide)]; exact h4 j hj
  · rw [sr_n (by decide)]; exact h5 j (by omega) a2
theorem adv_M (T : TD N n tn X b K V W P E) (h : PM n tn X b K W P E i mm) (hi : i < tn) : ∃ mm', fX12_nextToken N mm = some mm' ∧ PM n tn X b K W P E (i + 1) mm' ∧ frM X mm mm' ∧ stM mm mm' := by
  obtain ⟨tN, t1, t2, tX, t3, t4⟩ := T
  obtain ⟨hb, h11, h9, h8, h10, hX, hT⟩ := h
  obtain ⟨h10, h7⟩ := h10 hi
  rw [if_pos hi] at hX
  by_cases c : i + 1 < tn
  · obtain ⟨mm', g1, g2, g3, g4, g5, g6, g7, g8, g9, g10, g11⟩ := (t3 (i + 1) c).2 mm X (i + 1) hb h7 h11 hX (by omega)
    refine ⟨mm', g1, ⟨⟨hb.1, by rw [g6 4 (by decide) (by decide) (by decide) (by decide)]; exact hb.2.1, fun j hj => by rw [g7 4 (by decide) (by decide)]; exact hb.2.2 j hj⟩, by rw [g6 11 (by decide) (by decide) (by decide) (by decide)]; exact h11, by rw [g4]; unfold kf; rw [if_pos c], by rw [g3]; unfold pf; rw [if_pos c], fun _ => ⟨g5, g2⟩, by rw [g8, if_pos c], fun j j1 j2 => ?_⟩, ⟨fun j a1 a2 a3 a4 _ _ _ => g6 j a1 a2 a3 a4, fun d a1 a2 a3 => g7 d a1 a2, fun j hj => g11 j (by omega) (by omega) (by omega)⟩, ⟨g6 12 (by decide) (by decide) (by decide) (by decide), g6 14 (by decide) (by decide) (by decide) (by decide), g6 15 (by decide) (by decide) (by decide) (by decide), g7 5 (by decide) (by decide)⟩⟩
    by_cases q : j = i + 1
    · subst q; exact ⟨g9, g10⟩
    · rw [g11 _ (by omega) (by omega) (by omega), g11 _ (by omega) (by omega) (by omega)]
      exact hT j j1 (by omega)
  · have e1 : i + 1 = tn := by omega
    obtain ⟨mm', g1, g3, g4, g6, g7⟩ := t4 mm hb (by rw [← e1]; exact h7)
    refine ⟨mm', g1, ⟨⟨hb.1, by rw [g6 4 (by decide) (by decide) (by decide) (by decide)]; exact hb.2.1, fun j hj => by rw [g7 4 (by decide)]; exact hb.2.2 j hj⟩, by rw [g6 11 (by decide) (by decide) (by decide) (by decide)]; exact h11, by rw [g4]; unfold kf; rw [if_neg c]; rfl, by rw [g3]; unfold pf; rw [if_neg c], fun z => absurd z c, by rw [g7 3 (by decide), hX, if_neg c, e1], fun j j1 j2 => ?_⟩, ⟨fun j a1 a2 a3 a4 _ _ _ => g6 j a1 a2 a3 a4, fun d a1 a2 a3 => g7 d a1, fun j hj => by rw [g7 3 (by decide)]⟩, ⟨g6 12 (by decide) (by decide) (by decide) (by decide), g6 14 (by decide) (by decide) (by decide) (by decide), g6 15 (by decide) (by decide) (by decide) (by decide), g7 5 (by decide)⟩⟩
    rw [g7 3 (by decide)]
    exact hT j j1 (by omega)
theorem bl_ok {x : Int32} (T : TD N n tn X b K V W P E) (h : PC n tn K V P i rr) : fX8_blame N x rr = some (sr rr 0 (upd (upd (rr 0) 2 x) 3 (nI (pf n tn P i)))) := by
  obtain ⟨h0, h1, h2, h3, h4, h5⟩ := h
  obtain ⟨tN, t1, t2, tX, t3, t4⟩ := T
  unfold fX8_blame
  rw [h2, if_pos rfl, thn_e, st_d, sr_e, upd_n (by decide), h1, inb_nI (by omega) (by omega), ck_t, cl_nI (by omega), sr_n (by decide), (h4 i h0).2, thn_e, st_sr]
theorem bl_no {x : Int32} (h : rr 0 2 ≠ 0) : fX8_blame N x rr = some rr := by
  unfold fX8_blame
  rw [if_neg h]
theorem bl_F {f : Nat} (T : TD N n tn X b K V W P E) (hC : PC n tn K V P i rr) (hM : PM n tn X b K W P E i mm) (h0 : 0 < f) (h10 : f < 10) : FLT f (sr rr 0 (upd (upd (rr 0) 2 (nI f)) 3 (nI (pf n tn P i)))) mm := by
  refine ⟨h0, h10, by rw [sr_e, upd_n (by decide), upd_e], by rw [sr_e, upd_e, hM.2.2.2.1], i, by have := hC.1; have := T.2.1; have := T.2.2.1; omega, by rw [sr_e, upd_n (by decide), upd_n (by decide)]; exact hC.2.1⟩
theorem R2_bl {Q : Nat → RS → RS → Prop} {f : Nat} (T : TD N n tn X b K V W P E) (hC : PC n tn K V P i rr) (hM : PM n tn X b K W P E i mm) (h0 : 0 < f) (h10 : f < 10) {oc : Option RS} {om : Option (Int32 × RS)} (h1 : oc = fX8_blame N (nI f) rr) (h2 : om = some (nI f, mm)) : R2 X mm Q oc om :=
  Or.inr ⟨f, _, mm, by rw [h1, bl_ok T hC], h2, frM.rf, bl_F T hC hM h0 h10⟩
theorem FLT.ne {f : Nat} {rr mm : RS} (h : FLT f rr mm) : rr 0 2 ≠ 0 := by
  obtain ⟨h1, h2, h3, -⟩ := h
  rw [h3]
  exact nI_ne0 h1 (by omega)
/-- one -/
def oneF (K W : Nat → Nat) (i L : Nat) (rr rr' : RS) : Prop := (K i = 2 ∧ rr' 3 i = nI (W i) ∧ W i ≤ 9999) ∨ (K i = 3 ∧ W i < L ∧ rr' 3 i = rr 6 (W i))
theorem fac_ok {L : Nat} (hL3 : L ≤ 3) (T : TD N n tn X b K V W P E) (hC : PC n tn K V P i rr) (hM : PM n tn X b K W P E i mm) (hL : rr 0 12 = nI L) :
    R2 X mm (fun j rr' mm' => j = i + 1 ∧ i < tn ∧ PC n tn K V P j rr' ∧ PM n tn X b K W P E j mm' ∧ frK rr rr' i ∧ stM mm mm' ∧ oneF K W i L rr rr') (fX8_factor N rr) (fX12_one N (nI L) mm) := by
  have hk := kmf _ (kf_le T i)
  obtain ⟨h0, h1, h2, h3, h4, h5⟩ := id hC
  obtain ⟨hb, h11, h9, h8, h10, hX, hT⟩ := id hM
  have hn : tn ≤ 300 := Nat.le_trans T.2.1 T.2.2.1
  have kc : ∀ c : Nat, c < 1000 → ∀ {α : Type} (A B : α), (if nI (kf tn K i) = nI c then A else B) = if kf tn K i = c then A else B := fun c hc α A B => by
    have := kf_le T i
    by_cases q : kf tn K i = c
    · rw [if_pos q, if_pos (by rw [q])]
    · rw [if_neg q, if_neg (fun z => q ((eq_nI (by omega) (by omega)).mp z))]
  have kc2 : ∀ {α : Type} (A B : α), (if nI (kf tn K i) = 2 then A else B) = if kf tn K i = 2 then A else B := kc 2 (by decide)
  have kc3 : ∀ {α : Type} (A B : α), (if nI (kf tn K i) = 3 then A else B) = if kf tn K i = 3 then A else B := kc 3 (by decide)
  have mc : ∀ c : Nat, c < 1000 → ∀ {α : Type} (A B : α), (if nI (km (kf tn K i)) = nI c then A else B) = if km (kf tn K i) = c then A else B := fun c hc α A B => by
    have := hk.2.2.2.2.2.2.2.2.2.2.2
    by_cases q : km (kf tn K i) = c
    · rw [if_pos q, if_pos (by rw [q])]
    · rw [if_neg q, if_neg (fun z => q ((eq_nI (by omega) (by omega)).mp z))]
  have mc207 : ∀ {α : Type} (A B : α), (if nI (km (kf tn K i)) = 207 then A else B) = if km (kf tn K i) = 207 then A else B := mc 207 (by decide)
  have mc1 : ∀ {α : Type} (A B : α), (if nI (km (kf tn K i)) = 1 then A else B) = if km (kf tn K i) = 1 then A else B := mc 1 (by decide)
  have hc : fX8_factor N rr = (if kf tn K i = 2 then (if rr 3 i ≤ 9999 then fX8_factor_L44 N rr else (bnd (fX8_blame N 2 rr) fun r2 => some r2)) else fX8_factor_L44 N rr) := by
    unfold fX8_factor
    rw [h2, if_pos rfl, h1, inb_nI (by omega) (by omega), ck_t, cl_nI (by omega), (h4 i h0).1, kc2]
  have h44 : fX8_factor_L44 N rr = (if kf tn K i = 3 then (if rr 3 i < nI L then fX8_factor_L81 N rr else (bnd (fX8_blame N 4 rr) fun r2 => some r2)) else fX8_factor_L81 N rr) := by
    unfold fX8_factor_L44
    rw [h1, inb_nI (by omega) (by omega), ck_t, cl_nI (by omega), (h4 i h0).1, kc3, hL]
  have h81 : fX8_factor_L81 N rr = (if kf tn K i = 3 then (ck (inb (rr 3 i) 3) <| some (sr (sr rr 3 (upd (rr 3) i (rr 6 (rr 3 i).toNatClampNeg))) 0 (upd (rr 0) 8 (nI (i + 1))))) else if kf tn K i = 2 then some (sr rr 0 (upd (rr 0) 8 (nI (i + 1)))) else (bnd (fX8_blame N 1 rr) fun r2 => some r2)) := by
    unfold fX8_factor_L81
    rw [h1, inb_nI (by omega) (by omega), ck_t, cl_nI (by omega), (h4 i h0).1, kc3, kc2, thn_e, thn_e, thn_e]
    simp (disch := decide) only [st_d, sr_n, h1, j1]
  have hm : fX12_one N (nI L) mm = (if km (kf tn K i) = 207 then (if mm 0 10 < nI L then fX12_one_L42 N (nI L) mm else some (4, mm)) else if km (kf tn K i) = 1 then (if mm 0 10 ≤ 9999 then fX12_one_L42 N (nI L) mm else some (2, mm)) else some (1, mm)) := by
    unfold fX12_one
    rw [h9, mc207, mc1]
  by_cases c3 : kf tn K i = 3
  · have hi : i < tn := by
      unfold kf at c3
      by_cases q : i < tn
      · exact q
      · rw [if_neg q] at c3; cases c3
    have k3 : K i = 3 := by unfold kf at c3; rw [if_pos hi] at c3; exact c3
    rw [if_pos (hk.1.mpr c3), (h10 hi).1] at hm
    rw [if_neg (by omega), h44, if_pos c3, h81, if_pos c3, h5 i (Nat.le_refl _) hi] at hc
    have hv : V i < 3 ∧ W i = V i := by
      rcases (T.2.2.2.2.1 i hi).1 with ⟨q, -⟩ | ⟨-, q1, q2⟩ | ⟨-, -, q⟩
      · omega
      · exact ⟨q1, q2⟩
      · rcases q with q | q | q
        · omega
        · omega
        · rw [k3] at q; cases q
    by_cases cl : V i < L
    · rw [if_pos (nI_lt cl (by omega)), inb_nI hv.1 (by omega), ck_t, cl_nI (by omega)] at hc
      rw [if_pos (nI_lt (by omega) (by omega))] at hm
      unfold fX12_one_L42 at hm
      obtain ⟨mm', g1, g2, g3, g4⟩ := adv_M T hM hi
      have hC2 : PC n tn K V P (i + 1) (sr (sr rr 3 (upd (rr 3) i (rr 6 (V i)))) 0 (upd (rr 0) 8 (nI (i + 1)))) := by
        have e : (sr rr 3 (upd (rr 3) i (rr 6 (V i)))) 0 = rr 0 := sr_n (by decide)
        refine ⟨hi, by rw [sr_e, upd_e], by rw [sr_e, upd_n (by decide)]; exact h2, by rw [sr_e, upd_n (by decide)]; exact h3, fun j hj => ?_, fun j a1 a2 => ?_⟩
        · rw [sr_n (by decide), sr_n (by decide), sr_n (by decide), sr_n (by decide)]; exact h4 j hj
        · rw [sr_n (by decide), sr_e, upd_n (by omega)]; exact h5 j (by omega) a2
      refine Or.inl ⟨i + 1, _, mm', hc, by rw [hm, g1, bnd_s], g3, rfl, hi, hC2, g2, ⟨fun j a1 a2 a3 => by rw [sr_e, upd_n a3], fun d a1 a2 => by rw [sr_n a1, sr_n a2], fun j hj => by rw [sr_n (by decide), sr_e, upd_n (by omega)]⟩, g4, Or.inr ⟨k3, by omega, ?_⟩⟩
      rw [sr_n (by decide), sr_e, upd_e, hv.2]
    · rw [if_neg (nI_nlt (by omega) (by omega)), bl_ok T hC, bnd_s] at hc
      rw [if_neg (nI_nlt (by omega) (by omega))] at hm
      exact Or.inr ⟨4, _, mm, hc, hm, frM.rf, bl_F T hC hM (by decide) (by decide)⟩
  · rw [if_neg (fun q => c3 (hk.1.mp q))] at hm
    rw [h44, if_neg c3, h81, if_neg c3] at hc
    by_cases c2 : kf tn K i = 2
    · have hi : i < tn := by
        unfold kf at c2
        by_cases q : i < tn
        · exact q
        · rw [if_neg q] at c2; cases c2
      have k2 : K i = 2 := by unfold kf at c2; rw [if_pos hi] at c2; exact c2
      rw [if_pos (hk.2.1.mpr c2), (h10 hi).1] at hm
      rw [if_pos c2, if_pos c2, h5 i (Nat.le_refl _) hi] at hc
      have hv : vr (V i) (W i) := by
        rcases (T.2.2.2.2.1 i hi).1 with ⟨-, q⟩ | ⟨q, -⟩ | ⟨-, -, q⟩
        · exact q
        · omega
        · rcases q with q | q | q
          · omega
          · omega
          · rw [k2] at q; cases q
      have hle := vr_le hv
      unfold vr at hv
      by_cases cl : V i ≤ 9999
      · rw [if_pos (show nI (V i) ≤ 9999 from nI_le (b := 9999) cl (by decide))] at hc
        rw [if_pos (show nI (W i) ≤ 9999 from nI_le (b := 9999) (by omega) (by decide))] at hm
        unfold fX12_one_L42 at hm
        obtain ⟨mm', g1, g2, g3, g4⟩ := adv_M T hM hi
        exact Or.inl ⟨i + 1, _, mm', hc, by rw [hm, g1, bnd_s], g3, rfl, hi, adv_C hC hi, g2, ⟨fun j a1 a2 a3 => by rw [sr_e, upd_n a3], fun d a1 a2 => sr_n a1, fun j hj => by rw [sr_n (by decide)]⟩, g4, Or.inl ⟨k2, by rw [sr_n (by decide), h5 i (Nat.le_refl _) hi]; congr 1; omega, by omega⟩⟩
      · rw [if_neg (show ¬ nI (V i) ≤ 9999 from nI_ge (a := 9999) (by omega) (by omega)), bl_ok T hC, bnd_s] at hc
        rw [if_neg (show ¬ nI (W i) ≤ 9999 from nI_ge (a := 9999) (by omega) (by omega))] at hm
        exact Or.inr ⟨2, _, mm, hc, hm, frM.rf, bl_F T hC hM (by decide) (by decide)⟩
    · rw [if_neg (fun q => c2 (hk.2.1.mp q))] at hm
      rw [if_neg c2, if_neg c2, bl_ok T hC, bnd_s] at hc
      exact Or.inr ⟨1, _, mm, hc, hm, frM.rf, bl_F T hC hM (by decide) (by decide)⟩
end P1
