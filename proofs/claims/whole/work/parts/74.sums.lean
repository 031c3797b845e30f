/-! PARSING: sums, takes, what binds them -/
theorem fac_no {N : Nat} {rr : RS} (h : rr 0 2 ≠ 0) : fX8_factor N rr = some rr := by
  unfold fX8_factor
  rw [if_neg h]
theorem L6_no {N k i : Nat} {x : Int32} {rr : RS} (h : rr 0 2 ≠ 0) (hi : i ≤ 300) (h8 : rr 0 8 = nI i) : fX8_sum_L6 N (k + 1) x rr = some rr := by
  rw [fX8_sum_L6, h8, inb_nI (by omega) (by omega), ck_t]
  unfold fX8_sum_L42
  rw [if_neg h, ite_self, ite_self, ite_self]
theorem sum_no {N i : Nat} {rr : RS} (hN : 1 ≤ N) (h : rr 0 2 ≠ 0) (hi : i ≤ 300) (h8 : rr 0 8 = nI i) : fX8_sum N rr = some rr := by
  obtain ⟨k, rfl⟩ : ∃ k, N = k + 1 := ⟨N - 1, by omega⟩
  unfold fX8_sum
  rw [fac_no h, bnd_s, L6_no h hi h8]
theorem take_no {N : Nat} {x : Int32} {rr : RS} (h : rr 0 2 ≠ 0) : fX8_take N x rr = some rr := by
  unfold fX8_take fX8_take_L33
  rw [if_neg h, bl_no h, bnd_s]
theorem R2.bind {X : Nat} {mm : RS} {Q Q' : Nat → RS → RS → Prop} {oc : Option RS} {om : Option (Int32 × RS)} {kc : RS → Option RS} {kM : RS → Option (Int32 × RS)} (h : R2 X mm Q oc om) (h1 : ∀ j rr' mm', Q j rr' mm' → R2 X mm' Q' (kc rr') (kM mm')) (h2 : ∀ f rr' mm', FLT f rr' mm' → kc rr' = some rr') : R2 X mm Q' (bnd oc kc) (bnd om fun r => if r.1 = 0 then kM r.2 else some (r.1, r.2)) := by
  rcases h with ⟨j, rr', mm', a1, a2, a3, a4⟩ | ⟨f, rr', mm', a1, a2, a3, a4⟩
  · rw [a1, a2, bnd_s, bnd_s, if_pos rfl]
    rcases h1 j rr' mm' a4 with ⟨j2, r2, m2, b1, b2, b3, b4⟩ | ⟨f, r2, m2, b1, b2, b3, b4⟩
    · exact Or.inl ⟨j2, r2, m2, b1, b2, a3.tr b3, b4⟩
    · exact Or.inr ⟨f, r2, m2, b1, b2, a3.tr b3, b4⟩
  · rw [a1, a2, bnd_s, bnd_s, h2 f rr' mm' a4, if_neg (nI_ne0 a4.1 (by have := a4.2.1; omega))]
    exact Or.inr ⟨f, rr', mm', rfl, rfl, a3, a4⟩
theorem R2.mono {X : Nat} {mm : RS} {Q Q' : Nat → RS → RS → Prop} {oc : Option RS} {om : Option (Int32 × RS)} (h : R2 X mm Q oc om) (h1 : ∀ j rr' mm', frM X mm mm' → Q j rr' mm' → Q' j rr' mm') : R2 X mm Q' oc om := by
  rcases h with ⟨j, rr', mm', a1, a2, a3, a4⟩ | h
  · exact Or.inl ⟨j, rr', mm', a1, a2, a3, h1 j rr' mm' a3 a4⟩
  · exact Or.inr h
theorem R2.fr {X : Nat} {m0 mm : RS} {Q : Nat → RS → RS → Prop} {oc : Option RS} {om : Option (Int32 × RS)} (h : R2 X mm Q oc om) (h1 : frM X m0 mm) : R2 X m0 Q oc om := by
  rcases h with ⟨j, rr', mm', a1, a2, a3, a4⟩ | ⟨f, rr', mm', a1, a2, a3, a4⟩
  · exact Or.inl ⟨j, rr', mm', a1, a2, h1.tr a3, a4⟩
  · exact Or.inr ⟨f, rr', mm', a1, a2, h1.tr a3, a4⟩
section P2
variable {N n tn X : Nat} {b K V W P E : Nat → Nat} {rr mm : RS} {i : Nat}
theorem kf_in {c : Nat} (h : kf tn K i = c) (hc : c ≠ 0) : i < tn ∧ K i = c := by
  unfold kf at h
  by_cases q : i < tn
  · rw [if_pos q] at h; exact ⟨q, h⟩
  · rw [if_neg q] at h; exact absurd h.symm hc
theorem kc_if (T : TD N n tn X b K V W P E) (hC : PC n tn K V P i rr) {c : Nat} (hc : c < 1000) {α : Type} {A B : α} : (if rr 2 i = nI c then A else B) = if kf tn K i = c then A else B := by
  have := kf_le T i
  rw [(hC.2.2.2.2.1 i hC.1).1]
  by_cases q : kf tn K i = c
  · rw [if_pos q, if_pos (by rw [q])]
  · rw [if_neg q, if_neg (fun z => q ((eq_nI (by omega) (by omega)).mp z))]
theorem mc_if (T : TD N n tn X b K V W P E) (hM : PM n tn X b K W P E i mm) {c : Nat} (hc : c < 1000) {α : Type} {A B : α} : (if mm 0 9 = nI c then A else B) = if km (kf tn K i) = c then A else B := by
  have := (kmf _ (kf_le T i)).2.2.2.2.2.2.2.2.2.2.2
  rw [hM.2.2.1]
  by_cases q : km (kf tn K i) = c
  · rw [if_pos q, if_pos (by rw [q])]
  · rw [if_neg q, if_neg (fun z => q ((eq_nI (by omega) (by omega)).mp z))]
theorem sgk (T : TD N n tn X b K V W P E) {c : Nat} (hc : c = 42 ∨ c = 43 ∨ c = 44 ∨ c = 59 ∨ c = 60 ∨ c = 61 ∨ c = 123 ∨ c = 125) : km (kf tn K i) = c ↔ kf tn K i = c := by
  have h := kmf _ (kf_le T i)
  rcases hc with rfl | rfl | rfl | rfl | rfl | rfl | rfl | rfl
  · exact h.2.2.2.1
  · exact h.2.2.2.2.1
  · exact h.2.2.2.2.2.1
  · exact h.2.2.2.2.2.2.1
  · exact h.2.2.2.2.2.2.2.1
  · exact h.2.2.2.2.2.2.2.2.1
  · exact h.2.2.2.2.2.2.2.2.2.1
  · exact h.2.2.2.2.2.2.2.2.2.2.1
theorem ms_if (T : TD N n tn X b K V W P E) (hM : PM n tn X b K W P E i mm) {c : Nat} (hc : c = 42 ∨ c = 43 ∨ c = 44 ∨ c = 59 ∨ c = 60 ∨ c = 61 ∨ c = 123 ∨ c = 125) {α : Type} {A B : α} : (if mm 0 9 = nI c then A else B) = if kf tn K i = c then A else B := by
  rw [mc_if T hM (by omega)]
  by_cases q : kf tn K i = c
  · rw [if_pos q, if_pos ((sgk T hc).mpr q)]
  · rw [if_neg q, if_neg (fun z => q ((sgk T hc).mp z))]
theorem take_at (T : TD N n tn X b K V W P E) (hC : PC n tn K V P i rr) {c : Nat} (hc : c < 1000) : fX8_take N (nI c) rr = if kf tn K i = c then some (sr rr 0 (upd (rr 0) 8 (nI (i + 1)))) else fX8_blame N 1 rr := by
  have hn : tn ≤ 300 := Nat.le_trans T.2.1 T.2.2.1
  have h0 := hC.1
  unfold fX8_take fX8_take_L33
  rw [hC.2.2.1, if_pos rfl, hC.2.1, inb_nI (by omega) (by omega), ck_t, cl_nI (by omega), kc_if T hC hc, bl_ok T hC, bnd_s, thn_e, st_d, j1]
/-- a take -/
theorem R2_take {Q : Nat → RS → RS → Prop} {kc : RS → Option RS} {kM : RS → Option (Int32 × RS)} {c : Nat} (T : TD N n tn X b K V W P E) (hC : PC n tn K V P i rr) (hM : PM n tn X b K W P E i mm) (hc : c = 42 ∨ c = 43 ∨ c = 44 ∨ c = 59 ∨ c = 60 ∨ c = 61 ∨ c = 123 ∨ c = 125)
    (h1 : ∀ rr' mm', i < tn → K i = c → PC n tn K V P (i + 1) rr' → PM n tn X b K W P E (i + 1) mm' → frK rr rr' i → stM mm mm' → rr' 3 = rr 3 → R2 X mm' Q (kc rr') (kM mm')) (h2 : ∀ f rr' mm', FLT f rr' mm' → kc rr' = some rr') :
    R2 X mm Q (bnd (fX8_take N (nI c) rr) kc) (if mm 0 9 = nI c then bnd (fX12_nextToken N mm) kM else some (1, mm)) := by
  rw [ms_if T hM hc, take_at T hC (by omega)]
  by_cases q : kf tn K i = c
  · obtain ⟨hi, hk⟩ := kf_in q (by omega)
    obtain ⟨mm', g1, g2, g3, g4⟩ := adv_M T hM hi
    rw [if_pos q, if_pos q, bnd_s, g1, bnd_s]
    exact (h1 _ mm' hi hk (adv_C hC hi) g2 ⟨fun j a1 a2 a3 => by rw [sr_e, upd_n a3], fun d a1 a2 => sr_n a1, fun j hj => by rw [sr_n (by decide)]⟩ g4 (sr_n (by decide))).fr g3
  · rw [if_neg q, if_neg q, bl_ok T hC, bnd_s, show (1 : Int32) = nI 1 from rfl]
    have hF := bl_F (f := 1) T hC hM (by decide) (by decide)
    rw [h2 _ _ _ hF]
    exact Or.inr ⟨1, _, mm, rfl, rfl, frM.rf, hF⟩
/-- a sum, from i up to j -/
def sumF (tn : Nat) (K W : Nat → Nat) (L : Nat) (rr rr' : RS) (i j : Nat) : Prop := ∃ m, j = i + 2 * m + 1 ∧ (∀ t, t ≤ m → i + 2 * t < tn ∧ oneF K W (i + 2 * t) L rr rr') ∧ (∀ t, t < m → K (i + 2 * t + 1) = 42 ∨ K (i + 2 * t + 1) = 43) ∧ kf tn K j ≠ 42 ∧ kf tn K j ≠ 43
theorem oneF_cg {L : Nat} {r1 r2 r3 : RS} {j : Nat} (h : oneF K W j L r1 r2) (h3 : r3 3 j = r2 3 j) : oneF K W j L r1 r3 := by
  rcases h with ⟨a, c, d⟩ | ⟨a, c, d⟩
  · exact Or.inl ⟨a, h3.trans c, d⟩
  · exact Or.inr ⟨a, c, h3.trans d⟩
theorem oneF_cg0 {L : Nat} {r0 r1 r2 : RS} {j : Nat} (h : oneF K W j L r1 r2) (h6 : r1 6 = r0 6) : oneF K W j L r0 r2 := by
  unfold oneF at *
  rw [← h6]
  exact h
theorem sum_ok {L : Nat} (hL3 : L ≤ 3) (T : TD N n tn X b K V W P E) (hC : PC n tn K V P i rr) (hM : PM n tn X b K W P E i mm) (hL : rr 0 12 = nI L) :
    R2 X mm (fun j rr' mm' => PC n tn K V P j rr' ∧ PM n tn X b K W P E j mm' ∧ frK rr rr' i ∧ stM mm mm' ∧ sumF tn K W L rr rr' i j) (fX8_sum N rr) (fX12_summed N (nI L) mm) := by
  have hn : tn ≤ 300 := Nat.le_trans T.2.1 T.2.2.1
  have hNN := T.1
  have key : ∀ d j k k2 x1 r1 m1, tn + 1 - j = d → PC n tn K V P j r1 → PM n tn X b K W P E j m1 → x1 ≤ j → frK rr r1 i → stM mm m1 → d < k → d < k2 →
      (∃ m, j = i + 2 * m + 1 ∧ (∀ t, t ≤ m → i + 2 * t < tn ∧ oneF K W (i + 2 * t) L rr r1) ∧ (∀ t, t < m → K (i + 2 * t + 1) = 42 ∨ K (i + 2 * t + 1) = 43)) →
      R2 X m1 (fun j rr' mm' => PC n tn K V P j rr' ∧ PM n tn X b K W P E j mm' ∧ frK rr rr' i ∧ stM mm mm' ∧ sumF tn K W L rr rr' i j) (fX8_sum_L6 N k (nI x1) r1) (fX12_summed_L6 N (nI L) k2 0 m1) := by
    intro d
    induction d using Nat.strongRecOn with
    | ind d ih =>
      intro j k k2 x1 r1 m1 h1 h2 h3 h4 h5 h6 h7 h8 ⟨m, e1, e2, e3⟩
      obtain ⟨k, rfl⟩ : ∃ q, k = q + 1 := ⟨k - 1, by omega⟩
      obtain ⟨k2, rfl⟩ : ∃ q, k2 = q + 1 := ⟨k2 - 1, by omega⟩
      have hj := h2.1
      have k43 : ∀ {α : Type} {A B : α}, (if r1 2 j = 43 then A else B) = if kf tn K j = 43 then A else B := kc_if T h2 (c := 43) (by decide)
      have k42 : ∀ {α : Type} {A B : α}, (if r1 2 j = 42 then A else B) = if kf tn K j = 42 then A else B := kc_if T h2 (c := 42) (by decide)
      have m43 : ∀ {α : Type} {A B : α}, (if m1 0 9 = 43 then A else B) = if kf tn K j = 43 then A else B := ms_if T h3 (c := 43) (by omega)
      have m42 : ∀ {α : Type} {A B : α}, (if m1 0 9 = 42 then A else B) = if kf tn K j = 42 then A else B := ms_if T h3 (c := 42) (by omega)
      rw [fX8_sum_L6, h2.2.2.2.1, if_neg (nI_ge (by omega) (by omega)), h2.2.1, inb_nI (by omega) (by omega), ck_t, cl_nI (by omega), k43, k42, fX12_summed_L6, if_pos rfl, m43, m42]
      have go : (kf tn K j = 42 ∨ kf tn K j = 43) → R2 X m1 (fun j rr' mm' => PC n tn K V P j rr' ∧ PM n tn X b K W P E j mm' ∧ frK rr rr' i ∧ stM mm mm' ∧ sumF tn K W L rr rr' i j) (fX8_sum_L42 N (fX8_sum_L6 N k) (nI x1) r1) (fX12_summed_L28 N (nI L) (fX12_summed_L6 N (nI L) k2) m1) := by
        intro hk
        have hjt : j < tn ∧ (K j = 42 ∨ K j = 43) := by
          rcases hk with q | q
          · have := kf_in q (by decide); exact ⟨this.1, Or.inl this.2⟩
          · have := kf_in q (by decide); exact ⟨this.1, Or.inr this.2⟩
        obtain ⟨m2, g1, g2, g3, g4⟩ := adv_M T h3 hjt.1
        unfold fX8_sum_L42 fX12_summed_L28
        rw [h2.2.2.1, if_pos rfl, thn_e, st_d, h2.2.1, j1, g1, bnd_s, j1]
        have hC2 := adv_C h2 hjt.1
        have hfr2 : frK r1 (sr r1 0 (upd (r1 0) 8 (nI (j + 1)))) j := ⟨fun q a1 a2 a3 => by rw [sr_e, upd_n a3], fun q a1 a2 => sr_n a1, fun q hq => by rw [sr_n (by decide)]⟩
        have hL2 : (sr r1 0 (upd (r1 0) 8 (nI (j + 1)))) 0 12 = nI L := by rw [sr_e, upd_n (by decide), h5.1 12 (by decide) (by decide) (by decide)]; exact hL
        rcases fac_ok hL3 T hC2 g2 hL2 with ⟨j3, r3, m3, a1, a2, a3, rfl, a5, a6, a7, a8, a9, a10⟩ | ⟨f, r3, m3, a1, a2, a3, a4⟩
        · rw [a1, a2, bnd_s, bnd_s]
          have h6e : r1 6 = rr 6 := h5.2.1 6 (by decide) (by decide)
          refine (ih (tn + 1 - (j + 1 + 1)) (by omega) (j + 1 + 1) k k2 (x1 + 1) r3 m3 rfl a6 a7 (by omega) ((h5.tr hfr2 (by omega)).tr a8 (by omega)) ((h6.tr g4).tr a9) (by omega) (by omega) ⟨m + 1, by omega, fun t ht => ?_, fun t ht => ?_⟩).fr (g3.tr a3)
          · by_cases q : t = m + 1
            · subst q
              rw [show i + 2 * (m + 1) = j + 1 from by omega]
              exact ⟨a5, oneF_cg0 a10 (by rw [sr_n (by decide)]; exact h6e)⟩
            · obtain ⟨y1, y2⟩ := e2 t (by omega)
              exact ⟨y1, oneF_cg y2 (by rw [a8.2.2 _ (by omega), sr_n (by decide)])⟩
          · by_cases q : t = m
            · subst q
              rw [show i + 2 * t + 1 = j from by omega]
              exact hjt.2
            · exact e3 t (by omega)
        · rw [a1, a2, bnd_s, bnd_s]
          obtain ⟨y1, y2, y3, y4, y5, y6, y7⟩ := id a4
          obtain ⟨k, rfl⟩ : ∃ q, k = q + 1 := ⟨k - 1, by omega⟩
          obtain ⟨k2, rfl⟩ : ∃ q, k2 = q + 1 := ⟨k2 - 1, by omega⟩
          dsimp only
          rw [L6_no a4.ne y6 y7, fX12_summed_L6, if_neg (show ¬ nI f = 0 from fun q => by have := (eq_0 (by omega)).mp q; omega)]
          exact Or.inr ⟨f, r3, m3, rfl, rfl, g3.tr a3, a4⟩
      by_cases c43 : kf tn K j = 43
      · rw [if_pos c43, if_neg (by omega), if_pos c43]
        exact go (Or.inr c43)
      · rw [if_neg c43, if_neg c43]
        by_cases c42 : kf tn K j = 42
        · rw [if_pos c42, if_pos c42]
          exact go (Or.inl c42)
        · rw [if_neg c42, if_neg c42]
          exact Or.inl ⟨j, r1, m1, rfl, rfl, frM.rf, h2, h3, h5, h6, m, e1, e2, e3, c42, c43⟩
  unfold fX8_sum fX12_summed
  rcases fac_ok hL3 T hC hM hL with ⟨j3, r3, m3, a1, a2, a3, rfl, a5, a6, a7, a8, a9, a10⟩ | ⟨f, r3, m3, a1, a2, a3, a4⟩
  · rw [a1, a2, bnd_s, bnd_s]
    refine (key _ (i + 1) N N 0 r3 m3 rfl a6 a7 (by omega) a8 a9 (by omega) (by omega) ⟨0, rfl, fun t ht => ?_, fun t ht => absurd ht (by omega)⟩).fr a3
    have : t = 0 := by omega
    subst this
    exact ⟨a5, a10⟩
  · rw [a1, a2, bnd_s, bnd_s]
    obtain ⟨y1, y2, y3, y4, y5, y6, y7⟩ := id a4
    obtain ⟨k, rfl⟩ : ∃ q, N = q + 1 := ⟨N - 1, by omega⟩
    dsimp only
    rw [L6_no a4.ne y6 y7, fX12_summed_L6, if_neg (show ¬ nI f = 0 from fun q => by have := (eq_0 (by omega)).mp q; omega)]
    exact Or.inr ⟨f, r3, m3, rfl, rfl, a3, a4⟩
end P2
