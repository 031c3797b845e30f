/-! THE SHAPE OF A TEXT; statements but for their braces -/
def dep (K : Nat → Nat) : Nat → Nat
  | 0 => 0
  | i + 1 => if K i = 123 then dep K i + 1 else if K i = 125 then dep K i - 1 else dep K i
def flg (K : Nat → Nat) : Nat → Nat → Bool
  | 0, _ => false
  | i + 1, d => if K i = 123 ∧ d = dep K i then decide (K (i - 2) = 9) else flg K i d
def lc (K : Nat → Nat) (i d : Nat) : Nat := sN d fun x => if flg K i x then 1 else 0
def nbr (K : Nat → Nat) (i : Nat) : Prop := K i ≠ 123 ∧ K i ≠ 125
theorem dep_n {K : Nat → Nat} {i : Nat} (h : nbr K i) : dep K (i + 1) = dep K i ∧ flg K (i + 1) = flg K i := by
  refine ⟨?_, ?_⟩
  · show (if K i = 123 then dep K i + 1 else if K i = 125 then dep K i - 1 else dep K i) = _
    rw [if_neg h.1, if_neg h.2]
  · funext d
    show (if K i = 123 ∧ d = dep K i then decide (K (i - 2) = 9) else flg K i d) = _
    rw [if_neg (fun q => h.1 q.1)]
theorem dep_run {K : Nat → Nat} {i : Nat} : ∀ d j, j - i = d → i ≤ j → (∀ t, i ≤ t → t < j → nbr K t) → dep K j = dep K i ∧ flg K j = flg K i := by
  intro d
  induction d with
  | zero =>
    intro j h1 h2 _
    have : j = i := by omega
    subst this
    exact ⟨rfl, rfl⟩
  | succ d ih =>
    intro j h1 h2 h3
    obtain ⟨j, rfl⟩ : ∃ q, j = q + 1 := ⟨j - 1, by omega⟩
    obtain ⟨a, c⟩ := ih j (by omega) (by omega) (fun t h4 h5 => h3 t h4 (by omega))
    obtain ⟨a2, c2⟩ := dep_n (h3 j (by omega) (by omega))
    exact ⟨a2.trans a, c2.trans c⟩
theorem lc_s {K : Nat → Nat} {i d : Nat} : lc K i (d + 1) = lc K i d + if flg K i d then 1 else 0 := rfl
theorem lc_mono {K : Nat → Nat} {i d e : Nat} (h : d ≤ e) : lc K i d ≤ lc K i e := sN_mono h
theorem lc_le {K : Nat → Nat} {i d : Nat} : lc K i d ≤ d := by
  have : lc K i d ≤ d * 1 := sN_bound fun x => by split <;> omega
  omega
/-- one, of the context at c -/
def ONE (K W : Nat → Nat) (F : Nat → Int32) (c j : Nat) : Prop := (K j = 2 ∧ F j = nI (W j) ∧ W j ≤ 9999) ∨ (K j = 3 ∧ ∃ D, D < dep K c ∧ flg K c D = true ∧ lc K c D = W j ∧ F j = nI D)
def SUMV (tn : Nat) (K W : Nat → Nat) (F : Nat → Int32) (c i j : Nat) : Prop := ∃ m, j = i + 2 * m + 1 ∧ (∀ t, t ≤ m → i + 2 * t < tn ∧ ONE K W F c (i + 2 * t)) ∧ (∀ t, t < m → K (i + 2 * t + 1) = 42 ∨ K (i + 2 * t + 1) = 43) ∧ K j ≠ 42 ∧ K j ≠ 43
/-- a statement, or its head -/
def okS (tn : Nat) (K W : Nat → Nat) (F : Nat → Int32) (i i' : Nat) : Prop :=
  i < i' ∧ i' ≤ tn ∧ ((K i = 125 ∧ i' = i + 1 ∧ 0 < dep K i) ∨
  ((K i = 4 ∨ K i = 6) ∧ ∃ j k, SUMV tn K W F i (i + 1) j ∧ K j = 44 ∧ SUMV tn K W F i (j + 1) k ∧ K k = 59 ∧ i' = k + 1) ∨
  (K i = 5 ∧ ∃ j k l, SUMV tn K W F i (i + 1) j ∧ K j = 44 ∧ SUMV tn K W F i (j + 1) k ∧ K k = 44 ∧ SUMV tn K W F i (k + 1) l ∧ K l = 59 ∧ i' = l + 1) ∨
  ((K i = 7 ∨ K i = 8) ∧ K (i + 1) = 59 ∧ i' = i + 2) ∨
  (K i = 9 ∧ K (i + 1) = 2 ∧ 1 ≤ W (i + 1) ∧ W (i + 1) ≤ 9 ∧ F (i + 1) = nI (W (i + 1)) ∧ K (i + 2) = 123 ∧ dep K i < 3 ∧ i' = i + 3) ∨
  (K i = 10 ∧ ∃ j k, SUMV tn K W F i (i + 1) j ∧ (K j = 60 ∨ K j = 61) ∧ SUMV tn K W F i (j + 1) k ∧ K k = 123 ∧ dep K i < 3 ∧ i' = k + 1))
theorem ONE_cg {K W : Nat → Nat} {F F' : Nat → Int32} {c j : Nat} (h : ONE K W F c j) (hF : F' j = F j) : ONE K W F' c j := by
  unfold ONE at *
  rw [hF]
  exact h
theorem SUMV_cg {tn : Nat} {K W : Nat → Nat} {F F' : Nat → Int32} {c i j : Nat} (h : SUMV tn K W F c i j) (hF : ∀ t, i ≤ t → t < j → nbr K t → F' t = F t) : SUMV tn K W F' c i j := by
  obtain ⟨m, h1, h2, h3, h4⟩ := h
  refine ⟨m, h1, fun t ht => ⟨(h2 t ht).1, ONE_cg (h2 t ht).2 (hF _ (by omega) (by omega) ?_)⟩, h3, h4⟩
  rcases (h2 t ht).2 with ⟨q, -⟩ | ⟨q, -⟩
  · unfold nbr; omega
  · unfold nbr; omega
theorem okS_cg {tn : Nat} {K W : Nat → Nat} {F F' : Nat → Int32} {i i' : Nat} (h : okS tn K W F i i') (hF : ∀ t, i ≤ t → t < i' → nbr K t → F' t = F t) : okS tn K W F' i i' := by
  obtain ⟨h1, h2, h⟩ := h
  refine ⟨h1, h2, ?_⟩
  rcases h with h | ⟨a, j, k, s1, a1, s2, a2, rfl⟩ | ⟨a, j, k, l, s1, a1, s2, a2, s3, a3, rfl⟩ | h | ⟨a, a1, a2, a3, a4, a5, a6, rfl⟩ | ⟨a, j, k, s1, a1, s2, a2, a3, rfl⟩
  · exact Or.inl h
  · have := s1.choose_spec.1
    have := s2.choose_spec.1
    exact Or.inr (Or.inl ⟨a, j, k, SUMV_cg s1 (fun t x y => hF t (by omega) (by omega)), a1, SUMV_cg s2 (fun t x y => hF t (by omega) (by omega)), a2, rfl⟩)
  · have := s1.choose_spec.1
    have := s2.choose_spec.1
    have := s3.choose_spec.1
    exact Or.inr (Or.inr (Or.inl ⟨a, j, k, l, SUMV_cg s1 (fun t x y => hF t (by omega) (by omega)), a1, SUMV_cg s2 (fun t x y => hF t (by omega) (by omega)), a2, SUMV_cg s3 (fun t x y => hF t (by omega) (by omega)), a3, rfl⟩))
  · exact Or.inr (Or.inr (Or.inr (Or.inl h)))
  · exact Or.inr (Or.inr (Or.inr (Or.inr (Or.inl ⟨a, a1, a2, a3, by rw [hF _ (by omega) (by omega) (by unfold nbr; omega)]; exact a4, a5, a6, rfl⟩))))
  · have := s1.choose_spec.1
    have := s2.choose_spec.1
    exact Or.inr (Or.inr (Or.inr (Or.inr (Or.inr ⟨a, j, k, SUMV_cg s1 (fun t x y => hF t (by omega) (by omega)), a1, SUMV_cg s2 (fun t x y => hF t (by omega) (by omega)), a2, a3, rfl⟩))))
/-- the context that both parsers hold -/
def CXI (K : Nat → Nat) (i : Nat) (rr mm : RS) : Prop :=
  dep K i ≤ 3 ∧ rr 0 10 = nI (dep K i) ∧ rr 0 12 = nI (lc K i (dep K i)) ∧ mm 0 14 = nI (dep K i) ∧ mm 0 15 = nI (lc K i (dep K i)) ∧
  (∀ w, w < lc K i (dep K i) → ∃ D, D < dep K i ∧ flg K i D = true ∧ lc K i D = w ∧ rr 6 w = nI D) ∧
  (∀ D, D < dep K i → mm 5 D = b2i (flg K i D)) ∧
  ∀ D, D < dep K i → ∃ o, rr 5 D = nI o ∧ o < i ∧ K o = 123 ∧ dep K o = D ∧ ∀ t, o < t → t ≤ i → D < dep K t
theorem CXI_run {K : Nat → Nat} {i j : Nat} {r1 r2 m1 m2 : RS} (h : CXI K i r1 m1) (hij : i ≤ j) (hn : ∀ t, i ≤ t → t < j → nbr K t) (c10 : r2 0 10 = r1 0 10) (c12 : r2 0 12 = r1 0 12) (c5 : r2 5 = r1 5) (c6 : r2 6 = r1 6) (d14 : m2 0 14 = m1 0 14) (d15 : m2 0 15 = m1 0 15) (d5 : m2 5 = m1 5) : CXI K j r2 m2 := by
  obtain ⟨e1, e2⟩ := dep_run (K := K) (i := i) (j - i) j rfl hij hn
  have e3 : ∀ d, lc K j d = lc K i d := fun d => by unfold lc; rw [e2]
  obtain ⟨h1, h2, h3, h4, h5, h6, h7, h8⟩ := h
  unfold CXI
  rw [e1, e2, c10, c12, c5, c6, d14, d15, d5, e3]
  refine ⟨h1, h2, h3, h4, h5, fun w hw => ?_, h7, fun D hD => ?_⟩
  · obtain ⟨D, a1, a2, a3, a4⟩ := h6 w hw
    exact ⟨D, a1, a2, by rw [e3]; exact a3, a4⟩
  · obtain ⟨o, a1, a2, a3, a4, a5⟩ := h8 D hD
    refine ⟨o, a1, by omega, a3, a4, fun t t1 t2 => ?_⟩
    by_cases c : t ≤ i
    · exact a5 t t1 c
    · have := (dep_run (K := K) (i := i) (t - i) t rfl (by omega) (fun u u1 u2 => hn u u1 (by omega))).1
      rw [this]
      exact hD
def mEnd (N : Nat) (m : RS) : Option (Int32 × RS) := if m 0 9 = 59 then (bnd (fX12_nextToken N m) fun r1 => some (0, r1)) else some (1, m)
def mSum (N : Nat) (L : Int32) (k : RS → Option (Int32 × RS)) (m : RS) : Option (Int32 × RS) := bnd (fX12_summed N L m) fun r => if r.1 = 0 then k r.2 else some (r.1, r.2)
def mTake (N : Nat) (c : Int32) (k : RS → Option (Int32 × RS)) (m : RS) : Option (Int32 × RS) := if m 0 9 = c then bnd (fX12_nextToken N m) k else some (1, m)
section P3
variable {N n tn X : Nat} {b K V W P E : Nat → Nat} {rr mm : RS} {i : Nat}
theorem ONE_of {c : Nat} {r0 r' : RS} {j : Nat} {m0 : RS} (hx : CXI K c r0 m0) (h : oneF K W j (lc K c (dep K c)) r0 r') : ONE K W (r' 3) c j := by
  rcases h with h | ⟨a, a1, a2⟩
  · exact Or.inl h
  · obtain ⟨D, d1, d2, d3, d4⟩ := hx.2.2.2.2.2.1 _ a1
    exact Or.inr ⟨a, D, d1, d2, d3, a2.trans d4⟩
theorem SUM_of {c j : Nat} {r0 r' m0 : RS} (hj : j < tn) (hx : CXI K c r0 m0) (h : sumF tn K W (lc K c (dep K c)) r0 r' i j) : SUMV tn K W (r' 3) c i j := by
  obtain ⟨m, h1, h2, h3, h4, h5⟩ := h
  unfold kf at h4 h5
  rw [if_pos hj] at h4 h5
  exact ⟨m, h1, fun t ht => ⟨(h2 t ht).1, ONE_of hx (h2 t ht).2⟩, h3, h4, h5⟩
theorem sumF_cg {L j : Nat} {r1 r2 r3 : RS} (h : sumF tn K W L r1 r2 i j) (h3 : ∀ t, t < j → r3 3 t = r2 3 t) : sumF tn K W L r1 r3 i j := by
  obtain ⟨m, h1, h2, h4, h5⟩ := h
  exact ⟨m, h1, fun t ht => ⟨(h2 t ht).1, oneF_cg (h2 t ht).2 (h3 _ (by omega))⟩, h4, h5⟩
theorem sumF_cg0 {L j : Nat} {r0 r1 r2 : RS} (h : sumF tn K W L r1 r2 i j) (h6 : r1 6 = r0 6) : sumF tn K W L r0 r2 i j := by
  obtain ⟨m, h1, h2, h4, h5⟩ := h
  exact ⟨m, h1, fun t ht => ⟨(h2 t ht).1, oneF_cg0 (h2 t ht).2 h6⟩, h4, h5⟩
theorem sumF_nb {L j : Nat} {r1 r2 : RS} (h : sumF tn K W L r1 r2 i j) : i < j ∧ ∀ t, i ≤ t → t < j → nbr K t := by
  obtain ⟨m, h1, h2, h4, h5⟩ := h
  refine ⟨by omega, fun t t1 t2 => ?_⟩
  by_cases c : (t - i) % 2 = 0
  · have := (h2 ((t - i) / 2) (by omega)).2
    rw [show i + 2 * ((t - i) / 2) = t from by omega] at this
    rcases this with ⟨q, -⟩ | ⟨q, -⟩
    · unfold nbr; omega
    · unfold nbr; omega
  · have := h4 ((t - i) / 2) (by omega)
    rw [show i + 2 * ((t - i) / 2) + 1 = t from by omega] at this
    unfold nbr
    omega
/-- what a statement's body (without a block) leaves -/
def BDY (n tn X : Nat) (b K V W P E : Nat → Nat) (rr mm : RS) (i : Nat) (G : Nat → RS → Prop) : Nat → RS → RS → Prop := fun j rr' mm' => PC n tn K V P j rr' ∧ PM n tn X b K W P E j mm' ∧ frK rr rr' i ∧ stM mm mm' ∧ i < j ∧ (∀ t, i ≤ t → t < j → nbr K t) ∧ G j rr'
theorem bnd_as {α β γ : Type} {o : Option α} {f : α → Option β} {g : β → Option γ} : bnd (bnd o f) g = bnd o fun x => bnd (f x) g := by cases o <;> rfl
theorem bnd_some' {α : Type} {o : Option α} : (bnd o fun r => some r) = o := by cases o <;> rfl
/-- a sum, then what follows -/
theorem R2_sum {L : Nat} (hL3 : L ≤ 3) {Q : Nat → RS → RS → Prop} {kc : RS → Option RS} {kM : RS → Option (Int32 × RS)} (T : TD N n tn X b K V W P E) (hC : PC n tn K V P i rr) (hM : PM n tn X b K W P E i mm) (hL : rr 0 12 = nI L)
    (h1 : ∀ j rr' mm', PC n tn K V P j rr' → PM n tn X b K W P E j mm' → frK rr rr' i → stM mm mm' → sumF tn K W L rr rr' i j → R2 X mm' Q (kc rr') (kM mm')) (h2 : ∀ f rr' mm', FLT f rr' mm' → kc rr' = some rr') :
    R2 X mm Q (bnd (fX8_sum N rr) kc) (mSum N (nI L) kM mm) :=
  (sum_ok hL3 T hC hM hL).bind (fun j rr' mm' q => h1 j rr' mm' q.1 q.2.1 q.2.2.1 q.2.2.2.1 q.2.2.2.2) h2
theorem R2_tk {Q : Nat → RS → RS → Prop} {kc : RS → Option RS} {kM : RS → Option (Int32 × RS)} {c : Nat} (T : TD N n tn X b K V W P E) (hC : PC n tn K V P i rr) (hM : PM n tn X b K W P E i mm) (hc : c = 42 ∨ c = 43 ∨ c = 44 ∨ c = 59 ∨ c = 60 ∨ c = 61 ∨ c = 123 ∨ c = 125)
    (h1 : ∀ rr' mm', i < tn → K i = c → PC n tn K V P (i + 1) rr' → PM n tn X b K W P E (i + 1) mm' → frK rr rr' i → stM mm mm' → rr' 3 = rr 3 → R2 X mm' Q (kc rr') (kM mm')) (h2 : ∀ f rr' mm', FLT f rr' mm' → kc rr' = some rr') :
    R2 X mm Q (bnd (fX8_take N (nI c) rr) kc) (mTake N (nI c) kM mm) := R2_take T hC hM hc h1 h2
theorem sums2C {k : Nat} : fX8_sums_L6 N 2 (k + 2) 1 rr = bnd (fX8_take N 44 rr) fun r1 => fX8_sum N r1 := by
  rw [fX8_sums_L6, if_neg (by decide)]
  congr 1
  funext r1
  have : ∀ r2 : RS, fX8_sums_L6 N 2 (k + 1) (1 + 1) r2 = some r2 := fun r2 => by rw [fX8_sums_L6, if_pos (by decide)]
  simp only [this]
  exact bnd_some'
theorem sums3C {k : Nat} : fX8_sums_L6 N 3 (k + 3) 1 rr = bnd (fX8_take N 44 rr) fun r1 => bnd (fX8_sum N r1) fun r2 => bnd (fX8_take N 44 r2) fun r3 => fX8_sum N r3 := by
  rw [fX8_sums_L6, if_neg (by decide)]
  congr 1
  funext r1
  congr 1
  funext r2
  rw [fX8_sums_L6, if_neg (by decide)]
  congr 1
  funext r3
  have : ∀ r4 : RS, fX8_sums_L6 N 3 (k + 1) (1 + 1 + 1) r4 = some r4 := fun r2 => by rw [fX8_sums_L6, if_pos (by decide)]
  simp only [this]
  exact bnd_some'
theorem frK_L {L : Nat} {r1 r2 : RS} {j : Nat} (h : frK r1 r2 j) (hL : r1 0 12 = nI L) : r2 0 12 = nI L := (h.1 12 (by decide) (by decide) (by decide)).trans hL
theorem nbr_all {j k : Nat} (hj : i ≤ j) (h1 : ∀ t, i ≤ t → t < j → nbr K t) (h2 : nbr K j) (h3 : ∀ t, j + 1 ≤ t → t < k → nbr K t) : ∀ t, i ≤ t → t < k → nbr K t := fun t t1 t2 => by
  by_cases c : t < j
  · exact h1 t t1 c
  · by_cases c2 : t = j
    · subst c2; exact h2
    · exact h3 t (by omega) t2
/-- the end of a statement: ; -/
theorem R2_end {G : Nat → RS → Prop} {m0 r0 : RS} {i0 : Nat} (T : TD N n tn X b K V W P E) (hC : PC n tn K V P i rr) (hM : PM n tn X b K W P E i mm) (hf : frK r0 rr i0) (hs : stM m0 mm) (hi : i0 ≤ i) (hn : ∀ t, i0 ≤ t → t < i → nbr K t) (hG : ∀ rr', i < tn → K i = 59 → rr' 3 = rr 3 → G (i + 1) rr') :
    R2 X mm (BDY n tn X b K V W P E r0 m0 i0 G) (bnd (fX8_take N 59 rr) fun r => some r) (mEnd N mm) :=
  R2_take (c := 59) T hC hM (by omega) (fun rr' mm' a1 a2 a3 a4 a5 a6 a7 => Or.inl ⟨i + 1, rr', mm', rfl, rfl, frM.rf, a3, a4, hf.tr a5 hi, hs.tr a6, by omega, fun t t1 t2 => by
    by_cases c : t < i
    · exact hn t t1 c
    · have : t = i := by omega
      subst this
      unfold nbr
      omega, hG rr' a1 a2 a7⟩) (fun f rr' mm' h => rfl)
theorem body2 {L : Nat} (hL3 : L ≤ 3) (T : TD N n tn X b K V W P E) (hC : PC n tn K V P i rr) (hM : PM n tn X b K W P E i mm) (hL : rr 0 12 = nI L) :
    R2 X mm (BDY n tn X b K V W P E rr mm i fun j rr' => j ≤ tn ∧ ∃ j1 j2, sumF tn K W L rr rr' i j1 ∧ j1 < tn ∧ K j1 = 44 ∧ sumF tn K W L rr rr' (j1 + 1) j2 ∧ j2 < tn ∧ K j2 = 59 ∧ j = j2 + 1) (bnd (fX8_sums N 2 rr) fun r1 => bnd (fX8_take N 59 r1) fun r2 => some r2) (fX12_sums N 2 (nI L) mm) := by
  obtain ⟨k, rfl⟩ : ∃ k, N = k + 3 := ⟨N - 3, by have := T.1; omega⟩
  have hc : (bnd (fX8_sums (k + 3) 2 rr) fun r1 => bnd (fX8_take (k + 3) 59 r1) fun r2 => some r2) = bnd (fX8_sum (k + 3) rr) fun r1 => bnd (fX8_take (k + 3) 44 r1) fun r2 => bnd (fX8_sum (k + 3) r2) fun r3 => bnd (fX8_take (k + 3) 59 r3) fun r4 => some r4 := by
    unfold fX8_sums
    rw [bnd_as]
    congr 1
    funext r1
    rw [show k + 3 = (k + 1) + 2 from rfl, sums2C, bnd_as]
  have hm : fX12_sums (k + 3) 2 (nI L) mm = mSum (k + 3) (nI L) (mTake (k + 3) 44 (mSum (k + 3) (nI L) (mEnd (k + 3)))) mm := rfl
  rw [hc, hm]
  refine R2_sum hL3 T hC hM hL (fun j1 r1 m1 a1 a2 a3 a4 a5 => ?_) (fun f r' m' h => ?_)
  · refine R2_tk (c := 44) T a1 a2 (by omega) (fun r2 m2 c1 c2 c3 c4 c5 c6 c7 => ?_) (fun f r' m' h => ?_)
    · refine R2_sum hL3 T c3 c4 (frK_L c5 (frK_L a3 hL)) (fun j2 r3 m3 d1 d2 d3 d4 d5 => ?_) (fun f r' m' h => ?_)
      · have n1 := sumF_nb a5
        have n2 := sumF_nb d5
        refine R2_end T d1 d2 ((a3.tr c5 (by omega)).tr d3 (by omega)) ((a4.tr c6).tr d4) (by omega) (nbr_all (by omega) n1.2 (by unfold nbr; omega) n2.2) (fun r4 g1 g2 g3 => ⟨by omega, j1, j2, sumF_cg a5 (fun t ht => by rw [g3, d3.2.2 t (by omega), c7]), c1, c2, sumF_cg (sumF_cg0 d5 (by rw [c5.2.1 6 (by decide) (by decide), a3.2.1 6 (by decide) (by decide)])) (fun t ht => by rw [g3]), g1, g2, rfl⟩)
      · rw [take_no h.ne, bnd_s]
    · obtain ⟨y, y1, y2⟩ := h.2.2.2.2
      rw [sum_no (by omega) h.ne y1 y2, bnd_s, take_no h.ne, bnd_s]
  · obtain ⟨y, y1, y2⟩ := h.2.2.2.2
    rw [take_no h.ne, bnd_s, sum_no (by omega) h.ne y1 y2, bnd_s, take_no h.ne, bnd_s]
theorem body3 {L : Nat} (hL3 : L ≤ 3) (T : TD N n tn X b K V W P E) (hC : PC n tn K V P i rr) (hM : PM n tn X b K W P E i mm) (hL : rr 0 12 = nI L) :
    R2 X mm (BDY n tn X b K V W P E rr mm i fun j rr' => j ≤ tn ∧ ∃ j1 j2 j3, sumF tn K W L rr rr' i j1 ∧ j1 < tn ∧ K j1 = 44 ∧ sumF tn K W L rr rr' (j1 + 1) j2 ∧ j2 < tn ∧ K j2 = 44 ∧ sumF tn K W L rr rr' (j2 + 1) j3 ∧ j3 < tn ∧ K j3 = 59 ∧ j = j3 + 1) (bnd (fX8_sums N 3 rr) fun r1 => bnd (fX8_take N 59 r1) fun r2 => some r2) (fX12_sums N 3 (nI L) mm) := by
  obtain ⟨k, rfl⟩ : ∃ k, N = k + 4 := ⟨N - 4, by have := T.1; omega⟩
  have hc : (bnd (fX8_sums (k + 4) 3 rr) fun r1 => bnd (fX8_take (k + 4) 59 r1) fun r2 => some r2) = bnd (fX8_sum (k + 4) rr) fun r1 => bnd (fX8_take (k + 4) 44 r1) fun r2 => bnd (fX8_sum (k + 4) r2) fun r3 => bnd (fX8_take (k + 4) 44 r3) fun r4 => bnd (fX8_sum (k + 4) r4) fun r5 => bnd (fX8_take (k + 4) 59 r5) fun r6 => some r6 := by
    unfold fX8_sums
    rw [bnd_as]
    congr 1
    funext r1
    rw [show k + 4 = (k + 1) + 3 from rfl, sums3C, bnd_as]
    congr 1
    funext r2
    rw [bnd_as]
    congr 1
    funext r3
    rw [bnd_as]
  have hm : fX12_sums (k + 4) 3 (nI L) mm = mSum (k + 4) (nI L) (mTake (k + 4) 44 (mSum (k + 4) (nI L) (mTake (k + 4) 44 (mSum (k + 4) (nI L) (mEnd (k + 4)))))) mm := rfl
  rw [hc, hm]
  refine R2_sum hL3 T hC hM hL (fun j1 r1 m1 a1 a2 a3 a4 a5 => ?_) (fun f r' m' h => ?_)
  · refine R2_tk (c := 44) T a1 a2 (by omega) (fun r2 m2 c1 c2 c3 c4 c5 c6 c7 => ?_) (fun f r' m' h => ?_)
    · refine R2_sum hL3 T c3 c4 (frK_L c5 (frK_L a3 hL)) (fun j2 r3 m3 d1 d2 d3 d4 d5 => ?_) (fun f r' m' h => ?_)
      · refine R2_tk (c := 44) T d1 d2 (by omega) (fun r4 m4 e1 e2 e3 e4 e5 e6 e7 => ?_) (fun f r' m' h => ?_)
        · refine R2_sum hL3 T e3 e4 (frK_L e5 (frK_L d3 (frK_L c5 (frK_L a3 hL)))) (fun j3 r5 m5 f1 f2 f3 f4 f5 => ?_) (fun f r' m' h => ?_)
          · have n1 := sumF_nb a5
            have n2 := sumF_nb d5
            have n3 := sumF_nb f5
            have s6 : r2 6 = rr 6 := by rw [c5.2.1 6 (by decide) (by decide), a3.2.1 6 (by decide) (by decide)]
            have s6' : r4 6 = rr 6 := by rw [e5.2.1 6 (by decide) (by decide), d3.2.1 6 (by decide) (by decide), s6]
            refine R2_end T f1 f2 ((((a3.tr c5 (by omega)).tr d3 (by omega)).tr e5 (by omega)).tr f3 (by omega)) ((((a4.tr c6).tr d4).tr e6).tr f4) (by omega) (nbr_all (by omega) (nbr_all (by omega) n1.2 (by unfold nbr; omega) n2.2) (by unfold nbr; omega) n3.2) (fun r6 g1 g2 g3 => ⟨by omega, j1, j2, j3, sumF_cg a5 (fun t ht => by rw [g3, f3.2.2 t (by omega), e7, d3.2.2 t (by omega), c7]), c1, c2, sumF_cg (sumF_cg0 d5 s6) (fun t ht => by rw [g3, f3.2.2 t (by omega), e7]), e1, e2, sumF_cg (sumF_cg0 f5 s6') (fun t ht => by rw [g3]), g1, g2, rfl⟩)
          · rw [take_no h.ne, bnd_s]
        · obtain ⟨y, y1, y2⟩ := h.2.2.2.2
          rw [sum_no (by omega) h.ne y1 y2, bnd_s, take_no h.ne, bnd_s]
      · obtain ⟨y, y1, y2⟩ := h.2.2.2.2
        rw [take_no h.ne, bnd_s, sum_no (by omega) h.ne y1 y2, bnd_s, take_no h.ne, bnd_s]
    · obtain ⟨y, y1, y2⟩ := h.2.2.2.2
      rw [sum_no (by omega) h.ne y1 y2, bnd_s, take_no h.ne, bnd_s, sum_no (by omega) h.ne y1 y2, bnd_s, take_no h.ne, bnd_s]
  · obtain ⟨y, y1, y2⟩ := h.2.2.2.2
    rw [take_no h.ne, bnd_s, sum_no (by omega) h.ne y1 y2, bnd_s, take_no h.ne, bnd_s, sum_no (by omega) h.ne y1 y2, bnd_s, take_no h.ne, bnd_s]
theorem body0 {L : Nat} (T : TD N n tn X b K V W P E) (hC : PC n tn K V P i rr) (hM : PM n tn X b K W P E i mm) :
    R2 X mm (BDY n tn X b K V W P E rr mm i fun j rr' => j ≤ tn ∧ i < tn ∧ K i = 59 ∧ j = i + 1) (bnd (fX8_take N 59 rr) fun r2 => some r2) (fX12_sums N 0 (nI L) mm) := by
  obtain ⟨k, rfl⟩ : ∃ k, N = k + 1 := ⟨N - 1, by have := T.1; omega⟩
  have hm : fX12_sums (k + 1) 0 (nI L) mm = mEnd (k + 1) mm := rfl
  rw [hm]
  exact R2_end T hC hM frK.rf stM.rf (Nat.le_refl _) (fun t t1 t2 => by omega) (fun r a1 a2 a3 => ⟨by omega, a1, a2, rfl⟩)
end P3
