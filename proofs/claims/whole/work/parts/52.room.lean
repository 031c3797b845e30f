/-! THE PLAN: something is always allowed; room for moves; new moves -/
theorem bit_ex (f : Nat → Bool) : ∀ n, ∃ s, s < 2 ^ n ∧ ∀ e, e < n → bitS s e = f e := by
  intro n
  induction n with
  | zero => exact ⟨0, by decide, fun e he => absurd he (by omega)⟩
  | succ n ih =>
    obtain ⟨s, h1, h2⟩ := ih
    have hp : 0 < 2 ^ n := Nat.two_pow_pos n
    have hlo : ∀ e, e < n → bitS (s + 2 ^ n) e = bitS s e := by
      intro e he
      unfold bitS
      have e1 : 2 ^ n = 2 ^ e * (2 * 2 ^ (n - e - 1)) := by
        rw [← Nat.pow_succ', ← Nat.pow_add]
        congr 1
        omega
      rw [e1, Nat.add_mul_div_left _ _ (Nat.two_pow_pos e), Nat.add_mul_mod_self_left]
    cases c : f n with
    | true =>
      refine ⟨s + 2 ^ n, by rw [Nat.pow_succ]; omega, fun e he => ?_⟩
      by_cases q : e = n
      · subst q
        rw [c]
        unfold bitS
        rw [Nat.add_div_right _ hp, Nat.div_eq_of_lt h1]
        rfl
      · rw [hlo e (by omega)]
        exact h2 e (by omega)
    | false =>
      refine ⟨s, by rw [Nat.pow_succ]; omega, fun e he => ?_⟩
      by_cases q : e = n
      · subst q
        rw [c]
        unfold bitS
        rw [Nat.div_eq_of_lt h1]
        rfl
      · exact h2 e (by omega)
theorem bst_found {al : Nat → Bool} {wo : Nat → Int32} {s : Nat} (h : al s = true) : ∀ n, s < n → (bst al wo n).1 = true := by
  intro n
  induction n with
  | zero => intro q; omega
  | succ n ih =>
    intro q
    show (if al n = true ∧ ((bst al wo n).1 = false ∨ ¬ wo n ≤ (bst al wo n).2.2) then (true, n, wo n) else bst al wo n).1 = true
    by_cases c : al n = true ∧ ((bst al wo n).1 = false ∨ ¬ wo n ≤ (bst al wo n).2.2)
    · rw [if_pos c]
    · rw [if_neg c]
      by_cases e : s = n
      · subst e
        cases cf : (bst al wo s).1 with
        | true => rfl
        | false => exact absurd ⟨h, Or.inl cf⟩ c
      · exact ih (by omega)
theorem pos_sum (f : Nat → Nat) : sN 23 f = sN 10 fun e => sN (szN e) fun b => f (stN e + b) := by
  simp only [sN, szN, stN]
  simp
  omega
theorem used_le {w : RS} (h : ID w) : sN 23 (fun p => usd (w 18 p)) ≤ 9 := by
  rw [← used_eq h]
  have := free_used w 9
  omega
def cur (w : RS) (m e : Nat) : Bool := if bgn w m e then decide (w 3 e = 0) else decide (w 3 e = 1)
theorem some_allowed {w : RS} {m : Nat} (hm : m ≤ 10) (hi : IW w) (h23 : w 23 0 = nI m) (bu : Nat) : ∃ s, s < 1024 ∧ als (may1 w m) (cpy1 w m) bu s = true := by
  obtain ⟨s, hs, hb⟩ := bit_ex (cur w m) 10
  refine ⟨s, hs, als_iff.mpr ⟨fun e he => ?_, ?_, ?_⟩⟩
  · rw [hb e he]
    unfold may1 cur mIn mOut
    cases bgn w m e <;> rcases hi.1.1 e he with q | q <;> rw [q] <;> simp
  · refine Nat.le_trans ?_ (used_le hi.2.1)
    rw [pos_sum]
    unfold szs
    refine sN_le fun e he => ?_
    rw [hb e he]
    by_cases c : cur w m e = true
    · rw [if_pos c]
      have hh : HSl w e := by
        rw [HSl_iff h23 hm]
        unfold cur at c
        cases cb : bgn w m e with
        | true => exact Or.inr (bgn_iff.mp cb)
        | false => rw [cb] at c; exact Or.inl (of_decide_eq_true c)
      have : sN (szN e) (fun b => usd (w 18 (stN e + b))) = sN (szN e) fun _ => 1 := sN_cg fun b hb2 => if_neg ((hi.2.2.2.2.1 e he b hb2).mpr hh)
      rw [this]
      have h1 : ∀ n, sN n (fun _ => 1) = n := by
        intro n
        induction n with
        | zero => rfl
        | succ n ih => show sN n _ + 1 = _; rw [ih]
      rw [h1]
      exact Nat.le_refl _
    · rw [if_neg c]
      exact Nat.zero_le _
  · have : nds (cpy1 w m) s 10 = sN 10 fun _ => 0 := sN_cg fun e he => by
      rw [hb e he]
      unfold cpy1 cur nIn nOut
      cases bgn w m e with
      | true => simp
      | false =>
        rcases hi.1.1 e he with q | q
        · rw [q, hi.1.2.2.2.1 e he q]
          rfl
        · rw [q]
          rfl
    rw [this, sN_0]
    exact Nat.zero_le _
theorem room_mv {w : RS} {m e : Nat} (hi : IV w) (h23 : w 23 0 = nI m) (hm : m ≤ 10) (he : e < 10) (h : ∀ i, i < m → w 24 i ≠ nI e) : m < 10 := by
  obtain ⟨n, u1, u2, u3, u4⟩ := hi
  have en : n = m := (eq_nI (by omega) (by omega)).mp (u2.symm.trans h23)
  subst en
  have h1 : ∀ k, sN k (fun _ => 1) = k := by
    intro k
    induction k with
    | zero => rfl
    | succ k ih => show sN k _ + 1 = _; rw [ih]
  have e1 : n = sN n fun i => sN 10 fun f => if w 24 i = nI f then 1 else 0 := by
    rw [← h1 n]
    conv => rhs; rw [h1 n]
    refine sN_cg fun i hi2 => ?_
    obtain ⟨f, f1, f2, -⟩ := u3 i hi2
    rw [sN_one f1 fun j hj hne => if_neg fun q => hne ((eq_nI (by omega) (by omega)).mp (q.symm.trans f2)), if_pos f2]
  rw [sN_swap] at e1
  have e2 : sN 10 (fun f => sN n fun i => if w 24 i = nI f then 1 else 0) ≤ sN 10 fun f => if f = e then 0 else 1 := by
    refine sN_le fun f hf => ?_
    by_cases c : f = e
    · subst c
      rw [if_pos rfl, sN_cg (g := fun _ => 0) fun i hi2 => if_neg (h i hi2), sN_0]
      exact Nat.le_refl _
    · rw [if_neg c]
      by_cases q : ∃ i, i < n ∧ w 24 i = nI f
      · obtain ⟨i, i1, i2⟩ := q
        rw [sN_one i1 fun j hj hne => if_neg fun z => hne (u4 j hj i i1 (z.trans i2.symm)), if_pos i2]
        exact Nat.le_refl _
      · rw [sN_cg (g := fun _ => 0) fun i hi2 => if_neg fun z => q ⟨i, hi2, z⟩, sN_0]
        exact Nat.zero_le _
  have e3 : ∀ e, e < 10 → sN 10 (fun f => if f = e then 0 else 1) = 9 := by decide +kernel
  rw [e3 e he] at e2
  omega
/-- a new move -/
theorem add_SM {N m e : Nat} (hm : m ≤ 10) (he : e < 10) {w mm : RS} {a : Nat → Int32} (hr : RW w a) (hi : IW w) (h23 : w 23 0 = nI m) (h : ∀ i, i < m → w 24 i ≠ nI e) :
    ∃ w' a', fX5_add N (nI e) (1 - w 3 e) w = some w' ∧ fX12_addMove N (nI e) (sr mm 1 a) = some (sr mm 1 a') ∧ SM 0 w a w' a' ∧ w' 23 0 = nI (m + 1) ∧ w' 3 = w 3 ∧ (∀ i, i < m → w' 24 i = w 24 i) ∧ w' 24 m = nI e ∧ w' 1 = w 1 := by
  have hm2 := room_mv hi.2.2.2.1 h23 hm he h
  have h109 : a (109 + e) = w 3 e := hr.2.1.1 e he
  obtain ⟨n, v1, v2, v3, v4, v5, v6, v7⟩ := hr.2.2.2.2.2.1
  have en : n = m := (eq_nI (by omega) (by omega)).mp (v2.symm.trans h23)
  subst en
  have o : ∀ c, (c < 23 ∨ 27 < c) → adW w n (nI e) (1 - w 3 e) c = w c := fun c hc => adW_out hc
  have d24 : adW w n (nI e) (1 - w 3 e) 24 = upd (w 24) n (nI e) := by unfold adW; simp (disch := omega) only [sr_n, sr_e]
  have d25 : adW w n (nI e) (1 - w 3 e) 25 = upd (w 25) n (1 - w 3 e) := by unfold adW; simp (disch := omega) only [sr_n, sr_e]
  have d26 : adW w n (nI e) (1 - w 3 e) 26 = upd (w 26) n 0 := by unfold adW; simp (disch := omega) only [sr_n, sr_e]
  have d23 : adW w n (nI e) (1 - w 3 e) 23 0 = nI (n + 1) := by unfold adW; rw [sr_e, upd_e]
  refine ⟨adW w n (nI e) (1 - w 3 e), adA a n (nI e) (1 - w 3 e), add_ok hm2 h23 _ _, ?_, ⟨RW_V hr (fun c hc => o c hc) (fun k k1 k2 => adA_out hm2 k1 k2) (add_RV hm2 _ _ v4 v5 v6 v7), ?_, fun k hk => adA_out hm2 (by omega) (by omega), fun K hK => IK_cg (by rw [o 1 (by omega)]) (by rw [o 1 (by omega)]) (by rw [o 1 (by omega)]) hK⟩, d23, o 3 (by omega), fun i hi2 => by rw [d24, upd_n (by omega)], by rw [d24, upd_e], o 1 (by omega)⟩
  · rw [addM_ok hm2 he v3 (by rw [h109]; exact hi.1.1 e he), h109]
  · obtain ⟨iX, iD, iH, iV, iS, iC⟩ := hi
    refine ⟨IX_cg (fun c hc => o c (by omega)) iX, ID_cg (o 18 (by omega)) (o 19 (by omega)) iD, IH_cg (o 20 (by omega)) (o 21 (by omega)) iH, ?_, ?_, IC_cg (fun i _ => by rw [o 1 (by omega)]) iC⟩
    · obtain ⟨n', u1, u2, u3, u4⟩ := iV
      have en : n' = n := (eq_nI (by omega) (by omega)).mp (u2.symm.trans h23)
      subst en
      refine ⟨n' + 1, by omega, d23, fun i hi2 => ?_, fun i hi2 j hj q => ?_⟩
      · rw [d24, d25, d26, o 3 (by omega)]
        by_cases c : i = n'
        · subst c
          rw [upd_e, upd_e, upd_e]
          exact ⟨e, he, rfl, rfl, Or.inl rfl⟩
        · rw [upd_n c, upd_n c, upd_n c]
          exact u3 i (by omega)
      · rw [d24] at q
        by_cases c : i = n'
        · by_cases c2 : j = n'
          · omega
          · subst c
            rw [upd_e, upd_n c2] at q
            exact absurd q.symm (h j (by omega))
        · by_cases c2 : j = n'
          · subst c2
            rw [upd_n c, upd_e] at q
            exact absurd q (h i (by omega))
          · rw [upd_n c, upd_n c2] at q
            exact u4 i (by omega) j (by omega) q
    · intro f hf b hb
      rw [o 18 (by omega), iS f hf b hb, HSl_iff h23 hm, HSl_iff d23 (by omega), o 3 (by omega), d24, d26]
      constructor
      · rintro (z | ⟨i, i1, i2, i3⟩)
        · exact Or.inl z
        · exact Or.inr ⟨i, by omega, by rw [upd_n (by omega)]; exact i2, by rw [upd_n (by omega)]; exact i3⟩
      · rintro (z | ⟨i, i1, i2, i3⟩)
        · exact Or.inl z
        · by_cases c : i = n
          · subst c
            rw [upd_e] at i3
            exact absurd i3 (by decide)
          · rw [upd_n c] at i2 i3
            exact Or.inr ⟨i, by omega, i2, i3⟩
