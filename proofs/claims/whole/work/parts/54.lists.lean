/-! THE PLAN: both loops of the list; the plan as made; a tick -/
theorem insL_lo {L : Nat → Nat} {p e i : Nat} (h : i < p) : insL L p e i = L i := if_pos h
theorem insL_at {L : Nat → Nat} {p e : Nat} : insL L p e p = e := by unfold insL; rw [if_neg (Nat.lt_irrefl _), if_pos rfl]
theorem insL_hi {L : Nat → Nat} {p e i : Nat} (h : p < i) : insL L p e i = L (i - 1) := by unfold insL; rw [if_neg (by omega), if_neg (by omega)]
/-- to fast -/
theorem list_2 {N m s first : Nat} (hN : 97 ≤ N) (hm : m ≤ 10) (hs : s < 1024) {w mm : RS} {a : Nat → Int32} (hr : RW w a) (hi : IW w) (h23 : w 23 0 = nI m) :
    ∀ d e n k k2 p F L, 10 - e = d → e ≤ 10 → first ≤ n → d < k → d < k2 → p 0 12 = nI n → pK w m s p → same n L (p 8) F → LQ w m n L → (∀ i, i < first → w 3 (L i) = 1) → (∀ i, first ≤ i → i < n → L i < e ∧ w 3 (L i) = 0) →
      ∃ n' p' F' L', fX6_listMoves_L76 N w k (nI first) (nI e) p = some p' ∧ fX12_layNew_L59 N (nI s) k2 (nI n) (nI first) (nI e) (MM mm F a) = some (nI n', MM mm F' a) ∧ p' 0 12 = nI n' ∧ pK w m s p' ∧ same n' L' (p' 8) F' ∧ LQ w m n' L' ∧ p' 0 9 = p 0 9 := by
  intro d
  induction d with
  | zero =>
    intro e n k k2 p F L h1 h2 h3 h4 h5 g1 g2 g3 g4 g5 g6
    obtain ⟨k, rfl⟩ : ∃ j, k = j + 1 := ⟨k - 1, by omega⟩
    obtain ⟨k2, rfl⟩ : ∃ j, k2 = j + 1 := ⟨k2 - 1, by omega⟩
    have : e = 10 := by omega
    subst this
    refine ⟨n, p, F, L, ?_, ?_, g1, g2, g3, g4, rfl⟩
    · rw [fX6_listMoves_L76, if_pos (show (10 : Int32) ≤ nI 10 by decide)]
    · rw [fX12_layNew_L59, if_pos (show (10 : Int32) ≤ nI 10 by decide)]
  | succ d ih =>
    intro e n k k2 p F L h1 h2 h3 h4 h5 g1 g2 g3 g4 g5 g6
    obtain ⟨k, rfl⟩ : ∃ j, k = j + 1 := ⟨k - 1, by omega⟩
    obtain ⟨k2, rfl⟩ : ∃ j, k2 = j + 1 := ⟨k2 - 1, by omega⟩
    have he : e < 10 := by omega
    have hn10 := LQ_le g4
    have n10 : ¬ (10 : Int32) ≤ nI e := fun q => absurd ((le_10 (by omega)).mp q) (by omega)
    have hC : fX6_listMoves_L76 N w (k + 1) (nI first) (nI e) p = (if b2i (bgn w m e) = 0 then (if w 3 e = 0 then (if b2i (bitS s e) = 0 then fX6_listMoves_L76 N w k (nI first) (nI (e + 1)) p else fX6_listMoves_L117 N w (fX6_listMoves_L76 N w k) N (nI first) (nI e) (nI n) p) else fX6_listMoves_L76 N w k (nI first) (nI (e + 1)) p) else fX6_listMoves_L76 N w k (nI first) (nI (e + 1)) p) := by
      rw [fX6_listMoves_L76, if_neg n10, inb_nI he (by omega), ck_t, cl_nI (by omega), g2.1 e he, g2.2, isIn10 hs he]
      unfold fX6_listMoves_L180
      rw [thn_e, g1, j1]
    have hM : fX12_layNew_L59 N (nI s) (k2 + 1) (nI n) (nI first) (nI e) (MM mm F a) = (if w 3 e = 0 then (if b2i (bitS s e) = 0 then fX12_layNew_L59 N (nI s) k2 (nI n) (nI first) (nI (e + 1)) (MM mm F a) else (if (if bgn w m e then 1 - w 3 e else -1) = -1 then fX12_layNew_L100 N (nI s) (fX12_layNew_L59 N (nI s) k2) N (nI n) (nI first) (nI e) (nI n) (MM mm F a) else fX12_layNew_L59 N (nI s) k2 (nI n) (nI first) (nI (e + 1)) (MM mm F a))) else fX12_layNew_L59 N (nI s) k2 (nI n) (nI first) (nI (e + 1)) (MM mm F a)) := by
      rw [fX12_layNew_L59, if_neg n10, isFastM' he hr hi, bnd_s, has10 s hs e he, begunM' hN hm he hr hi h23, bnd_s]
      unfold fX12_layNew_L170
      rw [j1]
    have skip := ih (e + 1) n k k2 p F L (by omega) (by omega) (by omega) (by omega) (by omega) g1 g2 g3 g4 g5 (fun i q1 q2 => ⟨by have := (g6 i q1 q2).1; omega, (g6 i q1 q2).2⟩)
    rw [hC, hM]
    rcases hi.1.1 e he with q | q
    · rw [q, if_pos (show (0 : Int32) = 0 from rfl), if_pos (show (0 : Int32) = 0 from rfl)]
      cases cb : bitS s e with
      | false =>
        rw [if_pos (show b2i false = 0 from rfl), if_pos (show b2i false = 0 from rfl), ite_self]
        exact skip
      | true =>
        rw [if_neg (show ¬ b2i true = 0 by decide), if_neg (show ¬ b2i true = 0 by decide)]
        cases cg : bgn w m e with
        | true =>
          rw [if_neg (show ¬ b2i true = 0 by decide), if_neg (by decide)]
          exact skip
        | false =>
          rw [if_pos (show b2i false = 0 from rfl), if_pos (by decide)]
          have hne : ∀ i, i < n → L i ≠ e := by
            intro i hi2 z
            by_cases c : i < first
            · have := g5 i c
              rw [z, q] at this
              exact absurd this (by decide)
            · have := (g6 i (by omega) hi2).1
              omega
          have hn : n < 10 := by
            have := LQ_le (insL_Q g4 (Nat.le_refl n) he cg hne)
            omega
          obtain ⟨at', p', F', i1, i2, i3, i4, i5, i6, i7, i8⟩ := list_in (N := N) (m := m) (s := s) (first := first) (n := n) (e := e) hs (w := w) (mm := mm) (a := a) hr he hn h3 (L := L) (fun i q1 q2 => (g6 i q1 q2).1) (fun i q1 => (g4.1 i q1).1) (fX6_listMoves_L76 N w k) (fX12_layNew_L59 N (nI s) k2) (n - first) n N N p F rfl h3 (Nat.le_refl _) (by omega) (by omega) g1 g2 (fun i q1 => g3 i q1) (fun i q1 q2 => absurd q1 (by omega))
          rw [i1, i2]
          refine Exists.elim (ih (e + 1) (n + 1) k k2 p' F' (insL L at' e) (by omega) (by omega) (by omega) (by omega) (by omega) i5 i6 i7 (insL_Q g4 i4 he cg hne) (fun i q1 => ?_) (fun i q1 q2 => ?_)) ?_
          · rw [insL_lo (by omega)]
            exact g5 i q1
          · by_cases c1 : i < at'
            · rw [insL_lo c1]
              exact ⟨by have := (g6 i q1 (by omega)).1; omega, (g6 i q1 (by omega)).2⟩
            · by_cases c2 : i = at'
              · subst c2
                rw [insL_at]
                exact ⟨by omega, q⟩
              · rw [insL_hi (by omega)]
                exact ⟨by have := (g6 (i - 1) (by omega) (by omega)).1; omega, (g6 (i - 1) (by omega) (by omega)).2⟩
          · rintro n' ⟨p2, F2, L2, t1, t2, t3, t4, t5, t6, t7⟩
            exact ⟨n', p2, F2, L2, t1, t2, t3, t4, t5, t6, t7.trans i8⟩
    · rw [q, if_neg (show ¬ (1 : Int32) = 0 by decide), if_neg (show ¬ (1 : Int32) = 0 by decide), ite_self]
      exact skip
/-- the list of new moves -/
theorem list_ok {N m s : Nat} (hN : 97 ≤ N) (hm : m ≤ 10) (hs : s < 1024) {w mm : RS} {a : Nat → Int32} (hr : RW w a) (hi : IW w) (h23 : w 23 0 = nI m) {p : RS} (h3 : ∀ e, e < 10 → p 3 e = b2i (bgn w m e)) (h9 : p 0 9 = nI s) :
    ∃ n p' F L, fX6_listMoves N w p = some p' ∧ fX12_layNew N (nI s) (sr mm 1 a) = some (nI n, MM mm F a) ∧ p' 0 12 = nI n ∧ p' 0 9 = nI s ∧ same n L (p' 8) F ∧ LQ w m n L ∧ n ≤ 10 := by
  obtain ⟨n1, p1, F1, L1, i1, i2, i3, i4, i5, i6, i7, i8, i9⟩ := list_1 (mm := mm) hN hm hs hr hi h23 10 0 0 N N (sr p 0 (upd (p 0) 12 0)) (mm 6) (fun _ => 0) rfl (by omega) (by omega) (by omega) (by omega) (by rw [sr_e, upd_e]; rfl) ⟨fun e he => by rw [sr_n (by decide)]; exact h3 e he, by rw [sr_e, upd_n (by decide)]; exact h9⟩ (fun i hi2 => absurd hi2 (by omega)) ⟨fun i hi2 => absurd hi2 (by omega), fun i hi2 => absurd hi2 (by omega)⟩ (fun i hi2 => absurd hi2 (by omega))
  obtain ⟨n2, p2, F2, L2, k1, k2, k3, k4, k5, k6, k7⟩ := list_2 (mm := mm) (first := n1) hN hm hs hr hi h23 10 0 n1 N N p1 F1 L1 rfl (by omega) (Nat.le_refl _) (by omega) (by omega) i3 i4 i5 i6 i7 (fun i q1 q2 => absurd q2 (by omega))
  refine ⟨n2, p2, F2, L2, ?_, ?_, k3, k4.2, k5, k6, LQ_le k6⟩
  · unfold fX6_listMoves
    rw [thn_e, st_d]
    exact i1.trans k1
  · unfold fX12_layNew
    rw [← MM_self]
    exact i2.trans k2
/-! the plan made -/
theorem weigh_SG {w : RS} {m : Nat} {p : RS} (h : ∀ e, e < 10 → WG w m p e) : SG (may1 w m) (cpy1 w m) (val1 w m) p := fun e he => by
  obtain ⟨-, h1, h2, h6, h7, h4, h5⟩ := h e he
  exact ⟨h1, h2, h6, h7, h4, h5⟩
/-- the best set as planned with a budget -/
def bestW (w : RS) (m bu : Nat) : Bool × Nat × Int32 := bst (als (may1 w m) (cpy1 w m) bu) (wos (val1 w m)) 1024
theorem bestW_ok {w : RS} {m : Nat} (hm : m ≤ 10) (hi : IW w) (h23 : w 23 0 = nI m) (bu : Nat) : (bestW w m bu).1 = true ∧ (bestW w m bu).2.1 < 1024 ∧ (bestW w m bu).2.2 = wos (val1 w m) (bestW w m bu).2.1 ∧ bstR (bestW w m bu) = nI (bestW w m bu).2.1 := by
  obtain ⟨s, hs, ha⟩ := some_allowed hm hi h23 bu
  have h1 : (bestW w m bu).1 = true := bst_found ha 1024 hs
  obtain ⟨h2, h3, -⟩ := bst_inv _ h1
  exact ⟨h1, h2, h3, by unfold bstR; rw [h1]; rfl⟩
theorem makeFor_ok {N m bu : Nat} (hN : 97 ≤ N) (hm : m ≤ 10) (hbu : bu < 1000) {w : RS} (hi : IW w) (h23 : w 23 0 = nI m) (p : RS) :
    ∃ p', fX6_makeFor N (nI bu) w p = some p' ∧ (∀ e, e < 10 → p' 3 e = b2i (bgn w m e)) ∧ p' 0 9 = nI (bestW w m bu).2.1 ∧ p' 0 10 = (bestW w m bu).2.2 := by
  obtain ⟨p1, g1, g2, g3⟩ := weigh_ok (N := N) (x2 := nI bu) (p := p) hN hm hi h23
  obtain ⟨p2, k1, k2, k3⟩ := choose_ok (N := N) hbu (fun e c => cpy1_le) (weigh_SG g3) (by rw [g2, upd_e])
  refine ⟨p2, ?_, fun e he => ?_, k2.2.1, k2.2.2⟩
  · unfold fX6_makeFor
    rw [g1, bnd_s, k1, bnd_s]
  · rw [k3.1 3 (by decide)]
    exact (g3 e he).1
