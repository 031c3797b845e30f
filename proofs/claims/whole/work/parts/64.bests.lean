/-! THE THRESHOLD -/
theorem bm32 {n : Int} (h1 : -2147483648 ≤ n) (h2 : n < 2147483648) : n.bmod (2 ^ 32) = n := by
  rw [Int.bmod_def]; omega
theorem xadd {x y : Int32} (h1 : -2147483648 ≤ x.toInt + y.toInt) (h2 : x.toInt + y.toInt < 2147483648) : (x + y).toInt = x.toInt + y.toInt := by rw [Int32.toInt_add, bm32 h1 h2]
theorem xsub {x y : Int32} (h1 : -2147483648 ≤ x.toInt - y.toInt) (h2 : x.toInt - y.toInt < 2147483648) : (x - y).toInt = x.toInt - y.toInt := by rw [Int32.toInt_sub, bm32 h1 h2]
def bd (B : Int) (x : Int32) : Prop := -B ≤ x.toInt ∧ x.toInt ≤ B
theorem bd_le {A B : Int} {x : Int32} (h : bd A x) (hl : A ≤ B) : bd B x := ⟨by have := h.1; omega, by have := h.2; omega⟩
theorem bd_add {A B : Int} {x y : Int32} (h : bd A x) (g : bd B y) (hl : A + B < 2147483648) : (x + y).toInt = x.toInt + y.toInt ∧ bd (A + B) (x + y) := by
  obtain ⟨h1, h2⟩ := h
  obtain ⟨g1, g2⟩ := g
  have e : (x + y).toInt = x.toInt + y.toInt := xadd (by omega) (by omega)
  exact ⟨e, by rw [e]; omega, by rw [e]; omega⟩
theorem bd_sub {A B : Int} {x y : Int32} (h : bd A x) (g : bd B y) (hl : A + B < 2147483648) : (x - y).toInt = x.toInt - y.toInt ∧ bd (A + B) (x - y) := by
  obtain ⟨h1, h2⟩ := h
  obtain ⟨g1, g2⟩ := g
  have e : (x - y).toInt = x.toInt - y.toInt := xsub (by omega) (by omega)
  exact ⟨e, by rw [e]; omega, by rw [e]; omega⟩
theorem bd_nI {n B : Nat} (h : n ≤ B) (hB : B < 2147483648) : bd B (nI n) := by
  have := nI_toInt (n := n) (by omega)
  exact ⟨by omega, by omega⟩
theorem bd_0 : bd 0 0 := by constructor <;> decide
theorem d4' {a : Nat} (ha : a < 2147483648) : nI a / 4 = nI (a / 4) := pk_div (d := 4) ha (by decide) (by decide)
/-- what a heat is worth -/
def S4 (f : Bool) (h : Nat) : Nat := if f then h + h / 4 else h
theorem heat_S {h : Nat} (hh : h ≤ 10000) (f : Bool) : fX6_heatWorth (nI h) (b2i f) = nI (S4 f h) := by
  unfold fX6_heatWorth S4
  cases f with
  | true => rw [if_neg (show ¬ b2i true = 0 by decide), if_pos rfl, d4' (by omega), nI_add]
  | false => rw [if_pos (show b2i false = 0 from rfl), if_neg (by decide)]
theorem S4_le {f : Bool} {h : Nat} (hh : h ≤ 10000) : S4 f h ≤ 12500 := by unfold S4; cases f <;> simp <;> omega
theorem S4_mono {f : Bool} {h k : Nat} (hh : h ≤ k) : S4 f h ≤ S4 f k := by unfold S4; cases f <;> simp <;> omega
theorem val_bd {w : RS} {m e : Nat} (hi : IW w) (he : e < 10) (c : Bool) : bd 130000 (val1 w m e c) := by
  obtain ⟨pr, p1, p2⟩ := hi.2.2.2.2.2.2.2.2
  have hn : ∀ c, cpy1 w m e c ≤ 8 := fun c => cpy1_le
  have hpr : ∀ c, pr * cpy1 w m e c ≤ 40 * 8 := fun c => Nat.mul_le_mul p1 (hn c)
  unfold val1
  cases c with
  | true =>
    rw [if_pos rfl]
    have hc := hpr true
    unfold cpy1 at hc
    rw [if_pos rfl] at hc
    unfold vIn
    rw [p2, mul_nI]
    obtain ⟨h, h1, h2⟩ := hi.1.2.2.2.2.1 e he
    have hv : bd 12500 (vHeat w e) := by
      unfold vHeat
      rw [h2, d4' (by omega), nI_add]
      by_cases q : w 3 e = 1
      · rw [if_pos q]; exact bd_nI (B := 12500) (by omega) (by decide)
      · rw [if_neg q]; exact bd_nI (B := 12500) (by omega) (by decide)
    have hp : bd 100000 (fX6_pinWorth (w 4 e)) := by
      unfold fX6_pinWorth
      split
      · constructor <;> decide
      · split
        · constructor <;> decide
        · constructor <;> decide
    exact bd_le (bd_sub (bd_add hv hp (by decide)).2 (bd_nI (B := 320) hc (by decide)) (by decide)).2 (by decide)
  | false =>
    rw [if_neg (by decide)]
    have hc := hpr false
    unfold cpy1 at hc
    rw [if_neg (by decide)] at hc
    unfold vOut
    rw [p2, Int32.neg_mul, mul_nI, ← Int32.zero_sub]
    exact bd_le (bd_sub bd_0 (bd_nI (B := 320) hc (by decide)) (by decide)).2 (by decide)
theorem iN_bd {f : Nat → Int32} (h : ∀ e, e < 10 → bd 130000 (f e)) : ∀ n : Nat, n ≤ 10 → bd (130000 * n) (iN n f) := by
  intro n
  induction n with
  | zero => intro _; exact bd_0
  | succ n ih =>
    intro hn
    show bd _ (iN n f + f n)
    exact bd_le (bd_add (ih (by omega)) (h n (by omega)) (by omega)).2 (by omega)
theorem wos_bd {w : RS} {m : Nat} (hi : IW w) (s : Nat) : bd 1300000 (wos (val1 w m) s) := iN_bd (fun e he => val_bd hi he _) 10 (Nat.le_refl _)
theorem bst_iso {al : Nat → Bool} {wo wo' : Nat → Int32} (h : ∀ s t, wo' s ≤ wo' t ↔ wo s ≤ wo t) : ∀ n, (bst al wo' n).1 = (bst al wo n).1 ∧ (bst al wo' n).2.1 = (bst al wo n).2.1 := by
  intro n
  induction n with
  | zero => exact ⟨rfl, rfl⟩
  | succ n ih =>
    obtain ⟨i1, i2⟩ := ih
    have hc : (al n = true ∧ ((bst al wo' n).1 = false ∨ ¬ wo' n ≤ (bst al wo' n).2.2)) ↔ (al n = true ∧ ((bst al wo n).1 = false ∨ ¬ wo n ≤ (bst al wo n).2.2)) := by
      rw [i1]
      cases q : (bst al wo n).1 with
      | false => simp
      | true =>
        rw [(bst_inv n (i1.trans q)).2.1, (bst_inv n q).2.1, i2, h]
    show (if al n = true ∧ ((bst al wo' n).1 = false ∨ ¬ wo' n ≤ (bst al wo' n).2.2) then (true, n, wo' n) else bst al wo' n).1 = (if al n = true ∧ ((bst al wo n).1 = false ∨ ¬ wo n ≤ (bst al wo n).2.2) then (true, n, wo n) else bst al wo n).1 ∧ (if al n = true ∧ ((bst al wo' n).1 = false ∨ ¬ wo' n ≤ (bst al wo' n).2.2) then (true, n, wo' n) else bst al wo' n).2.1 = (if al n = true ∧ ((bst al wo n).1 = false ∨ ¬ wo n ≤ (bst al wo n).2.2) then (true, n, wo n) else bst al wo n).2.1
    by_cases c : al n = true ∧ ((bst al wo n).1 = false ∨ ¬ wo n ≤ (bst al wo n).2.2)
    · rw [if_pos c, if_pos (hc.mpr c)]
      exact ⟨rfl, rfl⟩
    · rw [if_neg c, if_neg (fun q => c (hc.mp q))]
      exact ⟨i1, i2⟩
/-! the reference's bests -/
def ZZ (mm : RS) (z a : Nat → Int32) : RS := sr (sr mm 0 z) 1 a
theorem ZZ_0 {mm : RS} {z a : Nat → Int32} : ZZ mm z a 0 = z := by unfold ZZ; rw [sr_n (by decide), sr_e]
theorem ZZ_1 {mm : RS} {z a : Nat → Int32} : ZZ mm z a 1 = a := sr_e
theorem ZZ_st {mm : RS} {z a : Nat → Int32} {i : Nat} {x : Int32} : st (ZZ mm z a) 0 i x = ZZ mm (upd z i x) a := by
  apply rs_ext
  intro r k
  unfold ZZ
  rw [st_d]
  by_cases h1 : r = 1
  · subst h1; simp (disch := omega) only [sr_e, sr_n]
  · by_cases h6 : r = 0
    · subst h6; simp (disch := omega) only [sr_e, sr_n]
    · simp (disch := omega) only [sr_n]
theorem ZZ_self {mm : RS} {a : Nat → Int32} : ZZ mm (mm 0) a = sr mm 1 a := by unfold ZZ; rw [sr_self]
theorem shareM {N e : Nat} (he : e < 10) {w mm : RS} {z a : Nat → Int32} (hr : RW w a) (hi : IW w) (x : Int32) : fX12_shareOf N (nI e) x (ZZ mm z a) = some (fX6_heatWorth x (w 3 e)) := by
  unfold fX12_shareOf fX6_heatWorth
  rw [show fX12_isFast N (nI e) (ZZ mm z a) = some (w 3 e) from isFastM he hr hi, bnd_s, Int32.add_zero]
  split <;> rfl
/-- the two bests -/
def zB (tI tO : Bool × Nat × Int32) (z : Nat → Int32) : Prop := z 23 = bstR tI ∧ z 24 = bstR tO ∧ (tI.1 = true → z 25 = tI.2.2) ∧ (tO.1 = true → z 26 = tO.2.2)
theorem bests_ok {N m bu e : Nat} {sh : Int32} (hN : 2000 ≤ N) (hm : m ≤ 10) (hbu : bu < 1000) (he : e < 10) {w mm : RS} {a : Nat → Int32} (hr : RW w a) (hi : IW w) (h23 : w 23 0 = nI m) (h8 : a 8 = nI bu) (hsh : fX6_heatWorth (w 9 e) (w 3 e) = sh) :
    ∃ z, fX12_layBests N (nI e) (sr mm 1 a) = some (ZZ mm z a) ∧ zB (bst (als (fy (may1 w m) e true) (cpy1 w m) bu) (fun s => wos (val1 w m) s - sh) 1024) (bst (als (fy (may1 w m) e false) (cpy1 w m) bu) (wos (val1 w m)) 1024) z ∧ ∀ k, k < 23 → z k = mm 0 k := by
  obtain ⟨aI, hI⟩ : ∃ aI, aI = als (fy (may1 w m) e true) (cpy1 w m) bu := ⟨_, rfl⟩
  obtain ⟨aO, hO⟩ : ∃ aO, aO = als (fy (may1 w m) e false) (cpy1 w m) bu := ⟨_, rfl⟩
  obtain ⟨wI, hwI⟩ : ∃ wI : Nat → Int32, wI = fun s => wos (val1 w m) s - sh := ⟨_, rfl⟩
  obtain ⟨wO, hwO⟩ : ∃ wO, wO = wos (val1 w m) := ⟨_, rfl⟩
  rw [← hI, ← hO, ← hwI, ← hwO]
  have key : ∀ d s k z, 1024 - s = d → s ≤ 1024 → d < k → zB (bst aI wI s) (bst aO wO s) z → (∀ k, k < 23 → z k = mm 0 k) →
      ∃ z', fX12_layBests_L22 N (nI e) k (nI s) (ZZ mm z a) = some (ZZ mm z' a) ∧ zB (bst aI wI 1024) (bst aO wO 1024) z' ∧ ∀ k, k < 23 → z' k = mm 0 k := by
    intro d
    induction d with
    | zero =>
      intro s k z h1 h2 h3 h4 h5
      obtain ⟨k, rfl⟩ : ∃ j, k = j + 1 := ⟨k - 1, by omega⟩
      have : s = 1024 := by omega
      subst this
      exact ⟨z, by rw [fX12_layBests_L22, if_pos (by decide)], h4, h5⟩
    | succ d ih =>
      intro s k z h1 h2 h3 h4 h5
      obtain ⟨k, rfl⟩ : ∃ j, k = j + 1 := ⟨k - 1, by omega⟩
      have hs : s < 1024 := by omega
      have a19 : a (19 + e) = w 9 e := hr.2.1.2.2.2.2.2.1 e he
      have hal : fX12_isAllowed N (nI s) (nI bu) (ZZ mm z a) = some (b2i (als (may1 w m) (cpy1 w m) bu s)) := allowedM (by omega) hm hs hbu hr hi h23
      have hwo : fX12_worthOf N (nI s) (ZZ mm z a) = some (wO s) := by rw [hwO]; exact worthM (by omega) hm hs hr hi h23
      have stp1 : ∀ (al : Nat → Bool) (wo : Nat → Int32), bst al wo (s + 1) = if al s = true ∧ ((bst al wo s).1 = false ∨ ¬ wo s ≤ (bst al wo s).2.2) then (true, s, wo s) else bst al wo s := fun _ _ => rfl
      have nx := ih (s + 1) k
      rw [fX12_layBests_L22, if_neg (fun q => absurd ((le_1024 (by omega)).mp q) (by omega)), ZZ_1, h8, hal, bnd_s, hwo, bnd_s, has10 s hs e he, i19, inb_nI (i := 19 + e) (by omega) (by omega), ck_t, cl_nI (n := 19 + e) (by omega), a19, shareM he hr hi, bnd_s, thn_e, hsh, ZZ_0]
      unfold fX12_layBests_L97 fX12_layBests_L126 fX12_layBests_L136
      rw [thn_e, thn_e, thn_e, thn_e, ZZ_st, ZZ_st, ZZ_st, ZZ_st, j1]
      obtain ⟨z1, z2, z3, z4⟩ := h4
      cases ca : als (may1 w m) (cpy1 w m) bu s with
      | false =>
        rw [if_pos (show b2i false = 0 from rfl)]
        have f1 : aI s = false := by rw [hI]; exact als_fy0 he fun q => by rw [ca] at q; cases q.1
        have f2 : aO s = false := by rw [hO]; exact als_fy0 he fun q => by rw [ca] at q; cases q.1
        refine nx z (by omega) (by omega) (by omega) ?_ h5
        rw [stp1, stp1, if_neg (fun q => by rw [f1] at q; cases q.1), if_neg (fun q => by rw [f2] at q; cases q.1)]
        exact ⟨z1, z2, z3, z4⟩
      | true =>
        rw [if_neg (show ¬ b2i true = 0 by decide)]
        cases cb : bitS s e with
        | false =>
          rw [if_pos (show b2i false = 0 from rfl)]
          have f1 : aI s = false := by rw [hI]; exact als_fy0 he fun q => by rw [cb] at q; cases q.2
          have f2 : aO s = true := by rw [hO]; exact (als_fy he).mpr ⟨ca, cb⟩
          have eI : bst aI wI (s + 1) = bst aI wI s := by rw [stp1, if_neg (fun q => by rw [f1] at q; cases q.1)]
          have take : (bst aO wO s).1 = false ∨ ¬ wO s ≤ (bst aO wO s).2.2 → ∃ z', fX12_layBests_L22 N (nI e) k (nI (s + 1)) (ZZ mm (upd (upd z 24 (nI s)) 26 (wO s)) a) = some (ZZ mm z' a) ∧ zB (bst aI wI 1024) (bst aO wO 1024) z' ∧ ∀ k, k < 23 → z' k = mm 0 k := fun q => by
            refine nx _ (by omega) (by omega) (by omega) ?_ (fun j hj => by rw [upd_n (by omega), upd_n (by omega)]; exact h5 j hj)
            rw [eI, stp1, if_pos ⟨f2, q⟩]
            exact ⟨by rw [upd_n (by decide), upd_n (by decide)]; exact z1, by rw [upd_n (by decide), upd_e]; rfl, fun t => by rw [upd_n (by decide), upd_n (by decide)]; exact z3 t, fun _ => by rw [upd_e]⟩
          cases cf : (bst aO wO s).1 with
          | false =>
            rw [if_pos (show z 24 = -1 by rw [z2]; unfold bstR; rw [cf]; rfl)]
            exact take (Or.inl cf)
          | true =>
            obtain ⟨y1, y2, y3⟩ := bst_inv _ cf
            rw [if_neg (show ¬ z 24 = -1 by rw [z2]; unfold bstR; rw [cf]; exact ne_m1 (by omega)), z4 cf]
            by_cases cw : wO s ≤ (bst aO wO s).2.2
            · rw [if_pos cw]
              refine nx z (by omega) (by omega) (by omega) ?_ h5
              rw [eI, stp1, if_neg (fun q => q.2.elim (fun t => by rw [cf] at t; cases t) (fun t => t cw))]
              exact ⟨z1, z2, z3, z4⟩
            · rw [if_neg cw]
              exact take (Or.inr cw)
        | true =>
          rw [if_neg (show ¬ b2i true = 0 by decide)]
          have f1 : aI s = true := by rw [hI]; exact (als_fy he).mpr ⟨ca, cb⟩
          have f2 : aO s = false := by rw [hO]; exact als_fy0 he fun q => by rw [cb] at q; cases q.2
          have eO : bst aO wO (s + 1) = bst aO wO s := by rw [stp1, if_neg (fun q => by rw [f2] at q; cases q.1)]
          have eW : wO s - sh = wI s := by rw [hwI, hwO]
          rw [eW]
          have take : (bst aI wI s).1 = false ∨ ¬ wI s ≤ (bst aI wI s).2.2 → ∃ z', fX12_layBests_L22 N (nI e) k (nI (s + 1)) (ZZ mm (upd (upd z 23 (nI s)) 25 (wI s)) a) = some (ZZ mm z' a) ∧ zB (bst aI wI 1024) (bst aO wO 1024) z' ∧ ∀ k, k < 23 → z' k = mm 0 k := fun q => by
            refine nx _ (by omega) (by omega) (by omega) ?_ (fun j hj => by rw [upd_n (by omega), upd_n (by omega)]; exact h5 j hj)
            rw [eO, stp1, if_pos ⟨f1, q⟩]
            exact ⟨by rw [upd_n (by decide), upd_e]; rfl, by rw [upd_n (by decide), upd_n (by decide)]; exact z2, fun _ => by rw [upd_e], fun t => by rw [upd_n (by decide), upd_n (by decide)]; exact z4 t⟩
          cases cf : (bst aI wI s).1 with
          | false =>
            rw [if_pos (show z 23 = -1 by rw [z1]; unfold bstR; rw [cf]; rfl)]
            exact take (Or.inl cf)
          | true =>
            obtain ⟨y1, y2, y3⟩ := bst_inv _ cf
            rw [if_neg (show ¬ z 23 = -1 by rw [z1]; unfold bstR; rw [cf]; exact ne_m1 (by omega)), z3 cf]
            by_cases cw : (bst aI wI s).2.2 < wI s
            · rw [if_pos cw]
              exact take (Or.inr (Int32.not_le.mpr cw))
            · rw [if_neg cw]
              refine nx z (by omega) (by omega) (by omega) ?_ h5
              rw [eO, stp1, if_neg (fun q => q.2.elim (fun t => by rw [cf] at t; cases t) (fun t => t (Int32.not_lt.mp cw)))]
              exact ⟨z1, z2, z3, z4⟩
  obtain ⟨z', g1, g2, g3⟩ := key 1024 0 N (upd (upd (upd (upd (mm 0) 23 (-1)) 24 (-1)) 25 0) 26 0) rfl (by omega) (by omega) ⟨by rw [upd_n (by decide), upd_n (by decide), upd_n (by decide), upd_e]; rfl, by rw [upd_n (by decide), upd_n (by decide), upd_e]; rfl, (fun t => by cases t), (fun t => by cases t)⟩ (fun k hk => by rw [upd_n (by omega), upd_n (by omega), upd_n (by omega), upd_n (by omega)])
  refine ⟨z', ?_, g2, g3⟩
  unfold fX12_layBests
  rw [thn_e, thn_e, thn_e, thn_e, ← ZZ_self, ZZ_st, ZZ_st, ZZ_st, ZZ_st]
  exact g1
