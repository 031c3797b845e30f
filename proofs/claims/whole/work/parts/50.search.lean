/-! THE PLANNER: the best set, found by the class's search and by going through all -/
def bst (al : Nat → Bool) (wo : Nat → Int32) : Nat → Bool × Nat × Int32
  | 0 => (false, 0, -2147483648)
  | n + 1 => if al n = true ∧ ((bst al wo n).1 = false ∨ ¬ wo n ≤ (bst al wo n).2.2) then (true, n, wo n) else bst al wo n
theorem bst_inv {al : Nat → Bool} {wo : Nat → Int32} : ∀ n, (bst al wo n).1 = true → (bst al wo n).2.1 < n ∧ (bst al wo n).2.2 = wo (bst al wo n).2.1 ∧ al (bst al wo n).2.1 = true := by
  intro n
  induction n with
  | zero => intro h; cases h
  | succ n ih =>
    intro h
    unfold bst at h ⊢
    by_cases c : al n = true ∧ ((bst al wo n).1 = false ∨ ¬ wo n ≤ (bst al wo n).2.2)
    · rw [if_pos c]
      exact ⟨Nat.lt_succ_self n, rfl, c.1⟩
    · rw [if_neg c] at h ⊢
      obtain ⟨h1, h2, h3⟩ := ih h
      exact ⟨by omega, h2, h3⟩
theorem bst_skip {al : Nat → Bool} {wo : Nat → Int32} {a : Nat} : ∀ d, (∀ n, a ≤ n → n < a + d → al n = false) → bst al wo (a + d) = bst al wo a := by
  intro d
  induction d with
  | zero => intro _; rfl
  | succ d ih =>
    intro h
    show (if al (a + d) = true ∧ ((bst al wo (a + d)).1 = false ∨ ¬ wo (a + d) ≤ (bst al wo (a + d)).2.2) then (true, a + d, wo (a + d)) else bst al wo (a + d)) = _
    rw [if_neg (fun q => by rw [h (a + d) (by omega) (by omega)] at q; cases q.1)]
    exact ih fun n h1 h2 => h n h1 (by omega)
def bstR (t : Bool × Nat × Int32) : Int32 := if t.1 then nI t.2.1 else -1
theorem bestM {N m bu : Nat} (hN : 2000 ≤ N) (hm : m ≤ 10) (hbu : bu < 1000) {w mm : RS} {a : Nat → Int32} (hr : RW w a) (hi : IW w) (h23 : w 23 0 = nI m) : fX12_bestSet N (nI bu) (sr mm 1 a) = some (bstR (bst (als (may1 w m) (cpy1 w m) bu) (wos (val1 w m)) 1024)) := by
  have key : ∀ d s k, 1024 - s = d → s ≤ 1024 → d < k → fX12_bestSet_L4 N (nI bu) (sr mm 1 a) k (bstR (bst (als (may1 w m) (cpy1 w m) bu) (wos (val1 w m)) s)) (nI s) = some (bstR (bst (als (may1 w m) (cpy1 w m) bu) (wos (val1 w m)) 1024)) := by
    intro d
    induction d with
    | zero =>
      intro s k h1 h2 h3
      obtain ⟨k, rfl⟩ : ∃ j, k = j + 1 := ⟨k - 1, by omega⟩
      have : s = 1024 := by omega
      subst this
      rw [fX12_bestSet_L4, if_pos (show (1024 : Int32) ≤ nI 1024 from by decide)]
    | succ d ih =>
      intro s k h1 h2 h3
      obtain ⟨k, rfl⟩ : ∃ j, k = j + 1 := ⟨k - 1, by omega⟩
      have i2 := ih (s + 1) k (by omega) (by omega) (by omega)
      rw [fX12_bestSet_L4, if_neg (fun q => absurd ((le_1024 (by omega)).mp q) (by omega)), allowedM (by omega) hm (by omega) hbu hr hi h23, bnd_s]
      unfold fX12_bestSet_L38 fX12_bestSet_L40
      rw [j1]
      have hinv := bst_inv (al := als (may1 w m) (cpy1 w m) bu) (wo := wos (val1 w m)) s
      rw [show bst (als (may1 w m) (cpy1 w m) bu) (wos (val1 w m)) (s + 1) = (if als (may1 w m) (cpy1 w m) bu s = true ∧ ((bst (als (may1 w m) (cpy1 w m) bu) (wos (val1 w m)) s).1 = false ∨ ¬ wos (val1 w m) s ≤ (bst (als (may1 w m) (cpy1 w m) bu) (wos (val1 w m)) s).2.2) then (true, s, wos (val1 w m) s) else bst (als (may1 w m) (cpy1 w m) bu) (wos (val1 w m)) s) from rfl] at i2
      generalize bst (als (may1 w m) (cpy1 w m) bu) (wos (val1 w m)) s = t at *
      cases ca : als (may1 w m) (cpy1 w m) bu s with
      | false =>
        rw [if_neg (fun q => by rw [ca] at q; cases q.1)] at i2
        rw [if_pos (show b2i false = 0 from rfl)]
        exact i2
      | true =>
        rw [if_neg (show ¬ b2i true = 0 by decide)]
        cases cf : t.1 with
        | false =>
          rw [if_pos ⟨ca, Or.inl cf⟩] at i2
          rw [if_pos (show bstR t = -1 by unfold bstR; rw [cf]; rfl)]
          exact i2
        | true =>
          obtain ⟨z1, z2, z3⟩ := hinv cf
          have eR : bstR t = nI t.2.1 := by unfold bstR; rw [cf]; rfl
          rw [eR]
          rw [if_neg (ne_m1 (by omega)), worthM (by omega) hm (by omega) hr hi h23, bnd_s, worthM (by omega) hm (by omega) hr hi h23, bnd_s]
          by_cases cw : wos (val1 w m) s ≤ wos (val1 w m) t.2.1
          · rw [if_pos cw]
            rw [if_neg (fun q => q.2.elim (fun z => by rw [cf] at z; cases z) (fun z => z (by rw [z2]; exact cw)))] at i2
            rw [← eR]
            exact i2
          · rw [if_neg cw]
            rw [if_pos ⟨ca, Or.inr (fun z => cw (by rw [z2] at z; exact z))⟩] at i2
            exact i2
  exact key 1024 0 N rfl (by omega) (by omega)
/-! sums from the top -/
def hS : Nat → (Nat → Nat) → Nat
  | 0, _ => 0
  | j + 1, f => hS j f + f (9 - j)
def hI : Nat → (Nat → Int32) → Int32
  | 0, _ => 0
  | j + 1, f => hI j f + f (9 - j)
theorem hS_sN (f : Nat → Nat) : ∀ j, j ≤ 10 → hS j f + sN (10 - j) f = sN 10 f := by
  intro j
  induction j with
  | zero => intro _; exact Nat.zero_add _
  | succ j ih =>
    intro h
    rw [← ih (by omega), show 10 - j = (10 - (j + 1)) + 1 from by omega]
    show hS j f + f (9 - j) + _ = hS j f + (sN (10 - (j + 1)) f + f (10 - (j + 1)))
    rw [show 10 - (j + 1) = 9 - j from by omega]
    omega
theorem hI_iN (f : Nat → Int32) : ∀ j, j ≤ 10 → hI j f + iN (10 - j) f = iN 10 f := by
  intro j
  induction j with
  | zero => intro _; exact Int32.zero_add _
  | succ j ih =>
    intro h
    rw [← ih (by omega), show 10 - j = (10 - (j + 1)) + 1 from by omega]
    show hI j f + f (9 - j) + _ = hI j f + (iN (10 - (j + 1)) f + f (10 - (j + 1)))
    rw [show 10 - (j + 1) = 9 - j from by omega, Int32.add_assoc, Int32.add_comm (f (9 - j))]
theorem hS_cg {f g : Nat → Nat} : ∀ j, j ≤ 10 → (∀ e, 10 - j ≤ e → e < 10 → f e = g e) → hS j f = hS j g := by
  intro j
  induction j with
  | zero => intro _ _; rfl
  | succ j ih =>
    intro h h2
    show hS j f + f (9 - j) = hS j g + g (9 - j)
    rw [ih (by omega) fun e h3 h4 => h2 e (by omega) h4, h2 (9 - j) (by omega) (by omega)]
theorem hI_cg {f g : Nat → Int32} : ∀ j, j ≤ 10 → (∀ e, 10 - j ≤ e → e < 10 → f e = g e) → hI j f = hI j g := by
  intro j
  induction j with
  | zero => intro _ _; rfl
  | succ j ih =>
    intro h h2
    show hI j f + f (9 - j) = hI j g + g (9 - j)
    rw [ih (by omega) fun e h3 h4 => h2 e (by omega) h4, h2 (9 - j) (by omega) (by omega)]
theorem sub_neg {a b : Nat} (ha : a < 1000000) (hb : b < 1000000) : nI a - nI b < 0 ↔ a < b := by
  rw [Int32.lt_iff_toInt_lt, Int32.toInt_sub, nI_toInt (by omega), nI_toInt (by omega), Int32.toInt_zero]
  unfold Int.bmod
  dsimp only
  split <;> omega
theorem bnd_id {α : Type} {o : Option α} : (bnd o fun r => some r) = o := by cases o <;> rfl
set_option maxRecDepth 100000 in
theorem orbit : ∀ l, l < 10 → ∀ s, s < 1024 → s % 2 ^ (l + 1) = 0 → nI s ||| (1 <<< ((nI l : Int32) &&& 31)) = nI (s + 2 ^ l) := by decide +kernel
theorem bit_lo {s l : Nat} (h : s % 2 ^ (l + 1) = 0) : bitS s l = false ∧ bitS (s + 2 ^ l) l = true := by
  obtain ⟨q, rfl⟩ : ∃ q, s = 2 ^ (l + 1) * q := ⟨s / 2 ^ (l + 1), by have := Nat.div_add_mod s (2 ^ (l + 1)); omega⟩
  have hp : 0 < 2 ^ l := Nat.two_pow_pos l
  unfold bitS
  rw [Nat.pow_succ, Nat.mul_assoc, Nat.mul_div_cancel_left _ hp, show 2 ^ l * (2 * q) + 2 ^ l = 2 ^ l * (2 * q + 1) from by rw [Nat.mul_add, Nat.mul_one], Nat.mul_div_cancel_left _ hp]
  constructor
  · exact decide_eq_false (by omega)
  · exact decide_eq_true (by omega)
theorem bit_hi {s l e r : Nat} (h : s % 2 ^ l = 0) (he : l ≤ e) (hr : r < 2 ^ l) : bitS (s + r) e = bitS s e := by
  obtain ⟨q, rfl⟩ : ∃ q, s = 2 ^ l * q := ⟨s / 2 ^ l, by have := Nat.div_add_mod s (2 ^ l); omega⟩
  have hp : 0 < 2 ^ l := Nat.two_pow_pos l
  unfold bitS
  have e1 : (2 ^ l * q + r) / 2 ^ e = 2 ^ l * q / 2 ^ e := by
    rw [show 2 ^ e = 2 ^ l * 2 ^ (e - l) from by rw [← Nat.pow_add]; congr 1; omega, ← Nat.div_div_eq_div_mul, ← Nat.div_div_eq_div_mul, Nat.mul_div_cancel_left _ hp, Nat.mul_add_div hp, Nat.div_eq_of_lt hr, Nat.add_zero]
  rw [e1]
