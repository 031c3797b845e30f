/-! SHARES AND MEANS: a number's bits -/
theorem b64n : FP.Core.b64.qmin = -1074 ∧ FP.Core.b64.qmax = 971 ∧ FP.Core.b64.p = 53 ∧ FP.Core.b64.tails = 2 ^ 52 ∧ FP.Core.b64.exps = 2048 := by decide
theorem b32n : FP.Core.b32.qmin = -149 ∧ FP.Core.b32.qmax = 104 ∧ FP.Core.b32.p = 24 ∧ FP.Core.b32.tails = 2 ^ 23 ∧ FP.Core.b32.exps = 256 := by decide
/-- c of 53 digits, times 2 to the e - 52 -/
def NF (x : UInt64) (c : Nat) (e : Int) : Prop := FP.Core.val64 x = .fin false c (e - 52) ∧ 2 ^ 52 ≤ c ∧ c < 2 ^ 53 ∧ -100 ≤ e ∧ e ≤ 100
theorem fits64 {c : Nat} {q : Int} (h1 : 2 ^ 52 ≤ c) (h2 : c < 2 ^ 53) (h3 : -1000 ≤ q) (h4 : q ≤ 900) : FP.Core.fits FP.Core.b64 (.fin false c q) := by
  obtain ⟨b1, b2, b3, b4, -⟩ := b64n
  show c < 2 ^ FP.Core.b64.p ∧ FP.Core.b64.qmin ≤ q ∧ q ≤ FP.Core.b64.qmax ∧ (q = FP.Core.b64.qmin ∨ FP.Core.b64.tails ≤ c)
  rw [b1, b2, b3, b4]
  exact ⟨h2, by omega, by omega, Or.inr h1⟩
theorem v2 : FP.Core.val64 4611686018427387904 = .fin false (2 ^ 52) (-51) := by decide +kernel
theorem halfX {x : UInt64} {c : Nat} {e : Int} (h : NF x c e) (he : -100 ≤ e - 1) : NF (FP.ddiv x 4611686018427387904) c (e - 1) := by
  obtain ⟨h1, h2, h3, h4, h5⟩ := h
  refine ⟨?_, h2, h3, he, by omega⟩
  show FP.Core.val64 (FP.Core.ddiv x 4611686018427387904) = _
  rw [FP.Core.val64_ddiv, h1, v2]
  show (if (2 ^ 52 : Nat) = 0 then (if c = 0 then FP.Core.Datum.nan else FP.Core.Datum.inf (false != false)) else FP.Core.roundRatio FP.Core.b64 (false != false) c (2 ^ 52) (e - 52 - -51)) = _
  rw [if_neg (by decide)]
  refine FP.Core.roundRatio_exact FP.Core.good_b64 (by decide) (fits64 h2 h3 (by omega) (by omega)) ?_
  rw [show (e - 52 - -51 - (e - 1 - 52)).toNat = 52 from by omega, show (e - 1 - 52 - (e - 52 - -51)).toNat = 0 from by omega, Nat.pow_zero, Nat.mul_one]
theorem twiceX {x : UInt64} {c : Nat} {e : Int} (h : NF x c e) (he : e + 1 ≤ 100) : NF (FP.dmul x 4611686018427387904) c (e + 1) := by
  obtain ⟨h1, h2, h3, h4, h5⟩ := h
  refine ⟨?_, h2, h3, by omega, he⟩
  show FP.Core.val64 (FP.Core.dmul x 4611686018427387904) = _
  rw [FP.Core.val64_dmul, h1, v2]
  show FP.Core.roundRatio FP.Core.b64 (false != false) (c * 2 ^ 52) 1 (e - 52 + -51) = _
  refine FP.Core.roundRatio_exact FP.Core.good_b64 (by decide) (fits64 h2 h3 (by omega) (by omega)) ?_
  rw [show (e - 52 + -51 - (e + 1 - 52)).toNat = 0 from by omega, show (e + 1 - 52 - (e - 52 + -51)).toNat = 52 from by omega, Nat.pow_zero, Nat.mul_one, Nat.mul_one]
theorem inU (c : Nat) (q m : Int) : FP.Core.signed false (FP.Core.inUnits c q m) = ((c * 2 ^ (q - m).toNat : Nat) : Int) := by
  unfold FP.Core.signed FP.Core.inUnits
  rw [if_neg (by decide)]
theorem cmpE {x y : UInt64} {c : Nat} {e E : Int} (h : NF x c e) (hy : FP.Core.val64 y = .fin false (2 ^ 52) (E - 52)) : (E ≤ e → FP.dcmp x y = some .gt ∨ FP.dcmp x y = some .eq) ∧ (e < E → FP.dcmp x y = some .lt) := by
  obtain ⟨h1, h2, h3, h4, h5⟩ := h
  have e0 : FP.dcmp x y = some (compare (FP.Core.signed false (FP.Core.inUnits c (e - 52) (min (e - 52) (E - 52)))) (FP.Core.signed false (FP.Core.inUnits (2 ^ 52) (E - 52) (min (e - 52) (E - 52))))) := by
    show FP.Core.order (FP.Core.val64 x) (FP.Core.val64 y) = _
    rw [h1, hy]
    rfl
  rw [inU, inU] at e0
  rw [e0]
  constructor
  · intro hle
    have e1 : min (e - 52) (E - 52) = E - 52 := by omega
    rw [e1, Int.sub_self, Int.toNat_zero, Nat.pow_zero, Nat.mul_one]
    have hp : 0 < 2 ^ (e - 52 - (E - 52)).toNat := Nat.two_pow_pos _
    have hm : 2 ^ 52 ≤ c * 2 ^ (e - 52 - (E - 52)).toNat := Nat.le_trans h2 (Nat.le_mul_of_pos_right _ hp)
    by_cases q : (2 ^ 52 : Nat) = c * 2 ^ (e - 52 - (E - 52)).toNat
    · right
      rw [← q]
      exact congrArg some (by rw [FP.Core.compare_ite, if_neg (by omega), if_pos rfl])
    · left
      exact congrArg some (by rw [FP.Core.compare_ite, if_neg (by omega), if_neg (by omega)])
  · intro hlt
    have e1 : min (e - 52) (E - 52) = e - 52 := by omega
    rw [e1, Int.sub_self, Int.toNat_zero, Nat.pow_zero, Nat.mul_one]
    have hp : 2 ^ 1 ≤ 2 ^ (E - 52 - (e - 52)).toNat := Nat.pow_le_pow_right (by decide) (by omega)
    have hm : 2 ^ 52 * 2 ^ 1 ≤ 2 ^ 52 * 2 ^ (E - 52 - (e - 52)).toNat := Nat.mul_le_mul_left _ hp
    have h3' : c < 2 ^ 52 * 2 ^ 1 := by rw [← Nat.pow_add]; exact h3
    exact congrArg some (by rw [FP.Core.compare_ite, if_pos (by omega)])
/-- bits of what is of no sign -/
theorem bits64 {x : UInt64} {c : Nat} {q : Int} (h : FP.Core.val64 x = .fin false c q) : x.toNat = FP.Core.encode FP.Core.b64 (.fin false c q) := by
  have h1 : FP.Core.val64 x ≠ .nan := by rw [h]; exact fun z => by cases z
  have h2 := FP.Core.encode_decode FP.Core.good_b64 x.toNat (by rw [FP.Core.size_b64]; exact x.toNat_lt) h1
  rw [← h2]
  exact congrArg _ h
theorem enc64 {c : Nat} {q : Int} (h : FP.Core.fits FP.Core.b64 (.fin false c q)) : FP.Core.encode FP.Core.b64 (.fin false c q) = if c < 2 ^ 52 then c else ((q + 1074).toNat + 1) * 2 ^ 52 + (c - 2 ^ 52) := by
  obtain ⟨b1, b2, b3, b4, b5⟩ := b64n
  have e : FP.Core.encode FP.Core.b64 (.fin false c q) = if c < FP.Core.b64.tails then (false.toNat * FP.Core.b64.exps + 0) * FP.Core.b64.tails + c else (false.toNat * FP.Core.b64.exps + ((q - FP.Core.b64.qmin).toNat + 1)) * FP.Core.b64.tails + (c - FP.Core.b64.tails) := rfl
  rw [e, b1, b4, b5]
  simp only [Bool.toNat_false, Nat.zero_mul, Nat.zero_add, show q - -1074 = q + 1074 from by omega]
set_option maxRecDepth 100000 in
theorem n64_fin {x : UInt64} {c : Nat} {q : Int} (h : FP.Core.val64 x = .fin false c q) : n64 x = true := by
  have hf : FP.Core.fits FP.Core.b64 (.fin false c q) := h ▸ FP.Core.val64_fits x
  have hb := (bits64 h).trans (enc64 hf)
  obtain ⟨b1, b2, b3, b4, b5⟩ := b64n
  obtain ⟨f1, f2, f3, -⟩ := hf
  rw [b3] at f1
  rw [b2] at f3
  rw [b1] at f2
  have hle : x.toNat ≤ 9218868437227405312 := by
    rw [hb]
    split
    · omega
    · have h9 : ((q + 1074).toNat + 1) * 2 ^ 52 ≤ 2046 * 2 ^ 52 := Nat.mul_le_mul_right _ (by omega)
      have h8 : c - 2 ^ 52 ≤ 1 * 2 ^ 52 := by omega
      exact Nat.le_trans (Nat.add_le_add h9 h8) (by decide)
  unfold n64
  apply decide_eq_true
  rw [UInt64.le_iff_toNat_le, UInt64.toNat_and]
  exact Nat.le_trans Nat.and_le_left hle
theorem NF.n64 {x : UInt64} {c : Nat} {e : Int} (h : NF x c e) : n64 x = true := n64_fin h.1
/-- a number below 2 ^ 52, times 2 ^ -52, as it is rounded: it stays itself -/
theorem low52 {m : Nat} (h0 : 0 < m) (hm : m < 2 ^ 52) : ∃ k, k ≤ 52 ∧ 2 ^ 52 ≤ m * 2 ^ k ∧ m * 2 ^ k < 2 ^ 53 := by
  have h1 : 2 ^ m.log2 ≤ m := Nat.log2_self_le (by omega)
  have h2 : m < 2 ^ (m.log2 + 1) := Nat.lt_log2_self
  have h3 : m.log2 < 52 := (Nat.pow_lt_pow_iff_right (a := 2) (by decide)).mp (Nat.lt_of_le_of_lt h1 hm)
  refine ⟨52 - m.log2, by omega, ?_, ?_⟩
  · have : 2 ^ m.log2 * 2 ^ (52 - m.log2) ≤ m * 2 ^ (52 - m.log2) := Nat.mul_le_mul_right _ h1
    rw [← Nat.pow_add, show m.log2 + (52 - m.log2) = 52 from by omega] at this
    exact this
  · have : m * 2 ^ (52 - m.log2) < 2 ^ (m.log2 + 1) * 2 ^ (52 - m.log2) := Nat.mul_lt_mul_of_pos_right h2 (Nat.two_pow_pos _)
    rw [← Nat.pow_add, show m.log2 + 1 + (52 - m.log2) = 53 from by omega] at this
    exact this
/-- what is left behind the 1, in units of 2 ^ -fb -/
theorem fracX {x y : UInt64} {c fb : Nat} (h : NF x c 0) (hfb : fb ≤ 52) (hy : FP.Core.val64 y = .fin false (2 ^ 52) ((fb : Int) - 52)) :
    n64 (FP.dsub x FP.dconst1) = true ∧ n64 (FP.dmul (FP.dsub x FP.dconst1) y) = true ∧ FP.d2l (FP.dmul (FP.dsub x FP.dconst1) y) = Int64.ofNat ((c - 2 ^ 52) / 2 ^ (52 - fb)) := by
  obtain ⟨h1, h2, h3, -, -⟩ := h
  obtain ⟨m, em⟩ : ∃ m, m = c - 2 ^ 52 := ⟨_, rfl⟩
  have hs : FP.Core.val64 (FP.dsub x FP.dconst1) = FP.Core.roundRatio FP.Core.b64 false m 1 (-52) := by
    show FP.Core.val64 (FP.Core.dsub x FP.Core.dconst1) = _
    rw [FP.Core.val64_dsub, h1, FP.Core.val64_dconst1]
    show FP.Core.round FP.Core.b64 (.fin (FP.Core.sumSign false true (FP.Core.sumUnits false c (0 - 52) true (2 ^ 52) (-52) (min (0 - 52) (-52)))) (FP.Core.sumUnits false c (0 - 52) true (2 ^ 52) (-52) (min (0 - 52) (-52))).natAbs (min (0 - 52) (-52))) = _
    have e1 : FP.Core.sumUnits false c (0 - 52) true (2 ^ 52) (-52) (min (0 - 52) (-52)) = (m : Int) := by
      show FP.Core.signed false (c * 2 ^ 0) + FP.Core.signed true (2 ^ 52 * 2 ^ 0) = _
      unfold FP.Core.signed
      rw [if_neg (by decide), if_pos rfl]
      omega
    have e2 : FP.Core.sumSign false true (m : Int) = false := by
      unfold FP.Core.sumSign
      split
      · rfl
      · exact decide_eq_false (by omega)
    rw [e1, e2, Int.natAbs_natCast]
    rfl
  have hprod : ∀ C Q, FP.Core.val64 (FP.dsub x FP.dconst1) = .fin false C Q → FP.Core.val64 (FP.dmul (FP.dsub x FP.dconst1) y) = FP.Core.roundRatio FP.Core.b64 false (C * 2 ^ 52) 1 (Q + ((fb : Int) - 52)) := fun C Q hv => by
    show FP.Core.val64 (FP.Core.dmul (FP.dsub x FP.dconst1) y) = _
    rw [FP.Core.val64_dmul, hv, hy]
    rfl
  have hd : ∀ C Q, FP.Core.val64 (FP.dmul (FP.dsub x FP.dconst1) y) = .fin false C Q → C * 2 ^ Q.toNat / 2 ^ (-Q).toNat = m / 2 ^ (52 - fb) → FP.d2l (FP.dmul (FP.dsub x FP.dconst1) y) = Int64.ofNat (m / 2 ^ (52 - fb)) := fun C Q hv hq => by
    show FP.Core.toL (FP.Core.val64 (FP.dmul (FP.dsub x FP.dconst1) y)) = _
    rw [hv]
    show Int64.ofInt (max (-2 ^ 63) (min (2 ^ 63 - 1) (FP.Core.signed false (C * 2 ^ Q.toNat / 2 ^ (-Q).toNat)))) = _
    unfold FP.Core.signed
    rw [if_neg (by decide), hq]
    have h7 : m / 2 ^ (52 - fb) ≤ m := Nat.div_le_self _ _
    obtain ⟨X, hX⟩ : ∃ X, X = m / 2 ^ (52 - fb) := ⟨_, rfl⟩
    rw [← hX] at h7 ⊢
    rw [Int.min_eq_right (by omega), Int.max_eq_right (by omega)]
    rfl
  rw [← em]
  by_cases q : m = 0
  · have e1 : FP.Core.val64 (FP.dsub x FP.dconst1) = .fin false 0 FP.Core.b64.qmin := by
      rw [hs, q]
      unfold FP.Core.roundRatio
      rw [if_pos rfl]
    have e2 : FP.Core.val64 (FP.dmul (FP.dsub x FP.dconst1) y) = .fin false 0 FP.Core.b64.qmin := by
      rw [hprod _ _ e1]
      unfold FP.Core.roundRatio
      rw [if_pos (Nat.zero_mul _)]
    exact ⟨n64_fin e1, n64_fin e2, hd _ _ e2 (by rw [q, Nat.zero_mul, Nat.zero_div, Nat.zero_div])⟩
  · obtain ⟨k, k1, k2, k3⟩ := low52 (m := m) (by omega) (by omega)
    have e1 : FP.Core.val64 (FP.dsub x FP.dconst1) = .fin false (m * 2 ^ k) (-52 - (k : Int)) := by
      rw [hs]
      refine FP.Core.roundRatio_exact FP.Core.good_b64 (by decide) (fits64 k2 k3 (by omega) (by omega)) ?_
      rw [show (-52 - (-52 - (k : Int))).toNat = k from by omega, show (-52 - (k : Int) - -52).toNat = 0 from by omega, Nat.pow_zero, Nat.mul_one, Nat.mul_one]
    have e2 : FP.Core.val64 (FP.dmul (FP.dsub x FP.dconst1) y) = .fin false (m * 2 ^ k) ((fb : Int) - 52 - (k : Int)) := by
      rw [hprod _ _ e1]
      refine FP.Core.roundRatio_exact FP.Core.good_b64 (by decide) (fits64 k2 k3 (by omega) (by omega)) ?_
      rw [show (-52 - (k : Int) + ((fb : Int) - 52) - ((fb : Int) - 52 - (k : Int))).toNat = 0 from by omega, show ((fb : Int) - 52 - (k : Int) - (-52 - (k : Int) + ((fb : Int) - 52))).toNat = 52 from by omega, Nat.pow_zero, Nat.mul_one, Nat.mul_one]
    refine ⟨n64_fin e1, n64_fin e2, hd _ _ e2 ?_⟩
    rw [show ((fb : Int) - 52 - (k : Int)).toNat = 0 from by omega, show (-((fb : Int) - 52 - (k : Int))).toNat = (52 - fb) + k from by omega, Nat.pow_zero, Nat.mul_one, Nat.pow_add, Nat.mul_div_mul_right _ _ (Nat.two_pow_pos k)]
theorem v1 : FP.Core.val64 FP.dconst1 = .fin false (2 ^ 52) (-52) := FP.Core.val64_dconst1
def FB (fb : Nat) : Prop := fb = 23 ∨ fb = 52
theorem FB_le {fb : Nat} (h : FB fb) : fb ≤ 52 := by rcases h with rfl | rfl <;> decide
theorem FB_sh {fb : Nat} (h : FB fb) : lshl 1 (nI fb) = lN (2 ^ fb) := by rcases h with rfl | rfl <;> decide +kernel
theorem FB_v {fb : Nat} (h : FB fb) : FP.Core.val64 (FP.l2d (lshl 1 (nI fb))) = .fin false (2 ^ 52) ((fb : Int) - 52) := by rcases h with rfl | rfl <;> decide +kernel
theorem bits84 {N : Nat} {x0 x : UInt64} {y : Int32} {c fb p : Nat} (hf : FB fb) (hp : p < 2147483648) (h : NF x c 0) : fX11_bitsOf_L84 N x0 (nI fb) y x (nI p) = some (lN (p * 2 ^ fb + (c - 2 ^ 52) / 2 ^ (52 - fb))) := by
  obtain ⟨g1, g2, g3⟩ := fracX h (FB_le hf) (FB_v hf)
  unfold fX11_bitsOf_L84
  rw [thn_e, g1, ck_t, g2, ck_t, g3, nI_l hp, FB_sh hf, lN_mul]
  exact congrArg some (lN_add _ _)
theorem bits53 {N : Nat} {x0 : UInt64} {y : Int32} {c fb : Nat} (hf : FB fb) : ∀ (n : Nat) (x : UInt64) (p j k : Nat), NF x c (-(n : Int)) → n + j ≤ 63 → n ≤ p → p < 1000000 → n < k → fX11_bitsOf_L53 N x0 (nI fb) y k x (nI p) (nI j) = some (lN ((p - n) * 2 ^ fb + (c - 2 ^ 52) / 2 ^ (52 - fb))) := by
  intro n
  induction n with
  | zero =>
    intro x p j k h h1 h2 h3 h4
    obtain ⟨k, rfl⟩ : ∃ q, k = q + 1 := ⟨k - 1, by omega⟩
    have hc := (cmpE (E := 0) h v1).1 (by omega)
    rw [fX11_bitsOf_L53, if_neg (show ¬ (64 : Int32) ≤ nI j from nI_ge (b := 64) (by omega) (by decide)), if_pos (by rcases hc with q | q <;> rw [q] <;> decide)]
    exact bits84 hf (by omega) h
  | succ n ih =>
    intro x p j k h h1 h2 h3 h4
    obtain ⟨k, rfl⟩ : ∃ q, k = q + 1 := ⟨k - 1, by omega⟩
    have hc := (cmpE (E := 0) h v1).2 (by omega)
    have ht := twiceX h (by omega)
    rw [show -((n + 1 : Nat) : Int) + 1 = -(n : Int) from by omega] at ht
    rw [fX11_bitsOf_L53, if_neg (show ¬ (64 : Int32) ≤ nI j from nI_ge (b := 64) (by omega) (by decide)), if_neg (by rw [hc]; decide), ht.n64, ck_t, thn_e, n1 (by omega), j1, ih _ (p - 1) (j + 1) k ht (by omega) (by omega) (by omega) (by omega), show p - 1 - n = p - (n + 1) from by omega]
theorem bits17 {N : Nat} (hN : 97 ≤ N) {x0 : UInt64} {y : Int32} {c fb : Nat} (hf : FB fb) : ∀ (n : Nat) (x : UInt64) (p j k : Nat), NF x c (n : Int) → n + j ≤ 63 → p + n < 100000 → n < k → fX11_bitsOf_L17 N x0 (nI fb) y k x (nI p) (nI j) = some (lN ((p + n) * 2 ^ fb + (c - 2 ^ 52) / 2 ^ (52 - fb))) := by
  intro n
  induction n with
  | zero =>
    intro x p j k h h1 h3 h4
    obtain ⟨k, rfl⟩ : ∃ q, k = q + 1 := ⟨k - 1, by omega⟩
    have hc := (cmpE (E := 1) h v2).2 (by omega)
    rw [fX11_bitsOf_L17, if_neg (show ¬ (64 : Int32) ≤ nI j from nI_ge (b := 64) (by omega) (by decide)), if_pos (by rw [hc]; decide)]
    exact bits53 hf 0 x p 0 N h (by omega) (by omega) (by omega) (by omega)
  | succ n ih =>
    intro x p j k h h1 h3 h4
    obtain ⟨k, rfl⟩ : ∃ q, k = q + 1 := ⟨k - 1, by omega⟩
    have hc := (cmpE (E := 1) h v2).1 (by omega)
    have ht := halfX h (by omega)
    rw [show ((n + 1 : Nat) : Int) - 1 = (n : Int) from by omega] at ht
    rw [fX11_bitsOf_L17, if_neg (show ¬ (64 : Int32) ≤ nI j from nI_ge (b := 64) (by omega) (by decide)), if_neg (by rcases hc with q | q <;> rw [q] <;> decide), ht.n64, ck_t, thn_e, j1, j1, ih _ (p + 1) (j + 1) k ht (by omega) (by omega) (by omega), show p + 1 + n = p + (n + 1) from by omega]
theorem cmp0 {x : UInt64} {c : Nat} {q : Int} (h : FP.Core.val64 x = .fin false c q) : FP.dcmp x FP.dconst0 = if c = 0 then some .eq else some .gt := by
  have e0 : FP.dcmp x FP.dconst0 = FP.Core.order (FP.Core.val64 x) (FP.Core.val64 FP.Core.dconst0) := rfl
  rw [e0, h, FP.Core.val64_dconst0]
  show some (compare (FP.Core.signed false (FP.Core.inUnits c q (min q FP.Core.b64.qmin))) (FP.Core.signed false (FP.Core.inUnits 0 FP.Core.b64.qmin (min q FP.Core.b64.qmin)))) = _
  rw [inU, inU, Nat.zero_mul]
  by_cases z : c = 0
  · rw [if_pos z, z, Nat.zero_mul]
    rfl
  · rw [if_neg z]
    have hp : 0 < c * 2 ^ (q - min q FP.Core.b64.qmin).toNat := Nat.mul_pos (by omega) (Nat.two_pow_pos _)
    exact congrArg some (by rw [FP.Core.compare_ite, if_neg (by omega), if_neg (by omega)])
theorem bitsOf_ok {N : Nat} (hN : 97 ≤ N) {x : UInt64} {c fb bias P : Nat} {e : Int} (hf : FB fb) (h : NF x c e) (h1 : -60 ≤ e) (h2 : e ≤ 60) (hb : 100 ≤ bias) (hb2 : bias ≤ 2000) (hP : (P : Int) = bias + e) : fX11_bitsOf N x (nI fb) (nI bias) = some (lN (P * 2 ^ fb + (c - 2 ^ 52) / 2 ^ (52 - fb))) := by
  unfold fX11_bitsOf
  have hc := cmp0 h.1
  have hc0 : 2 ^ 52 ≤ c := h.2.1
  rw [if_neg (by omega)] at hc
  rw [if_pos (by rw [hc]; decide)]
  by_cases q : 0 ≤ e
  · obtain ⟨n, rfl⟩ : ∃ n : Nat, e = (n : Int) := ⟨e.toNat, by omega⟩
    have := bits17 hN hf (y := nI bias) (x0 := x) n x bias 0 N h (by omega) (by omega) (by omega)
    rw [show bias + n = P from by omega] at this
    exact this
  · obtain ⟨n, rfl⟩ : ∃ n : Nat, e = -(n : Int) := ⟨(-e).toNat, by omega⟩
    obtain ⟨k, rfl⟩ : ∃ k, N = k + 1 := ⟨N - 1, by omega⟩
    have hc := (cmpE (E := 1) h v2).2 (by omega)
    rw [fX11_bitsOf_L17, if_neg (by decide), if_pos (by rw [hc]; decide)]
    have := bits53 (N := k + 1) hf (y := nI bias) (x0 := x) n x bias 0 (k + 1) h (by omega) (by omega) (by omega) (by omega)
    rw [show bias - n = P from by omega] at this
    exact this
/-! quotients -/
/-- a format with room for our numbers -/
def OKf (f : FP.Core.Fmt) : Prop := FP.Core.Good f ∧ 24 ≤ f.p ∧ f.qmin ≤ -100 - (f.p : Int) ∧ 100 ≤ f.qmax ∧ f.tails = 2 ^ (f.p - 1)
theorem ok64 : OKf FP.Core.b64 := ⟨FP.Core.good_b64, by decide, by decide, by decide, rfl⟩
theorem ok32 : OKf FP.Core.b32 := ⟨FP.Core.good_b32, by decide, by decide, by decide, rfl⟩
theorem nat_fin {f : FP.Core.Fmt} (hf : OKf f) {A : Nat} (h0 : 0 < A) (hA : A < 2 ^ 24) : ∃ k : Nat, FP.Core.round f (FP.Core.ofInt (A : Int)) = .fin false (A * 2 ^ k) (-(k : Int)) := by
  obtain ⟨f1, f2, f3, f4, f5⟩ := hf
  have h1 : 2 ^ A.log2 ≤ A := Nat.log2_self_le (by omega)
  have h2 : A < 2 ^ (A.log2 + 1) := Nat.lt_log2_self
  have h3 : A.log2 < 24 := (Nat.pow_lt_pow_iff_right (a := 2) (by decide)).mp (Nat.lt_of_le_of_lt h1 hA)
  refine ⟨f.p - 1 - A.log2, ?_⟩
  show FP.Core.roundRatio f (decide ((A : Int) < 0)) ((A : Int).natAbs) 1 0 = _
  rw [Int.natAbs_natCast, show decide ((A : Int) < 0) = false from decide_eq_false (by omega)]
  refine FP.Core.roundRatio_exact f1 (by decide) ⟨?_, by omega, by omega, Or.inr ?_⟩ ?_
  · have : A * 2 ^ (f.p - 1 - A.log2) < 2 ^ (A.log2 + 1) * 2 ^ (f.p - 1 - A.log2) := Nat.mul_lt_mul_of_pos_right h2 (Nat.two_pow_pos _)
    rw [← Nat.pow_add, show A.log2 + 1 + (f.p - 1 - A.log2) = f.p from by omega] at this
    exact this
  · have : 2 ^ A.log2 * 2 ^ (f.p - 1 - A.log2) ≤ A * 2 ^ (f.p - 1 - A.log2) := Nat.mul_le_mul_right _ h1
    rw [← Nat.pow_add, show A.log2 + (f.p - 1 - A.log2) = f.p - 1 from by omega] at this
    rw [f5]
    exact this
  · rw [show ((0 : Int) - -((f.p - 1 - A.log2 : Nat) : Int)).toNat = f.p - 1 - A.log2 from by omega, show (-((f.p - 1 - A.log2 : Nat) : Int) - 0).toNat = 0 from by omega, Nat.pow_zero, Nat.mul_one, Nat.mul_one]
theorem ratio_nf {f : FP.Core.Fmt} (hf : OKf f) {A B : Nat} (hA : 0 < A) (hB : 0 < B) (hA2 : A < 2 ^ 31) (hB2 : B < 2 ^ 31) : ∃ c q, FP.Core.roundRatio f false A B 0 = .fin false c q ∧ 2 ^ (f.p - 1) ≤ c ∧ c < 2 ^ f.p ∧ -31 ≤ q + ((f.p : Int) - 1) ∧ q + ((f.p : Int) - 1) ≤ 32 := by
  have hfit := FP.Core.roundRatio_fits hf.1 false A hB 0
  obtain ⟨f1, f2, f3, f4, f5⟩ := hf
  obtain ⟨s1', s2'⟩ := FP.Core.leading_spec hA hB
  have u1 : FP.Core.Below A B 31 := by
    show A * 2 ^ 0 < B * 2 ^ 31
    have : 1 * 2 ^ 31 ≤ B * 2 ^ 31 := Nat.mul_le_mul_right _ hB
    omega
  have u2 : ¬ FP.Core.Below A B (-31) := by
    show ¬ A * 2 ^ 31 < B * 2 ^ 0
    have : 1 * 2 ^ 31 ≤ A * 2 ^ 31 := Nat.mul_le_mul_right _ hA
    omega
  have l1 := FP.Core.lt_of_below s1' u1
  have l2 := FP.Core.lt_of_below u2 s2'
  have hq : FP.Core.quantum f A B 0 = FP.Core.leading A B - ((f.p : Int) - 1) := by
    unfold FP.Core.quantum
    omega
  unfold FP.Core.roundRatio at hfit ⊢
  rw [if_neg (by omega)] at hfit ⊢
  unfold FP.Core.roundAt FP.Core.settle FP.Core.bound at hfit ⊢
  rw [hq] at hfit ⊢
  split at hfit
  · rename_i h
    rw [if_pos h]
    rw [if_pos (by omega)] at hfit ⊢
    obtain ⟨t1, t2, t3, t4⟩ := hfit
    refine ⟨_, _, rfl, ?_, t1, by omega, by omega⟩
    rcases t4 with t4 | t4
    · omega
    · rw [← f5]; exact t4
  · rename_i h
    rw [if_neg h]
    rw [if_pos (by omega)] at hfit ⊢
    obtain ⟨t1, t2, t3, t4⟩ := hfit
    refine ⟨_, _, rfl, ?_, t1, by omega, by omega⟩
    rw [f5]
    exact Nat.le_refl _
theorem quot_eq {f : FP.Core.Fmt} {A B k l : Nat} (hB : 0 < B) : FP.Core.quotient f (.fin false (A * 2 ^ k) (-(k : Int))) (.fin false (B * 2 ^ l) (-(l : Int))) = FP.Core.roundRatio f false A B 0 := by
  have hp : 0 < B * 2 ^ l := Nat.mul_pos hB (Nat.two_pow_pos _)
  show (if B * 2 ^ l = 0 then _ else FP.Core.roundRatio f (false != false) (A * 2 ^ k) (B * 2 ^ l) (-(k : Int) - -(l : Int))) = _
  rw [if_neg (by omega)]
  refine FP.Core.roundRatio_congr hp hB ?_
  have e : A * 2 ^ k * B * 2 ^ (-(k : Int) - -(l : Int) - 0).toNat = A * B * 2 ^ (k + (-(k : Int) - -(l : Int) - 0).toNat) := by
    rw [Nat.pow_add]
    simp only [Nat.mul_comm, Nat.mul_left_comm, Nat.mul_assoc]
  have e' : A * (B * 2 ^ l) * 2 ^ (0 - (-(k : Int) - -(l : Int))).toNat = A * B * 2 ^ (l + (0 - (-(k : Int) - -(l : Int))).toNat) := by
    rw [Nat.pow_add]
    simp only [Nat.mul_comm, Nat.mul_left_comm, Nat.mul_assoc]
  rw [e, e']
  congr 2
  omega
theorem int_nI {n : Nat} (h : n < 2147483648) : (nI n).toInt = (n : Int) := nI_toInt h
theorem divD {A B : Nat} (hA : 0 < A) (hB : 0 < B) (hA2 : A < 2 ^ 24) (hB2 : B < 2 ^ 24) : ∃ c e, NF (FP.ddiv (FP.i2d (nI A)) (FP.i2d (nI B))) c e ∧ -31 ≤ e ∧ e ≤ 32 := by
  obtain ⟨k, hk⟩ := nat_fin ok64 hA hA2
  obtain ⟨l, hl⟩ := nat_fin ok64 hB hB2
  obtain ⟨c, q, h1, h2, h3, h4, h5⟩ := ratio_nf ok64 hA hB (by omega) (by omega)
  obtain ⟨b1, b2, b3, b4, b5⟩ := b64n
  rw [b3] at h2 h3 h4 h5
  refine ⟨c, q + 52, ⟨?_, h2, h3, by omega, by omega⟩, by omega, by omega⟩
  show FP.Core.val64 (FP.Core.ddiv (FP.Core.i2d (nI A)) (FP.Core.i2d (nI B))) = _
  rw [FP.Core.val64_ddiv, FP.Core.val64_i2d, FP.Core.val64_i2d, int_nI (by omega), int_nI (by omega), hk, hl, quot_eq hB, h1, show q + 52 - 52 = q from by omega]
theorem divF {A B : Nat} (hA : 0 < A) (hB : 0 < B) (hA2 : A < 2 ^ 24) (hB2 : B < 2 ^ 24) : ∃ c q, FP.Core.val32 (FP.fdiv (FP.i2f (nI A)) (FP.i2f (nI B))) = .fin false c q ∧ 2 ^ 23 ≤ c ∧ c < 2 ^ 24 ∧ -54 ≤ q ∧ q ≤ 9 := by
  obtain ⟨k, hk⟩ := nat_fin ok32 hA hA2
  obtain ⟨l, hl⟩ := nat_fin ok32 hB hB2
  obtain ⟨c, q, h1, h2, h3, h4, h5⟩ := ratio_nf ok32 hA hB (by omega) (by omega)
  obtain ⟨b1, b2, b3, b4, b5⟩ := b32n
  rw [b3] at h2 h3 h4 h5
  refine ⟨c, q, ?_, h2, h3, by omega, by omega⟩
  show FP.Core.val32 (FP.Core.fdiv (FP.Core.i2f (nI A)) (FP.Core.i2f (nI B))) = _
  rw [FP.Core.val32_fdiv, FP.Core.val32_i2f, FP.Core.val32_i2f, int_nI (by omega), int_nI (by omega), hk, hl, quot_eq hB, h1]
theorem bits32 {x : UInt32} {c : Nat} {q : Int} (h : FP.Core.val32 x = .fin false c q) : x.toNat = FP.Core.encode FP.Core.b32 (.fin false c q) := by
  have h1 : FP.Core.val32 x ≠ .nan := by rw [h]; exact fun z => by cases z
  have h2 := FP.Core.encode_decode FP.Core.good_b32 x.toNat (by rw [FP.Core.size_b32]; exact x.toNat_lt) h1
  rw [← h2]
  exact congrArg _ h
theorem enc32 {c : Nat} {q : Int} (h1 : 2 ^ 23 ≤ c) : FP.Core.encode FP.Core.b32 (.fin false c q) = ((q + 149).toNat + 1) * 2 ^ 23 + (c - 2 ^ 23) := by
  obtain ⟨b1, b2, b3, b4, b5⟩ := b32n
  have e : FP.Core.encode FP.Core.b32 (.fin false c q) = if c < FP.Core.b32.tails then (false.toNat * FP.Core.b32.exps + 0) * FP.Core.b32.tails + c else (false.toNat * FP.Core.b32.exps + ((q - FP.Core.b32.qmin).toNat + 1)) * FP.Core.b32.tails + (c - FP.Core.b32.tails) := rfl
  rw [e, b1, b4, b5, if_neg (by omega), Bool.toNat_false, Nat.zero_mul, Nat.zero_add, show q - -149 = q + 149 from by omega]
section Q5
variable {N : Nat} {nn xx mm : RS} {a : Nat → Int32}
theorem z64 {x : UInt64} (h : x = 0) : FP.Core.val64 x = .fin false 0 (-1074) := by rw [h]; decide +kernel
theorem div0 {B : Nat} (hB : 0 < B) (hB2 : B < 2 ^ 24) : FP.Core.val64 (FP.ddiv (FP.i2d (nI 0)) (FP.i2d (nI B))) = .fin false 0 (-1074) := by
  obtain ⟨l, hl⟩ := nat_fin ok64 hB hB2
  have hp : 0 < B * 2 ^ l := Nat.mul_pos hB (Nat.two_pow_pos _)
  show FP.Core.val64 (FP.Core.ddiv (FP.Core.i2d (nI 0)) (FP.Core.i2d (nI B))) = _
  rw [FP.Core.val64_ddiv, FP.Core.val64_i2d (nI B), int_nI (by omega), hl, show FP.Core.val64 (FP.Core.i2d (nI 0)) = .fin false 0 (-1074) from by decide +kernel]
  show (if B * 2 ^ l = 0 then _ else FP.Core.roundRatio FP.Core.b64 (false != false) 0 (B * 2 ^ l) (-1074 - -(l : Int))) = _
  rw [if_neg (by omega)]
  unfold FP.Core.roundRatio
  rw [if_pos rfl, b64n.1]
  rfl
theorem div0F {B : Nat} (hB : 0 < B) (hB2 : B < 2 ^ 24) : FP.Core.val32 (FP.fdiv (FP.i2f (nI 0)) (FP.i2f (nI B))) = .fin false 0 (-149) := by
  obtain ⟨l, hl⟩ := nat_fin ok32 hB hB2
  have hp : 0 < B * 2 ^ l := Nat.mul_pos hB (Nat.two_pow_pos _)
  show FP.Core.val32 (FP.Core.fdiv (FP.Core.i2f (nI 0)) (FP.Core.i2f (nI B))) = _
  rw [FP.Core.val32_fdiv, FP.Core.val32_i2f (nI B), int_nI (by omega), hl, show FP.Core.val32 (FP.Core.i2f (nI 0)) = .fin false 0 (-149) from by decide +kernel]
  show (if B * 2 ^ l = 0 then _ else FP.Core.roundRatio FP.Core.b32 (false != false) 0 (B * 2 ^ l) (-149 - -(l : Int))) = _
  rw [if_neg (by omega)]
  unfold FP.Core.roundRatio
  rw [if_pos rfl, b32n.1]
  rfl
theorem u64_eq {x : UInt64} {n : Nat} (h : x.toNat = n) : x.toInt64 = lN n := by
  have : x = UInt64.ofNat n := by rw [← h, UInt64.ofNat_toNat]
  rw [this]
  rfl
theorem u32_eq {x : UInt32} {n : Nat} (h : x.toNat = n) : x.toInt32 = nI n := by
  have : x = UInt32.ofNat n := by rw [← h, UInt32.ofNat_toNat]
  rw [this]
  rfl
theorem nanD {x : UInt64} {c : Nat} {q : Int} (h : FP.Core.val64 x = .fin false c q) : fJxe99ae_doubleToLongBits_ccdee x = x.toInt64 := by
  have : FP.dcmp x x = some .eq := FP.Core.dcmp_self (by rw [h]; exact fun z => by cases z)
  unfold fJxe99ae_doubleToLongBits_ccdee fJxe99ae_isNaN_b9ae7
  rw [this, if_pos (show (if Op.cmpValue (some Ordering.eq) CmpOp.l = 0 then (0 : Int32) else 1) = 0 from by decide)]
theorem nanF {x : UInt32} {c : Nat} {q : Int} (h : FP.Core.val32 x = .fin false c q) : fJxf58ca_floatToIntBits_5c35a x = x.toInt32 := by
  have : FP.fcmp x x = some .eq := FP.Core.fcmp_self (by rw [h]; exact fun z => by cases z)
  unfold fJxf58ca_floatToIntBits_5c35a fJxf58ca_isNaN_12338
  rw [this, if_pos (show (if Op.cmpValue (some Ordering.eq) CmpOp.l = 0 then (0 : Int32) else 1) = 0 from by decide)]
theorem q_mean {K : Nat} (hN : 97 ≤ N) (hK : K < 2 ^ 24) (hr : RW nn a) (hi : IK K nn) : ∃ r, fX11_mean N xx nn = some r ∧ fX12_mean N (sr mm 1 a) = some r := by
  obtain ⟨⟨C, hC, c3⟩, n, f, hn, hf, c7, c8⟩ := hi
  have r13 := row13_iff.mp hr.1
  have a6 : a 6 = nn 1 3 := r13.2.2.2.1
  have a10 : a 10 = nn 1 7 := r13.2.2.2.2.2.2.2.1
  unfold fX11_mean fX12_mean
  rw [thn_e, sr_e, a6, a10, c3, c7]
  by_cases q : n = 0
  · subst q
    exact ⟨0, if_pos rfl, if_pos rfl⟩
  · rw [if_neg (nI_ne0 (by omega) (by omega)), if_neg (nI_ne0 (by omega) (by omega))]
    by_cases z : C = 0
    · subst z
      have hv := div0 (B := n) (by omega) (by omega)
      have hb := cmp0 hv
      rw [if_pos rfl] at hb
      refine ⟨0, ?_, ?_⟩
      · rw [n64_fin hv, ck_t]
        unfold fX11_bitsOf
        rw [if_neg (by rw [hb]; decide), bnd_s]
      · have hx := (bits64 hv).trans (enc64 (hv ▸ FP.Core.val64_fits _))
        rw [if_pos (by decide)] at hx
        rw [n64_fin hv, ck_t, nanD hv, u64_eq hx]
        rfl
    · obtain ⟨c, e, h, e1, e2⟩ := divD (A := C) (B := n) (by omega) (by omega) (by omega) (by omega)
      obtain ⟨P, hP⟩ : ∃ P : Nat, (P : Int) = ((1023 : Nat) : Int) + e := ⟨(1023 + e).toNat, by omega⟩
      have hb : fX11_bitsOf N (FP.ddiv (FP.i2d (nI C)) (FP.i2d (nI n))) 52 1023 = _ := bitsOf_ok hN (fb := 52) (bias := 1023) (Or.inr rfl) h (by omega) (by omega) (by decide) (by decide) hP
      refine ⟨_, by rw [h.n64, ck_t, hb, bnd_s], ?_⟩
      have hx := (bits64 h.1).trans (enc64 (fits64 h.2.1 h.2.2.1 (by omega) (by omega)))
      have := h.2.1
      rw [if_neg (by omega), show (e - 52 + 1074).toNat + 1 = P from by omega] at hx
      rw [h.n64, ck_t, nanD h.1, u64_eq hx, show (52 : Nat) - 52 = 0 from rfl, Nat.pow_zero, Nat.div_one]
theorem n32_fin {x : UInt32} {n : Nat} (h : x.toNat = n) (hn : n ≤ 2139095040) : n32 x = true := by
  unfold n32
  apply decide_eq_true
  rw [UInt32.le_iff_toNat_le, UInt32.toNat_and]
  exact Nat.le_trans Nat.and_le_left (by rw [h]; exact hn)
theorem f2dX {x : UInt32} {c : Nat} {q : Int} (h : FP.Core.val32 x = .fin false c q) : FP.Core.val64 (FP.f2d x) = FP.Core.roundRatio FP.Core.b64 false c 1 q := by
  have hn : FP.Core.fIsNaN x = false := by
    show decide (FP.Core.val32 x = .nan) = false
    rw [h]
    rfl
  unfold FP.f2d
  rw [hn]
  show FP.Core.val64 (FP.Core.f2d x) = _
  rw [FP.Core.val64_f2d, h]
  rfl
set_option maxRecDepth 100000 in
theorem q_share {K : Nat} (hN : 97 ≤ N) (hK : K < 2 ^ 24) (hr : RW nn a) (hi : IK K nn) : ∃ r, fX11_share N xx nn = some r ∧ fX12_share N (sr mm 1 a) = some r := by
  obtain ⟨-, n, f, hn, hf, c7, c8⟩ := hi
  have r13 := row13_iff.mp hr.1
  have a11 : a 11 = nn 1 8 := r13.2.2.2.2.2.2.2.2.1
  have a10 : a 10 = nn 1 7 := r13.2.2.2.2.2.2.2.1
  unfold fX11_share fX12_share
  rw [thn_e, sr_e, a11, a10, c8, c7]
  by_cases q : n = 0
  · subst q
    exact ⟨0, if_pos rfl, if_pos rfl⟩
  · rw [if_neg (nI_ne0 (by omega) (by omega)), if_neg (nI_ne0 (by omega) (by omega))]
    by_cases z : f = 0
    · subst z
      have hv := div0F (B := n) (by omega) (by omega)
      have hx := (bits32 hv).trans (show FP.Core.encode FP.Core.b32 (.fin false 0 (-149)) = 0 from by decide +kernel)
      have hd : FP.Core.val64 (FP.f2d (FP.fdiv (FP.i2f (nI 0)) (FP.i2f (nI n)))) = .fin false 0 FP.Core.b64.qmin := by
        rw [f2dX hv]
        unfold FP.Core.roundRatio
        rw [if_pos rfl]
      have hb := cmp0 hd
      rw [if_pos rfl] at hb
      refine ⟨0, ?_, ?_⟩
      · rw [n32_fin hx (by decide), ck_t, thn_e, n64_fin hd, ck_t]
        unfold fX11_bitsOf
        rw [if_neg (by rw [hb]; decide), bnd_s]
        rfl
      · rw [n32_fin hx (by decide), ck_t, nanF hv, u32_eq hx]
        rfl
    · obtain ⟨c, q1, h, h1, h2, h3, h4⟩ := divF (A := f) (B := n) (by omega) (by omega) (by omega) (by omega)
      have hx := (bits32 h).trans (enc32 h1)
      have hle : ((q1 + 149).toNat + 1) * 2 ^ 23 ≤ 200 * 2 ^ 23 := Nat.mul_le_mul_right _ (by omega)
      have hle2 : ((q1 + 149).toNat + 1) * 2 ^ 23 + (c - 2 ^ 23) ≤ 2139095040 := Nat.le_trans (Nat.add_le_add hle (show c - 2 ^ 23 ≤ 1 * 2 ^ 23 by omega)) (by decide)
      have hd : NF (FP.f2d (FP.fdiv (FP.i2f (nI f)) (FP.i2f (nI n)))) (c * 2 ^ 29) (q1 + 23) := by
        refine ⟨?_, by omega, by omega, by omega, by omega⟩
        rw [f2dX h]
        refine FP.Core.roundRatio_exact FP.Core.good_b64 (by decide) (fits64 (by omega) (by omega) (by omega) (by omega)) ?_
        rw [show (q1 - (q1 + 23 - 52)).toNat = 29 from by omega, show (q1 + 23 - 52 - q1).toNat = 0 from by omega, Nat.pow_zero, Nat.mul_one, Nat.mul_one]
      obtain ⟨P, hP⟩ : ∃ P : Nat, (P : Int) = ((127 : Nat) : Int) + (q1 + 23) := ⟨(127 + (q1 + 23)).toNat, by omega⟩
      have hb : fX11_bitsOf N (FP.f2d (FP.fdiv (FP.i2f (nI f)) (FP.i2f (nI n)))) 23 127 = _ := bitsOf_ok hN (fb := 23) (bias := 127) (Or.inl rfl) hd (by omega) (by omega) (by decide) (by decide) hP
      refine ⟨_, by rw [n32_fin hx hle2, ck_t, thn_e, hd.n64, ck_t, hb, bnd_s], ?_⟩
      rw [n32_fin hx hle2, ck_t, nanF h, u32_eq hx, lN_i]
      have e9 : ((q1 + 149).toNat + 1) * 2 ^ 23 + (c - 2 ^ 23) = P * 2 ^ 23 + (c * 2 ^ 29 - 2 ^ 52) / 2 ^ (52 - 23) := by
        have e8 : (c * 2 ^ 29 - 2 ^ 52) / 2 ^ (52 - 23) = c - 2 ^ 23 := by
          rw [show (2 : Nat) ^ 52 = 2 ^ 23 * 2 ^ 29 from by decide, ← Nat.sub_mul]
          exact Nat.mul_div_cancel _ (by decide)
        rw [show (q1 + 149).toNat + 1 = P from by omega, e8]
      rw [e9]
end Q5
section W3
variable {N K : Nat} {xx nn ii rr mm : RS} {hh jj : HS} {tx : TXS}
theorem T_mean (hN : 300000 ≤ N) (hK : K < 2 ^ 24) (h : INV K xx nn ii rr hh jj tx mm) : ∃ r, fX11_mean N xx nn = some r ∧ fX12_mean N mm = some r := by
  have q : ∃ r, fX11_mean N xx nn = some r ∧ fX12_mean N (sr mm 1 (mm 1)) = some r := q_mean (by omega) hK h.2.1.1 h.2.1.2.2
  rwa [sr_self] at q
theorem T_share (hN : 300000 ≤ N) (hK : K < 2 ^ 24) (h : INV K xx nn ii rr hh jj tx mm) : ∃ r, fX11_share N xx nn = some r ∧ fX12_share N mm = some r := by
  have q : ∃ r, fX11_share N xx nn = some r ∧ fX12_share N (sr mm 1 (mm 1)) = some r := q_share (by omega) hK h.2.1.1 h.2.1.2.2
  rwa [sr_self] at q
end W3
section LW
variable {p : Program} {l : Launch} {e : Env} {s : State} {m : MethodId} {below : List Frame} {meth : Method} {c : Code} {Q : State → Prop} {E : GE} {N b L : Nat} {xs : Nat → Int32} {ax an asx ay ap ar ai am : Nat → Nat} {ah aj ta : Nat → Nat → Nat} {tx : TXS} {ye : Nat → Value} {xx yy nn ss ii pp rr : RS} {hh jj : HS} {mm : RS} {k : Nat} {H : Heap} {locs : List Loc} {ls : Array Slot}
set_option maxHeartbeats 8000000 in
set_option maxRecDepth 100000 in
theorem case_share (h : LCX p l e s m below meth c Q E N b L xs ax an asx ay ap ar ai am ah aj ta tx ye xx yy nn ss ii pp rr hh jj mm k H locs ls) : W p l e room_1 s m #[Value.ref b] below meth c H locs (1926 + 3 * k) (49660 + 603 * k) Q (F0 m 1464 ls []) := by
  obtain ⟨C, hz, hX, hbl, hL, hk, hN, hG, hI, hl, nx⟩ := h
  have hx := C.1.1
  have hb : c.code = cL_law := C.1.2.1
  have hbA : ¬ (fun q : Nat => s.heap.size ≤ q) b := Nat.not_le.mpr hbl
  obtain ⟨r, e1, e2⟩ := T_share hN (show 16200 * k < 2 ^ 24 by omega) hI
  have hI1 := hI.le (L := 16200 * k + 16200) (by omega)
  refine lv_aload_n hx hb dL_law_1464 rfl (lv_at hl 1 rfl) ?_
  refine gF_i (ws' := (rX E ax an asx ay ap ar ai ah aj (tfOf ta tx) xx ++ (rY E ay ye yy ++ (rW E an nn ++ (rW E asx ss ++ (rW E ai ii ++ (rP E ap pp ++ (rQ E ta tx ++ (rR E ar rr ++ (rH E ah hh ++ (rH E aj jj ++ (rM E am mm ++ [])))))))))))) C hG (pin (pout (pin (pout (pout (pout (pout (pout (pout (pout (pout pnil))))))))))) (List.Perm.symm (pin (pout (pin (pout (pout (pout (pout (pout (pout (pout (pout pnil)))))))))))) (gR_VP (As := []) (rest := []) C hz hl.1 hG (pin (pout (pin (pout (pout (pout (pout (pout (pout (pout (pout pnil))))))))))) (c_X11_share l E ax an asx ay ap ar ai ah aj (tfOf ta tx) N xx nn e1 H.size) okX11_share q1299 0 rfl rfl rfl (Nat.le_of_ble_eq_true rfl) ⟨Nat.le_of_ble_eq_true rfl, Nat.le_of_ble_eq_true rfl⟩ ⟨by show 1926 + 3 * k + 0 ≤ 600000; omega, by show 49660 + 603 * k + 0 ≤ 7302250; omega⟩ dL_law_1465) (fun H locs _ hG => ?_)
  refine g_int (v := r) rfl ?_
  refine lv_aload_n hx hb dL_law_1468 rfl (lv_at hl 2 rfl) ?_
  refine gF_i (ws' := (rX E ax an asx ay ap ar ai ah aj (tfOf ta tx) xx ++ (rY E ay ye yy ++ (rW E an nn ++ (rW E asx ss ++ (rW E ai ii ++ (rP E ap pp ++ (rQ E ta tx ++ (rR E ar rr ++ (rH E ah hh ++ (rH E aj jj ++ (rM E am mm ++ [])))))))))))) C hG (pout (pout (pout (pout (pout (pout (pout (pout (pout (pout (pin pnil))))))))))) (List.Perm.symm (pout (pout (pout (pout (pout (pout (pout (pout (pout (pout (pin pnil)))))))))))) (gR_VP (As := []) (rest := [.int r]) C hz hl.1 hG (pout (pout (pout (pout (pout (pout (pout (pout (pout (pout (pin pnil))))))))))) (c_X12_share l E am N mm e2 H.size) okX12_share q1952 0 rfl rfl rfl (Nat.le_of_ble_eq_true rfl) ⟨Nat.le_of_ble_eq_true rfl, Nat.le_of_ble_eq_true rfl⟩ ⟨by show 1926 + 3 * k + 0 + 0 ≤ 600000; omega, by show 49660 + 603 * k + 0 + 0 ≤ 7302250; omega⟩ dL_law_1469) (fun H locs _ hG => ?_)
  refine g_int (v := r) rfl ?_
  refine lv_icmp_eq (tgt := 1596) hx hb dL_law_1472 (by decide) (fun _ => ?_) (fun q => absurd rfl q)
  refine W.widen (k := 1926 + 3 * (k + 1)) (n := 49660 + 603 * (k + 1)) (by omega) (by omega) ?_
  exact nx _ _ _ _ _ _ _ _ _ _ _ _ _ _ _ _ hG hI1 hl
set_option maxHeartbeats 8000000 in
set_option maxRecDepth 100000 in
theorem case_mean (h : LCX p l e s m below meth c Q E N b L xs ax an asx ay ap ar ai am ah aj ta tx ye xx yy nn ss ii pp rr hh jj mm k H locs ls) : W p l e room_1 s m #[Value.ref b] below meth c H locs (1926 + 3 * k) (49660 + 603 * k) Q (F0 m 1477 ls []) := by
  obtain ⟨C, hz, hX, hbl, hL, hk, hN, hG, hI, hl, nx⟩ := h
  have hx := C.1.1
  have hb : c.code = cL_law := C.1.2.1
  have hbA : ¬ (fun q : Nat => s.heap.size ≤ q) b := Nat.not_le.mpr hbl
  obtain ⟨r, e1, e2⟩ := T_mean hN (show 16200 * k < 2 ^ 24 by omega) hI
  have hI1 := hI.le (L := 16200 * k + 16200) (by omega)
  refine lv_aload_n hx hb dL_law_1477 rfl (lv_at hl 1 rfl) ?_
  refine gF_l (ws' := (rX E ax an asx ay ap ar ai ah aj (tfOf ta tx) xx ++ (rY E ay ye yy ++ (rW E an nn ++ (rW E asx ss ++ (rW E ai ii ++ (rP E ap pp ++ (rQ E ta tx ++ (rR E ar rr ++ (rH E ah hh ++ (rH E aj jj ++ (rM E am mm ++ [])))))))))))) C hG (pin (pout (pin (pout (pout (pout (pout (pout (pout (pout (pout pnil))))))))))) (List.Perm.symm (pin (pout (pin (pout (pout (pout (pout (pout (pout (pout (pout pnil)))))))))))) (gR_VP (As := []) (rest := []) C hz hl.1 hG (pin (pout (pin (pout (pout (pout (pout (pout (pout (pout (pout pnil))))))))))) (c_X11_mean l E ax an asx ay ap ar ai ah aj (tfOf ta tx) N xx nn e1 H.size) okX11_mean q1307 0 rfl rfl rfl (Nat.le_of_ble_eq_true rfl) ⟨Nat.le_of_ble_eq_true rfl, Nat.le_of_ble_eq_true rfl⟩ ⟨by show 1926 + 3 * k + 0 ≤ 600000; omega, by show 49660 + 603 * k + 0 ≤ 7302250; omega⟩ dL_law_1478) (fun H locs hG => ?_)
  refine g_long (v := r) rfl ?_
  refine lv_aload_n hx hb dL_law_1481 rfl (lv_at hl 2 rfl) ?_
  refine gF_l (ws' := (rX E ax an asx ay ap ar ai ah aj (tfOf ta tx) xx ++ (rY E ay ye yy ++ (rW E an nn ++ (rW E asx ss ++ (rW E ai ii ++ (rP E ap pp ++ (rQ E ta tx ++ (rR E ar rr ++ (rH E ah hh ++ (rH E aj jj ++ (rM E am mm ++ [])))))))))))) C hG (pout (pout (pout (pout (pout (pout (pout (pout (pout (pout (pin pnil))))))))))) (List.Perm.symm (pout (pout (pout (pout (pout (pout (pout (pout (pout (pout (pin pnil)))))))))))) (gR_VP (As := []) (rest := [.long r]) C hz hl.1 hG (pout (pout (pout (pout (pout (pout (pout (pout (pout (pout (pin pnil))))))))))) (c_X12_mean l E am N mm e2 H.size) okX12_mean q1966 0 rfl rfl rfl (Nat.le_of_ble_eq_true rfl) ⟨Nat.le_of_ble_eq_true rfl, Nat.le_of_ble_eq_true rfl⟩ ⟨by show 1926 + 3 * k + 0 + 0 ≤ 600000; omega, by show 49660 + 603 * k + 0 + 0 ≤ 7302250; omega⟩ dL_law_1482) (fun H locs hG => ?_)
  refine g_long (v := r) rfl ?_
  refine W.lcmp hx hb dL_law_1485 ?_
  refine g_int (v := 0) ((lg_cmp_eq _ _).mpr rfl).symm ?_
  refine lv_if_eq (tgt := 1596) hx hb dL_law_1486 (by decide) (fun _ => ?_) (fun q => absurd rfl q)
  refine W.widen (k := 1926 + 3 * (k + 1)) (n := 49660 + 603 * (k + 1)) (by omega) (by omega) ?_
  exact nx _ _ _ _ _ _ _ _ _ _ _ _ _ _ _ _ hG hI1 hl
end LW
