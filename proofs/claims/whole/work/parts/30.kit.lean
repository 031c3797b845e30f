/-! PURE KIT: runs of the pure functions, numbers, rows -/
def ok {α : Type} (o : Option α) (P : α → Prop) : Prop := ∃ x, o = some x ∧ P x
theorem ok_of {α : Type} {o : Option α} {x : α} {P : α → Prop} (h : o = some x) (hp : P x) : ok o P := ⟨x, h, hp⟩
theorem ok_some {α : Type} {x : α} {P : α → Prop} : ok (some x) P ↔ P x := ⟨fun ⟨_, h, hp⟩ => (Option.some.inj h) ▸ hp, fun h => ⟨x, rfl, h⟩⟩
theorem ok_mono {α : Type} {o : Option α} {P Q : α → Prop} (h : ok o P) (hq : ∀ x, P x → Q x) : ok o Q := by
  obtain ⟨x, h1, h2⟩ := h
  exact ⟨x, h1, hq x h2⟩
theorem ck_t {ρ : Type} {k : Option ρ} : ck true k = k := rfl
theorem bnd_s {α ρ : Type} {a : α} {k : α → Option ρ} : bnd (some a) k = k a := rfl
theorem thn_e {α β : Type} {a : α} {k : α → β} : thn a k = k a := rfl
theorem ok_bnd {α β : Type} {o : Option α} {k : α → Option β} {P : β → Prop} {Q : α → Prop} (h : ok o Q) (hk : ∀ x, Q x → ok (k x) P) : ok (bnd o k) P := by
  obtain ⟨x, h1, h2⟩ := h
  rw [h1]
  exact hk x h2
theorem ok_ck {ρ : Type} {b : Bool} {k : Option ρ} {P : ρ → Prop} (hb : b = true) (h : ok k P) : ok (ck b k) P := by
  rw [hb]
  exact h
theorem ok_if {α : Type} {c : Prop} [Decidable c] {a b : Option α} {P : α → Prop} (h1 : c → ok a P) (h2 : ¬ c → ok b P) : ok (if c then a else b) P := by
  by_cases h : c
  · rw [if_pos h]; exact h1 h
  · rw [if_neg h]; exact h2 h
/-- a loop over nI i, i from a to n -/
theorem lp {S α : Type} (f : Nat → Int32 → S → Option α) (I : Nat → S → Prop) (P : α → Prop) (n : Nat)
    (hs : ∀ k i s, i < n → I i s → ∃ s', I (i + 1) s' ∧ f (k + 1) (nI i) s = f k (nI (i + 1)) s') (he : ∀ k s, I n s → ok (f (k + 1) (nI n) s) P) :
    ∀ d i k s, n - i = d → i ≤ n → d < k → I i s → ok (f k (nI i) s) P := by
  intro d
  induction d with
  | zero =>
    intro i k s h1 h2 h3 h4
    obtain ⟨k, rfl⟩ : ∃ j, k = j + 1 := ⟨k - 1, by omega⟩
    have : i = n := by omega
    subst this
    exact he k s h4
  | succ d ih =>
    intro i k s h1 h2 h3 h4
    obtain ⟨k, rfl⟩ : ∃ j, k = j + 1 := ⟨k - 1, by omega⟩
    obtain ⟨s', h5, h6⟩ := hs k i s (by omega) h4
    rw [h6]
    exact ih (i + 1) k s' (by omega) (by omega) (by omega) h5
/-! numbers -/
theorem cl_nI {n : Nat} (h : n < 2147483648) : (nI n).toNatClampNeg = n := nI_clamp h
theorem inb_nI {i n : Nat} (h : i < n) (hn : n < 2147483648) : inb (nI i) n = true := decide_eq_true (nI_in h hn)
theorem le_nI {a b : Nat} (ha : a < 2147483648) (hb : b < 2147483648) : nI a ≤ nI b ↔ a ≤ b := nI_leI ha hb
theorem lt_nI {a b : Nat} (ha : a < 2147483648) (hb : b < 2147483648) : nI a < nI b ↔ a < b := nI_ltI ha hb
theorem eq_nI {a b : Nat} (ha : a < 2147483648) (hb : b < 2147483648) : nI a = nI b ↔ a = b := nI_eq ha hb
theorem sub_nI {a b : Nat} (h : b ≤ a) : nI a - nI b = nI (a - b) := by
  have : nI (a - b) + nI b = nI a := by rw [nI_add]; congr 1; omega
  rw [← this]
  exact Int32.add_sub_cancel _ _
theorem mul_nI (a b : Nat) : nI a * nI b = nI (a * b) := (Int32.ofNat_mul a b).symm
theorem test1 (a b c : Int32) : (a + 7 : Int32) = 7 * (b + 1) + 8 * c ↔ a = 7 * b + 8 * c := by grind
theorem test2 (a b : Int32) (h : 0 ≤ a) (h2 : a < 10) : a + 1 ≤ 10 := by grind
theorem test3 (a : Int32) (h : a &&& 1 = 0) : (a &&& 1) + 1 = 1 := by grind
theorem test4 (f : Nat → Int32) (e j : Nat) (he : e < 10) (hj : j < 10) : upd f (19 + e) 5 (29 + j) = f (29 + j) := by grind [upd]
/-! index terms -/
theorem i19 (k : Nat) : (19 : Int32) + nI k = nI (19 + k) := nI_add 19 k
theorem i29 (k : Nat) : (29 : Int32) + nI k = nI (29 + k) := nI_add 29 k
theorem i39 (k : Nat) : (39 : Int32) + nI k = nI (39 + k) := nI_add 39 k
theorem i49 (k : Nat) : (49 : Int32) + nI k = nI (49 + k) := nI_add 49 k
theorem i59 (k : Nat) : (59 : Int32) + nI k = nI (59 + k) := nI_add 59 k
theorem i69 (k : Nat) : (69 : Int32) + nI k = nI (69 + k) := nI_add 69 k
theorem i79 (k : Nat) : (79 : Int32) + nI k = nI (79 + k) := nI_add 79 k
theorem i89 (k : Nat) : (89 : Int32) + nI k = nI (89 + k) := nI_add 89 k
theorem i99 (k : Nat) : (99 : Int32) + nI k = nI (99 + k) := nI_add 99 k
theorem i109 (k : Nat) : (109 : Int32) + nI k = nI (109 + k) := nI_add 109 k
theorem i119 (k : Nat) : (119 : Int32) + nI k = nI (119 + k) := nI_add 119 k
theorem i129 (k : Nat) : (129 : Int32) + nI k = nI (129 + k) := nI_add 129 k
theorem i139 (k : Nat) : (139 : Int32) + nI k = nI (139 + k) := nI_add 139 k
theorem i162 (k : Nat) : (162 : Int32) + nI k = nI (162 + k) := nI_add 162 k
theorem i185 (k : Nat) : (185 : Int32) + nI k = nI (185 + k) := nI_add 185 k
theorem i194 (k : Nat) : (194 : Int32) + nI k = nI (194 + k) := nI_add 194 k
theorem i200 (k : Nat) : (200 : Int32) + nI k = nI (200 + k) := nI_add 200 k
theorem i240 (k : Nat) : (240 : Int32) + nI k = nI (240 + k) := nI_add 240 k
theorem i340 (k : Nat) : (340 : Int32) + nI k = nI (340 + k) := nI_add 340 k
theorem i3 (k : Nat) : (3 : Int32) + nI k = nI (3 + k) := nI_add 3 k
theorem i7 (k : Nat) : (7 : Int32) + nI k = nI (7 + k) := nI_add 7 k
theorem m2 (k : Nat) : (2 : Int32) * nI k = nI (2 * k) := mul_nI 2 k
theorem mr2 (k : Nat) : nI k * (2 : Int32) = nI (2 * k) := (mul_nI k 2).trans (by rw [Nat.mul_comm])
theorem m4 (k : Nat) : (4 : Int32) * nI k = nI (4 * k) := mul_nI 4 k
theorem mr4 (k : Nat) : nI k * (4 : Int32) = nI (4 * k) := (mul_nI k 4).trans (by rw [Nat.mul_comm])
theorem m10 (k : Nat) : (10 : Int32) * nI k = nI (10 * k) := mul_nI 10 k
theorem mr10 (k : Nat) : nI k * (10 : Int32) = nI (10 * k) := (mul_nI k 10).trans (by rw [Nat.mul_comm])
theorem j1 (k : Nat) : nI k + (1 : Int32) = nI (k + 1) := nI_add k 1
theorem j2 (k : Nat) : nI k + (2 : Int32) = nI (k + 2) := nI_add k 2
theorem j3 (k : Nat) : nI k + (3 : Int32) = nI (k + 3) := nI_add k 3
theorem j4 (k : Nat) : nI k + (4 : Int32) = nI (k + 4) := nI_add k 4
theorem s1 {k : Nat} (h : 1 ≤ k) : nI k - (1 : Int32) = nI (k - 1) := sub_nI h
theorem s2 {k : Nat} (h : 2 ≤ k) : nI k - (2 : Int32) = nI (k - 2) := sub_nI h
theorem s4 {k : Nat} (h : 4 ≤ k) : nI k - (4 : Int32) = nI (k - 4) := sub_nI h
theorem n1 {k : Nat} (h : 1 ≤ k) : nI k + (-1 : Int32) = nI (k - 1) := by rw [← sub_nI h]; exact (Int32.sub_eq_add_neg (a := nI k) (b := 1)).symm
theorem lei {n k : Nat} (h : k < 2147483648) (x : Int32) (hx : x = nI n) (hn : n < 2147483648) : x ≤ nI k ↔ n ≤ k := by rw [hx]; exact le_nI hn h
theorem gei {n k : Nat} (h : k < 2147483648) (x : Int32) (hx : x = nI n) (hn : n < 2147483648) : nI k ≤ x ↔ k ≤ n := by rw [hx]; exact le_nI h hn
theorem le_3 {k : Nat} (h : k < 2147483648) : (3 : Int32) ≤ nI k ↔ 3 ≤ k := le_nI (a := 3) (by decide) h
theorem ge_3 {k : Nat} (h : k < 2147483648) : nI k ≤ (3 : Int32) ↔ k ≤ 3 := le_nI (b := 3) h (by decide)
theorem eq_3 {k : Nat} (h : k < 2147483648) : nI k = (3 : Int32) ↔ k = 3 := eq_nI (b := 3) h (by decide)
theorem lt_3 {k : Nat} (h : k < 2147483648) : nI k < (3 : Int32) ↔ k < 3 := lt_nI (b := 3) h (by decide)
theorem le_4 {k : Nat} (h : k < 2147483648) : (4 : Int32) ≤ nI k ↔ 4 ≤ k := le_nI (a := 4) (by decide) h
theorem ge_4 {k : Nat} (h : k < 2147483648) : nI k ≤ (4 : Int32) ↔ k ≤ 4 := le_nI (b := 4) h (by decide)
theorem eq_4 {k : Nat} (h : k < 2147483648) : nI k = (4 : Int32) ↔ k = 4 := eq_nI (b := 4) h (by decide)
theorem lt_4 {k : Nat} (h : k < 2147483648) : nI k < (4 : Int32) ↔ k < 4 := lt_nI (b := 4) h (by decide)
theorem le_9 {k : Nat} (h : k < 2147483648) : (9 : Int32) ≤ nI k ↔ 9 ≤ k := le_nI (a := 9) (by decide) h
theorem ge_9 {k : Nat} (h : k < 2147483648) : nI k ≤ (9 : Int32) ↔ k ≤ 9 := le_nI (b := 9) h (by decide)
theorem eq_9 {k : Nat} (h : k < 2147483648) : nI k = (9 : Int32) ↔ k = 9 := eq_nI (b := 9) h (by decide)
theorem lt_9 {k : Nat} (h : k < 2147483648) : nI k < (9 : Int32) ↔ k < 9 := lt_nI (b := 9) h (by decide)
theorem le_10 {k : Nat} (h : k < 2147483648) : (10 : Int32) ≤ nI k ↔ 10 ≤ k := le_nI (a := 10) (by decide) h
theorem ge_10 {k : Nat} (h : k < 2147483648) : nI k ≤ (10 : Int32) ↔ k ≤ 10 := le_nI (b := 10) h (by decide)
theorem eq_10 {k : Nat} (h : k < 2147483648) : nI k = (10 : Int32) ↔ k = 10 := eq_nI (b := 10) h (by decide)
theorem lt_10 {k : Nat} (h : k < 2147483648) : nI k < (10 : Int32) ↔ k < 10 := lt_nI (b := 10) h (by decide)
theorem le_23 {k : Nat} (h : k < 2147483648) : (23 : Int32) ≤ nI k ↔ 23 ≤ k := le_nI (a := 23) (by decide) h
theorem ge_23 {k : Nat} (h : k < 2147483648) : nI k ≤ (23 : Int32) ↔ k ≤ 23 := le_nI (b := 23) h (by decide)
theorem eq_23 {k : Nat} (h : k < 2147483648) : nI k = (23 : Int32) ↔ k = 23 := eq_nI (b := 23) h (by decide)
theorem lt_23 {k : Nat} (h : k < 2147483648) : nI k < (23 : Int32) ↔ k < 23 := lt_nI (b := 23) h (by decide)
theorem le_25 {k : Nat} (h : k < 2147483648) : (25 : Int32) ≤ nI k ↔ 25 ≤ k := le_nI (a := 25) (by decide) h
theorem ge_25 {k : Nat} (h : k < 2147483648) : nI k ≤ (25 : Int32) ↔ k ≤ 25 := le_nI (b := 25) h (by decide)
theorem eq_25 {k : Nat} (h : k < 2147483648) : nI k = (25 : Int32) ↔ k = 25 := eq_nI (b := 25) h (by decide)
theorem lt_25 {k : Nat} (h : k < 2147483648) : nI k < (25 : Int32) ↔ k < 25 := lt_nI (b := 25) h (by decide)
theorem le_300 {k : Nat} (h : k < 2147483648) : (300 : Int32) ≤ nI k ↔ 300 ≤ k := le_nI (a := 300) (by decide) h
theorem ge_300 {k : Nat} (h : k < 2147483648) : nI k ≤ (300 : Int32) ↔ k ≤ 300 := le_nI (b := 300) h (by decide)
theorem eq_300 {k : Nat} (h : k < 2147483648) : nI k = (300 : Int32) ↔ k = 300 := eq_nI (b := 300) h (by decide)
theorem lt_300 {k : Nat} (h : k < 2147483648) : nI k < (300 : Int32) ↔ k < 300 := lt_nI (b := 300) h (by decide)
theorem le_301 {k : Nat} (h : k < 2147483648) : (301 : Int32) ≤ nI k ↔ 301 ≤ k := le_nI (a := 301) (by decide) h
theorem ge_301 {k : Nat} (h : k < 2147483648) : nI k ≤ (301 : Int32) ↔ k ≤ 301 := le_nI (b := 301) h (by decide)
theorem eq_301 {k : Nat} (h : k < 2147483648) : nI k = (301 : Int32) ↔ k = 301 := eq_nI (b := 301) h (by decide)
theorem lt_301 {k : Nat} (h : k < 2147483648) : nI k < (301 : Int32) ↔ k < 301 := lt_nI (b := 301) h (by decide)
theorem le_1024 {k : Nat} (h : k < 2147483648) : (1024 : Int32) ≤ nI k ↔ 1024 ≤ k := le_nI (a := 1024) (by decide) h
theorem ge_1024 {k : Nat} (h : k < 2147483648) : nI k ≤ (1024 : Int32) ↔ k ≤ 1024 := le_nI (b := 1024) h (by decide)
theorem eq_1024 {k : Nat} (h : k < 2147483648) : nI k = (1024 : Int32) ↔ k = 1024 := eq_nI (b := 1024) h (by decide)
theorem lt_1024 {k : Nat} (h : k < 2147483648) : nI k < (1024 : Int32) ↔ k < 1024 := lt_nI (b := 1024) h (by decide)
theorem le_9999 {k : Nat} (h : k < 2147483648) : (9999 : Int32) ≤ nI k ↔ 9999 ≤ k := le_nI (a := 9999) (by decide) h
theorem ge_9999 {k : Nat} (h : k < 2147483648) : nI k ≤ (9999 : Int32) ↔ k ≤ 9999 := le_nI (b := 9999) h (by decide)
theorem eq_9999 {k : Nat} (h : k < 2147483648) : nI k = (9999 : Int32) ↔ k = 9999 := eq_nI (b := 9999) h (by decide)
theorem lt_9999 {k : Nat} (h : k < 2147483648) : nI k < (9999 : Int32) ↔ k < 9999 := lt_nI (b := 9999) h (by decide)
theorem eq_0 {k : Nat} (h : k < 2147483648) : nI k = (0 : Int32) ↔ k = 0 := eq_nI (b := 0) h (by decide)
theorem eq_1 {k : Nat} (h : k < 2147483648) : nI k = (1 : Int32) ↔ k = 1 := eq_nI (b := 1) h (by decide)
theorem nlt_0 {k : Nat} (h : k < 2147483648) : ¬ nI k < (0 : Int32) := nI_pos h
theorem ge_0 {k : Nat} (h : k < 2147483648) : nI k ≤ (0 : Int32) ↔ k = 0 := (le_nI (b := 0) h (by decide)).trans Nat.le_zero
theorem ne_m1 {k : Nat} (h : k < 2147483648) : nI k ≠ (-1 : Int32) := fun q => nI_pos h (by rw [q]; decide)
