/-! THE RELATION of a World and the reference's row; what holds of every World -/
def row (n o : Nat) (f a : Nat → Int32) : Prop := ∀ i, i < n → a (o + i) = f i
def rws (n o s : Nat) (f a : Nat → Int32) : Prop := ∀ i, i < n → a (o + s * i) = f i
theorem upd_e (f : Nat → Int32) (k : Nat) (x : Int32) : upd f k x k = x := if_pos rfl
theorem upd_n {f : Nat → Int32} {k j : Nat} {x : Int32} (h : j ≠ k) : upd f k x j = f j := if_neg h
theorem row_out {n o k : Nat} {f a : Nat → Int32} {x : Int32} (hk : k < o ∨ o + n ≤ k) (h : row n o f a) : row n o f (upd a k x) := fun i hi => by rw [upd_n (by omega)]; exact h i hi
theorem row_set {n o k i : Nat} {f a : Nat → Int32} {x : Int32} (hk : k = o + i) (h : row n o f a) : row n o (upd f i x) (upd a k x) := fun j hj => by
  subst hk
  by_cases e : j = i
  · subst e; rw [upd_e, upd_e]
  · rw [upd_n e, upd_n (by omega)]; exact h j hj
theorem rws_out {n o s k : Nat} {f a : Nat → Int32} {x : Int32} (hk : ∀ i, i < n → o + s * i ≠ k) (h : rws n o s f a) : rws n o s f (upd a k x) := fun i hi => by rw [upd_n (hk i hi)]; exact h i hi
theorem rws_set {n o s k i : Nat} {f a : Nat → Int32} {x : Int32} (hs : 0 < s) (hk : k = o + s * i) (h : rws n o s f a) : rws n o s (upd f i x) (upd a k x) := fun j hj => by
  subst hk
  by_cases e : j = i
  · subst e; rw [upd_e, upd_e]
  · rw [upd_n e, upd_n (fun q => e (Nat.eq_of_mul_eq_mul_left hs (by omega)))]; exact h j hj
theorem row_cg {n o : Nat} {f f' a a' : Nat → Int32} (hf : ∀ i, i < n → f' i = f i) (ha : ∀ k, o ≤ k → k < o + n → a' k = a k) (h : row n o f a) : row n o f' a' := fun i hi => by rw [hf i hi, ha _ (by omega) (by omega)]; exact h i hi
theorem rws_cg {n o s : Nat} {f f' a a' : Nat → Int32} (hf : ∀ i, i < n → f' i = f i) (ha : ∀ i, i < n → a' (o + s * i) = a (o + s * i)) (h : rws n o s f a) : rws n o s f' a' := fun i hi => by rw [hf i hi, ha i hi]; exact h i hi
/-! writes in regions -/
theorem sr_e {w : RS} {c : Nat} {f : Nat → Int32} : sr w c f c = f := by show cond (Nat.beq c c) f (w c) = f; rw [Nat.beq_refl]; rfl
theorem sr_n {w : RS} {c d : Nat} {f : Nat → Int32} (h : d ≠ c) : sr w c f d = w d := by
  show cond (Nat.beq d c) f (w d) = w d
  cases hb : Nat.beq d c with
  | false => rfl
  | true => exact absurd (Nat.eq_of_beq_eq_true hb) h
theorem st_e {w : RS} {c i : Nat} {x : Int32} : st w c i x c = upd (w c) i x := sr_e
theorem st_n {w : RS} {c d i : Nat} {x : Int32} (h : d ≠ c) : st w c i x d = w d := sr_n h
theorem sr_self (w : RS) (c : Nat) : sr w c (w c) = w := by
  funext d
  by_cases h : d = c
  · subst h; exact sr_e
  · exact sr_n h
theorem sr_sr {w : RS} {c : Nat} {f g : Nat → Int32} : sr (sr w c f) c g = sr w c g := by
  funext d
  by_cases h : d = c
  · subst h; rw [sr_e, sr_e]
  · rw [sr_n h, sr_n h, sr_n h]
theorem st_sr {w : RS} {c i : Nat} {f : Nat → Int32} {x : Int32} : st (sr w c f) c i x = sr w c (upd f i x) := by
  show sr (sr w c f) c (upd (sr w c f c) i x) = _
  rw [sr_sr, sr_e]
/-! extents -/
def szN (e : Nat) : Nat := e % 4 + 1
def stN (e : Nat) : Nat := 10 * (e / 4) + e % 4 * (e % 4 + 1) / 2
theorem sizeT_N : ∀ e, e < 10 → sizeT e = nI (szN e) := by decide +kernel
theorem startT_N : ∀ e, e < 10 → startT e = nI (stN e) := by decide +kernel
theorem szN_le (e : Nat) : 1 ≤ szN e ∧ szN e ≤ 4 := by unfold szN; omega
theorem stN_le : ∀ e, e < 10 → stN e + szN e ≤ 23 := by decide +kernel
theorem stN_lt {e b : Nat} (he : e < 10) (hb : b < szN e) : stN e + b < 23 := by have := stN_le e he; omega
def posE (p : Nat) : Nat := [0, 1, 1, 2, 2, 2, 3, 3, 3, 3, 4, 5, 5, 6, 6, 6, 7, 7, 7, 7, 8, 9, 9].getD p 0
theorem posE_N : ∀ e, e < 10 → ∀ b, b < 4 → b < szN e → posE (stN e + b) = e := by decide +kernel
theorem pos_of : ∀ p, p < 23 → posE p < 10 ∧ stN (posE p) ≤ p ∧ p - stN (posE p) < szN (posE p) := by decide +kernel
theorem pos_inj {e b f c : Nat} (he : e < 10) (hb : b < szN e) (hf : f < 10) (hc : c < szN f) (h : stN e + b = stN f + c) : e = f ∧ b = c := by
  have h1 := posE_N e he b (by have := szN_le e; omega) hb
  have h2 := posE_N f hf c (by have := szN_le f; omega) hc
  have h3 : e = f := by rw [← h1, ← h2, h]
  subst h3
  exact ⟨rfl, by omega⟩
theorem sizeM_N : ∀ e, e < 10 → fX12_sizeOf (nI e) = nI (szN e) := by decide +kernel
theorem firstM_N : ∀ e, e < 10 → fX12_firstOf (nI e) = nI (stN e) := by decide +kernel
/-! the relation -/
def RE (w : RS) (a : Nat → Int32) : Prop := ∀ e, e < 10 → w 3 e = 1 → w 8 e = 7 * a (119 + e) + 8 * a (129 + e)
def RH (w : RS) (a : Nat → Int32) : Prop := ∃ h, h ≤ 3 ∧ w 20 0 = nI h ∧ a 16 = nI h ∧ rws h 194 2 (w 21) a ∧ rws h 195 2 (w 22) a
def RV (w : RS) (a : Nat → Int32) : Prop := ∃ m, m ≤ 10 ∧ w 23 0 = nI m ∧ a 17 = nI m ∧ rws m 200 4 (w 24) a ∧ rws m 201 4 (w 25) a ∧ rws m 202 4 (w 26) a ∧ rws m 203 4 (w 27) a
def RB (w : RS) (a : Nat → Int32) : Prop := ∃ n, n ≤ 25 ∧ w 28 0 = nI n ∧ a 18 = nI n ∧ row (4 * n) 240 (w 29) a
def RX (w : RS) (a : Nat → Int32) : Prop := row 10 109 (w 3) a ∧ row 10 69 (w 4) a ∧ row 10 59 (w 5) a ∧ row 10 79 (w 6) a ∧ row 10 340 (w 7) a ∧ row 10 19 (w 9) a ∧ row 10 29 (w 10) a ∧ row 10 39 (w 11) a ∧ row 10 49 (w 12) a ∧ row 10 89 (w 13) a ∧ row 10 99 (w 14) a
def RD (w : RS) (a : Nat → Int32) : Prop := row 23 162 (w 16) a ∧ row 23 139 (w 18) a ∧ row 9 185 (w 17) a
def RW (w : RS) (a : Nat → Int32) : Prop := row 13 3 (w 1) a ∧ RX w a ∧ RD w a ∧ RE w a ∧ RH w a ∧ RV w a ∧ RB w a
/-! what holds of every World -/
def bit1 (x : Int32) : Prop := x = 0 ∨ x = 1
def upto (n : Nat) (x : Int32) : Prop := ∃ k, k ≤ n ∧ x = nI k
def HSl (w : RS) (e : Nat) : Prop := w 3 e = 1 ∨ ∃ m i, m ≤ 10 ∧ w 23 0 = nI m ∧ i < m ∧ w 24 i = nI e ∧ w 26 i = 1
def IX (w : RS) : Prop := (∀ e, e < 10 → bit1 (w 3 e)) ∧ (∀ e, e < 10 → upto 2 (w 4 e)) ∧ (∀ e, e < 10 → upto (2 ^ szN e - 1) (w 6 e)) ∧ (∀ e, e < 10 → w 3 e = 0 → w 6 e = 0) ∧ (∀ e, e < 10 → upto 9999 (w 9 e)) ∧ (∀ e, e < 10 → upto 255 (w 10 e)) ∧ (∀ e, e < 10 → upto 9999 (w 13 e)) ∧ (∀ e, e < 10 → upto 255 (w 14 e))
def ID (w : RS) : Prop := (∀ p, p < 23 → w 18 p = -1 ∨ ∃ s, s < 9 ∧ w 18 p = nI s ∧ w 19 s = nI p) ∧ (∀ s, s < 9 → w 19 s = -1 ∨ ∃ p, p < 23 ∧ w 19 s = nI p ∧ w 18 p = nI s)
def IH (w : RS) : Prop := ∃ h, h ≤ 3 ∧ w 20 0 = nI h ∧ ∀ i, i < h → ∀ j, j < h → w 21 i = w 21 j → i = j
def IV (w : RS) : Prop := ∃ m, m ≤ 10 ∧ w 23 0 = nI m ∧ (∀ i, i < m → ∃ e, e < 10 ∧ w 24 i = nI e ∧ w 25 i = 1 - w 3 e ∧ bit1 (w 26 i)) ∧ ∀ i, i < m → ∀ j, j < m → w 24 i = w 24 j → i = j
def IS (w : RS) : Prop := ∀ e, e < 10 → ∀ b, b < szN e → (w 18 (stN e + b) ≠ -1 ↔ HSl w e)
def IC (w : RS) : Prop := upto 31138 (w 1 1) ∧ upto 6 (w 1 4) ∧ upto 12 (w 1 5) ∧ upto 40 (w 1 6)
def IK (K : Nat) (w : RS) : Prop := upto K (w 1 3) ∧ ∃ n f, n ≤ K ∧ f ≤ n ∧ w 1 7 = nI n ∧ w 1 8 = nI f
def IW (w : RS) : Prop := IX w ∧ ID w ∧ IH w ∧ IV w ∧ IS w ∧ IC w
