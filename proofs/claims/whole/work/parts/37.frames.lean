/-! FRAMES of the relation and of what holds of every World -/
theorem row13_iff {f a : Nat → Int32} : row 13 3 f a ↔ a 3 = f 0 ∧ a 4 = f 1 ∧ a 5 = f 2 ∧ a 6 = f 3 ∧ a 7 = f 4 ∧ a 8 = f 5 ∧ a 9 = f 6 ∧ a 10 = f 7 ∧ a 11 = f 8 ∧ a 12 = f 9 ∧ a 13 = f 10 ∧ a 14 = f 11 ∧ a 15 = f 12 := by
  constructor
  · intro h
    exact ⟨h 0 (by omega), h 1 (by omega), h 2 (by omega), h 3 (by omega), h 4 (by omega), h 5 (by omega), h 6 (by omega), h 7 (by omega), h 8 (by omega), h 9 (by omega), h 10 (by omega), h 11 (by omega), h 12 (by omega)⟩
  · rintro ⟨h0, h1, h2, h3, h4, h5, h6, h7, h8, h9, h10, h11, h12⟩ i hi
    rcases (by omega : i = 0 ∨ i = 1 ∨ i = 2 ∨ i = 3 ∨ i = 4 ∨ i = 5 ∨ i = 6 ∨ i = 7 ∨ i = 8 ∨ i = 9 ∨ i = 10 ∨ i = 11 ∨ i = 12) with rfl | rfl | rfl | rfl | rfl | rfl | rfl | rfl | rfl | rfl | rfl | rfl | rfl <;> assumption
theorem RX_cg {w w' : RS} {a a' : Nat → Int32} (hw : ∀ c, (c = 3 ∨ c = 4 ∨ c = 5 ∨ c = 6 ∨ c = 7 ∨ 9 ≤ c ∧ c ≤ 14) → w' c = w c) (ha : ∀ k, (19 ≤ k ∧ k < 119 ∨ 340 ≤ k ∧ k < 350) → a' k = a k) (h : RX w a) : RX w' a' := by
  obtain ⟨h1, h2, h3, h4, h5, h6, h7, h8, h9, h10, h11⟩ := h
  exact ⟨row_cg (fun i _ => by rw [hw _ (by omega)]) (fun k _ _ => ha k (by omega)) h1, row_cg (fun i _ => by rw [hw _ (by omega)]) (fun k _ _ => ha k (by omega)) h2, row_cg (fun i _ => by rw [hw _ (by omega)]) (fun k _ _ => ha k (by omega)) h3, row_cg (fun i _ => by rw [hw _ (by omega)]) (fun k _ _ => ha k (by omega)) h4, row_cg (fun i _ => by rw [hw _ (by omega)]) (fun k _ _ => ha k (by omega)) h5, row_cg (fun i _ => by rw [hw _ (by omega)]) (fun k _ _ => ha k (by omega)) h6, row_cg (fun i _ => by rw [hw _ (by omega)]) (fun k _ _ => ha k (by omega)) h7, row_cg (fun i _ => by rw [hw _ (by omega)]) (fun k _ _ => ha k (by omega)) h8, row_cg (fun i _ => by rw [hw _ (by omega)]) (fun k _ _ => ha k (by omega)) h9, row_cg (fun i _ => by rw [hw _ (by omega)]) (fun k _ _ => ha k (by omega)) h10, row_cg (fun i _ => by rw [hw _ (by omega)]) (fun k _ _ => ha k (by omega)) h11⟩
theorem RD_cg {w w' : RS} {a a' : Nat → Int32} (hw : ∀ c, (c = 16 ∨ c = 17 ∨ c = 18) → w' c = w c) (ha : ∀ k, 139 ≤ k → k < 194 → a' k = a k) (h : RD w a) : RD w' a' := by
  obtain ⟨h1, h2, h3⟩ := h
  exact ⟨row_cg (fun i _ => by rw [hw _ (by omega)]) (fun k _ _ => ha k (by omega) (by omega)) h1, row_cg (fun i _ => by rw [hw _ (by omega)]) (fun k _ _ => ha k (by omega) (by omega)) h2, row_cg (fun i _ => by rw [hw _ (by omega)]) (fun k _ _ => ha k (by omega) (by omega)) h3⟩
theorem RE_cg {w w' : RS} {a a' : Nat → Int32} (h3 : w' 3 = w 3) (h8 : w' 8 = w 8) (ha : ∀ k, 119 ≤ k → k < 139 → a' k = a k) (h : RE w a) : RE w' a' := fun e he h1 => by
  rw [h8, ha _ (by omega) (by omega), ha _ (by omega) (by omega)]
  exact h e he (by rw [← h3]; exact h1)
theorem RH_cg {w w' : RS} {a a' : Nat → Int32} (hw : ∀ c, (c = 20 ∨ c = 21 ∨ c = 22) → w' c = w c) (h16 : a' 16 = a 16) (ha : ∀ k, 194 ≤ k → k < 200 → a' k = a k) (h : RH w a) : RH w' a' := by
  obtain ⟨n, h1, h2, h3, h4, h5⟩ := h
  exact ⟨n, h1, by rw [hw _ (by omega)]; exact h2, h16.trans h3, rws_cg (fun i _ => by rw [hw _ (by omega)]) (fun i hi => ha _ (by omega) (by omega)) h4, rws_cg (fun i _ => by rw [hw _ (by omega)]) (fun i hi => ha _ (by omega) (by omega)) h5⟩
theorem RV_cg {w w' : RS} {a a' : Nat → Int32} (hw : ∀ c, 23 ≤ c → c ≤ 27 → w' c = w c) (h17 : a' 17 = a 17) (ha : ∀ k, 200 ≤ k → k < 240 → a' k = a k) (h : RV w a) : RV w' a' := by
  obtain ⟨n, h1, h2, h3, h4, h5, h6, h7⟩ := h
  exact ⟨n, h1, by rw [hw _ (by omega) (by omega)]; exact h2, h17.trans h3, rws_cg (fun i _ => by rw [hw _ (by omega) (by omega)]) (fun i hi => ha _ (by omega) (by omega)) h4, rws_cg (fun i _ => by rw [hw _ (by omega) (by omega)]) (fun i hi => ha _ (by omega) (by omega)) h5, rws_cg (fun i _ => by rw [hw _ (by omega) (by omega)]) (fun i hi => ha _ (by omega) (by omega)) h6, rws_cg (fun i _ => by rw [hw _ (by omega) (by omega)]) (fun i hi => ha _ (by omega) (by omega)) h7⟩
theorem RB_cg {w w' : RS} {a a' : Nat → Int32} (h28 : w' 28 = w 28) (h29 : w' 29 = w 29) (h18 : a' 18 = a 18) (ha : ∀ k, 240 ≤ k → k < 340 → a' k = a k) (h : RB w a) : RB w' a' := by
  obtain ⟨n, h1, h2, h3, h4⟩ := h
  exact ⟨n, h1, by rw [h28]; exact h2, h18.trans h3, row_cg (fun i _ => by rw [h29]) (fun k _ _ => ha k (by omega) (by omega)) h4⟩
theorem IX_cg {w w' : RS} (hw : ∀ c, (c = 3 ∨ c = 4 ∨ c = 6 ∨ c = 9 ∨ c = 10 ∨ c = 13 ∨ c = 14) → w' c = w c) (h : IX w) : IX w' := by
  unfold IX at *
  rw [hw 3 (by omega), hw 4 (by omega), hw 6 (by omega), hw 9 (by omega), hw 10 (by omega), hw 13 (by omega), hw 14 (by omega)]
  exact h
theorem ID_cg {w w' : RS} (h18 : w' 18 = w 18) (h19 : w' 19 = w 19) (h : ID w) : ID w' := by
  unfold ID at *
  rw [h18, h19]
  exact h
theorem IH_cg {w w' : RS} (h20 : w' 20 = w 20) (h21 : w' 21 = w 21) (h : IH w) : IH w' := by
  unfold IH at *
  rw [h20, h21]
  exact h
theorem IV_cg {w w' : RS} (h3 : w' 3 = w 3) (hw : ∀ c, 23 ≤ c → c ≤ 26 → w' c = w c) (h : IV w) : IV w' := by
  unfold IV at *
  rw [h3, hw 23 (by omega) (by omega), hw 24 (by omega) (by omega), hw 25 (by omega) (by omega), hw 26 (by omega) (by omega)]
  exact h
theorem IS_cg {w w' : RS} (h3 : w' 3 = w 3) (h18 : w' 18 = w 18) (h23 : w' 23 = w 23) (h24 : w' 24 = w 24) (h26 : w' 26 = w 26) (h : IS w) : IS w' := by
  unfold IS HSl at *
  rw [h3, h18, h23, h24, h26]
  exact h
theorem IC_cg {w w' : RS} (h : ∀ i, (i = 1 ∨ i = 4 ∨ i = 5 ∨ i = 6) → w' 1 i = w 1 i) (hi : IC w) : IC w' := by
  unfold IC at *
  rw [h 1 (by omega), h 4 (by omega), h 5 (by omega), h 6 (by omega)]
  exact hi
theorem all_upd {n i : Nat} {P : Int32 → Prop} {f : Nat → Int32} {x : Int32} (h : ∀ e, e < n → P (f e)) (hx : P x) : ∀ e, e < n → P (upd f i x e) := fun e he => by
  by_cases c : e = i
  · subst c; rw [upd_e]; exact hx
  · rw [upd_n c]; exact h e he
/-- what the reference's row has outside of the world -/
def FA (a a' : Nat → Int32) : Prop := ∀ k, k < 3 ∨ 350 ≤ k → a' k = a k
theorem FA.rf {a : Nat → Int32} : FA a a := fun _ _ => rfl
theorem FA.tr {a b c : Nat → Int32} (h1 : FA a b) (h2 : FA b c) : FA a c := fun k hk => (h2 k hk).trans (h1 k hk)
theorem upto_le {n m : Nat} {x : Int32} (h : upto n x) (hm : n ≤ m) : upto m x := by
  obtain ⟨k, h1, h2⟩ := h
  exact ⟨k, by omega, h2⟩
