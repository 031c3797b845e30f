/-! SLOTS: counted, found, taken -/
def sN : Nat → (Nat → Nat) → Nat
  | 0, _ => 0
  | n + 1, f => sN n f + f n
theorem sN_cg {n : Nat} {f g : Nat → Nat} (h : ∀ i, i < n → f i = g i) : sN n f = sN n g := by
  induction n with
  | zero => rfl
  | succ n ih => show sN n f + f n = sN n g + g n; rw [ih fun i hi => h i (by omega), h n (by omega)]
theorem sN_add (n : Nat) (f g : Nat → Nat) : sN n (fun i => f i + g i) = sN n f + sN n g := by
  induction n with
  | zero => rfl
  | succ n ih => show sN n _ + (f n + g n) = (sN n f + f n) + (sN n g + g n); rw [ih]; omega
theorem sN_0 (n : Nat) : sN n (fun _ => 0) = 0 := by
  induction n with
  | zero => rfl
  | succ n ih => show sN n _ + 0 = 0; rw [ih]
theorem sN_swap (n m : Nat) (f : Nat → Nat → Nat) : sN n (fun i => sN m (f i)) = sN m (fun j => sN n fun i => f i j) := by
  induction n with
  | zero => show 0 = sN m fun _ => 0; rw [sN_0]
  | succ n ih => show sN n _ + sN m (f n) = sN m fun j => (sN n fun i => f i j) + f n j; rw [ih, sN_add]
theorem sN_le {n : Nat} {f g : Nat → Nat} (h : ∀ i, i < n → f i ≤ g i) : sN n f ≤ sN n g := by
  induction n with
  | zero => exact Nat.le_refl _
  | succ n ih => exact Nat.add_le_add (ih fun i hi => h i (by omega)) (h n (by omega))
theorem sN_one {n p : Nat} {f : Nat → Nat} (hp : p < n) (h : ∀ i, i < n → i ≠ p → f i = 0) : sN n f = f p := by
  induction n with
  | zero => omega
  | succ n ih =>
    show sN n f + f n = f p
    by_cases e : p = n
    · subst e
      rw [sN_cg (g := fun _ => 0) fun i hi => h i (by omega) (by omega), sN_0]
      omega
    · rw [ih (by omega) fun i hi hn => h i (by omega) hn, h n (by omega) (by omega)]
      omega
theorem sN_mono {n m : Nat} {f : Nat → Nat} (h : n ≤ m) : sN n f ≤ sN m f := by
  induction m with
  | zero => rw [show n = 0 from by omega]; exact Nat.le_refl _
  | succ m ih =>
    by_cases e : n = m + 1
    · rw [e]; exact Nat.le_refl _
    · exact Nat.le_trans (ih (by omega)) (Nat.le_add_right _ _)
def usd (x : Int32) : Nat := if x = -1 then 0 else 1
def fre (x : Int32) : Nat := if x = -1 then 1 else 0
/-- as many slots are taken as positions have one -/
theorem used_eq {w : RS} (h : ID w) : sN 9 (fun s => usd (w 19 s)) = sN 23 (fun p => usd (w 18 p)) := by
  have h1 : ∀ s, s < 9 → usd (w 19 s) = sN 23 fun p => if w 19 s = nI p then 1 else 0 := by
    intro s hs
    rcases h.2 s hs with e | ⟨p, hp, e, e2⟩
    · rw [e, sN_cg (g := fun _ => 0) fun p hp => if_neg fun q => ne_m1 (by omega) q.symm, sN_0]
      exact if_pos rfl
    · rw [e, sN_one hp fun i hi hn => if_neg fun q => hn ((eq_nI (by omega) (by omega)).mp q.symm), if_pos rfl]
      exact if_neg (ne_m1 (by omega))
  have h2 : ∀ p, p < 23 → usd (w 18 p) = sN 9 fun s => if w 19 s = nI p then 1 else 0 := by
    intro p hp
    rcases h.1 p hp with e | ⟨s, hs, e, e2⟩
    · rw [e, sN_cg (g := fun _ => 0) fun s hs => if_neg fun q => ?_, sN_0]
      · exact if_pos rfl
      · rcases h.2 s hs with e3 | ⟨r, hr, e3, e4⟩
        · exact ne_m1 (by omega) (q.symm.trans e3)
        · have : r = p := (eq_nI (by omega) (by omega)).mp (e3.symm.trans q)
          subst this
          exact ne_m1 (by omega) (e4.symm.trans e)
    · rw [e, sN_one hs fun i hi hn => if_neg fun q => hn ?_, if_pos e2]
      · exact if_neg (ne_m1 (by omega))
      · rcases h.2 i hi with e3 | ⟨r, hr, e3, e4⟩
        · exact absurd (q.symm.trans e3) (ne_m1 (by omega))
        · have : r = p := (eq_nI (by omega) (by omega)).mp (e3.symm.trans q)
          subst this
          exact (eq_nI (by omega) (by omega)).mp (e4.symm.trans e)
  rw [sN_cg h1, sN_swap, sN_cg h2]
theorem free_used (w : RS) (n : Nat) : sN n (fun s => fre (w 19 s)) + sN n (fun s => usd (w 19 s)) = n := by
  induction n with
  | zero => rfl
  | succ n ih =>
    show (sN n _ + fre (w 19 n)) + (sN n _ + usd (w 19 n)) = n + 1
    unfold fre usd at *
    split <;> omega
theorem freeSlots_ok {N : Nat} (hN : 10 ≤ N) {w : RS} : fX1_freeSlots N w = some (nI (sN 9 fun s => fre (w 19 s))) := by
  have key : ∀ d s k, 9 - s = d → s ≤ 9 → d < k → fX1_freeSlots_L4 N w k (nI (sN s fun s => fre (w 19 s))) (nI s) = some (nI (sN 9 fun s => fre (w 19 s))) := by
    intro d
    induction d with
    | zero =>
      intro s k h1 h2 h3
      obtain ⟨k, rfl⟩ : ∃ j, k = j + 1 := ⟨k - 1, by omega⟩
      have : s = 9 := by omega
      subst this
      rfl
    | succ d ih =>
      intro s k h1 h2 h3
      obtain ⟨k, rfl⟩ : ∃ j, k = j + 1 := ⟨k - 1, by omega⟩
      show (if (9 : Int32) ≤ nI s then _ else _) = _
      rw [if_neg (show ¬ (9 : Int32) ≤ nI s from fun q => absurd ((le_9 (by omega)).mp q) (by omega)), inb_nI (by omega) (by omega), ck_t, cl_nI (by omega)]
      rw [← ih (s + 1) k (by omega) (by omega) (by omega)]
      show _ = fX1_freeSlots_L4 N w k (nI ((sN s fun s => fre (w 19 s)) + fre (w 19 s))) _
      unfold fre fX1_freeSlots_L26
      split
      · rw [thn_e, j1, j1]
      · rw [thn_e, j1, Int32.add_zero]
        rfl
  exact key 9 0 N rfl (by omega) (by omega)
theorem manyFreeM_ok {N : Nat} (hN : 24 ≤ N) {mm : RS} {a : Nat → Int32} {w : RS} (hr : row 23 139 (w 18) a) (hI : ID w) : fX12_manyFree N (sr mm 1 a) = some (nI (sN 9 fun s => fre (w 19 s))) := by
  have hu := used_eq hI
  have hf := free_used w 9
  have key : ∀ d p k, 23 - p = d → p ≤ 23 → d < k → fX12_manyFree_L5 N (sr mm 1 a) k (nI (9 - sN p fun p => usd (w 18 p))) (nI p) = some (nI (9 - sN 23 fun p => usd (w 18 p))) := by
    intro d
    induction d with
    | zero =>
      intro p k h1 h2 h3
      obtain ⟨k, rfl⟩ : ∃ j, k = j + 1 := ⟨k - 1, by omega⟩
      have : p = 23 := by omega
      subst this
      rfl
    | succ d ih =>
      intro p k h1 h2 h3
      obtain ⟨k, rfl⟩ : ∃ j, k = j + 1 := ⟨k - 1, by omega⟩
      show (if (23 : Int32) ≤ nI p then _ else _) = _
      rw [if_neg (show ¬ (23 : Int32) ≤ nI p from fun q => absurd ((le_23 (by omega)).mp q) (by omega)), i139, inb_nI (by omega) (by omega), ck_t, cl_nI (by omega), sr_e, hr p (by omega)]
      rw [← ih (p + 1) k (by omega) (by omega) (by omega)]
      have hle : sN (p + 1) (fun p => usd (w 18 p)) ≤ 9 := Nat.le_trans (sN_mono (by omega : p + 1 ≤ 23)) (by omega)
      have e1 : sN (p + 1) (fun p => usd (w 18 p)) = sN p (fun p => usd (w 18 p)) + usd (w 18 p) := rfl
      rw [e1] at hle ⊢
      unfold fX12_manyFree_L31
      generalize sN p (fun p => usd (w 18 p)) = c at hle ⊢
      unfold usd at *
      by_cases e : w 18 p = -1
      · rw [if_pos e, if_pos e, thn_e, j1, Int32.sub_zero]
        rfl
      · rw [if_neg e] at hle
        rw [if_neg e, if_neg e, thn_e, j1, s1 (by omega), Nat.sub_sub]
  rw [show sN 9 (fun s => fre (w 19 s)) = 9 - sN 23 fun p => usd (w 18 p) from by omega]
  exact key 23 0 N rfl (by omega) (by omega)
/-- the lowest free slot from s on -/
def freeAt (w : RS) (s : Nat) (r : Int32) : Prop := (∃ t, s ≤ t ∧ t < 9 ∧ w 19 t = -1 ∧ (∀ u, s ≤ u → u < t → w 19 u ≠ -1) ∧ r = nI t) ∨ ((∀ u, s ≤ u → u < 9 → w 19 u ≠ -1) ∧ r = -1)
theorem freeAt_u {w : RS} {s : Nat} {r q : Int32} (h : freeAt w s r) (h2 : freeAt w s q) : q = r := by
  rcases h with ⟨t, h1, h2', h3, h4, rfl⟩ | ⟨h4, rfl⟩
  · rcases h2 with ⟨t2, g1, g2, g3, g4, rfl⟩ | ⟨g4, rfl⟩
    · rcases Nat.lt_trichotomy t t2 with c | c | c
      · exact absurd h3 (g4 t h1 c)
      · rw [c]
      · exact absurd g3 (h4 t2 g1 c)
    · exact absurd h3 (g4 t h1 h2')
  · rcases h2 with ⟨t2, g1, g2, g3, g4, rfl⟩ | ⟨g4, rfl⟩
    · exact absurd g3 (h4 t2 g1 g2)
    · rfl
theorem lowestFree_ok {N s : Nat} (hN : 10 ≤ N) (hs : s ≤ 9) {w : RS} : ok (fX1_lowestFree N (nI s) w) (freeAt w s) := by
  have key : ∀ d t k, 9 - t = d → s ≤ t → t ≤ 9 → d < k → (∀ u, s ≤ u → u < t → w 19 u ≠ -1) → ok (fX1_lowestFree_L2 N (nI s) w k (nI t)) (freeAt w s) := by
    intro d
    induction d with
    | zero =>
      intro t k h1 h0 h2 h3 h4
      obtain ⟨k, rfl⟩ : ∃ j, k = j + 1 := ⟨k - 1, by omega⟩
      have : t = 9 := by omega
      subst this
      exact ok_some.mpr (Or.inr ⟨h4, rfl⟩)
    | succ d ih =>
      intro t k h1 h0 h2 h3 h4
      obtain ⟨k, rfl⟩ : ∃ j, k = j + 1 := ⟨k - 1, by omega⟩
      show ok (if (9 : Int32) ≤ nI t then _ else _) _
      rw [if_neg (show ¬ (9 : Int32) ≤ nI t from fun q => absurd ((le_9 (by omega)).mp q) (by omega)), inb_nI (by omega) (by omega), ck_t, cl_nI (by omega)]
      by_cases e : w 19 t = -1
      · rw [if_pos e]
        exact ok_some.mpr (Or.inl ⟨t, h0, by omega, e, h4, rfl⟩)
      · rw [if_neg e, j1]
        exact ih (t + 1) k (by omega) (by omega) (by omega) (by omega) fun u hu1 hu2 => by
          by_cases q : u = t
          · subst q; exact e
          · exact h4 u hu1 (by omega)
  exact key (9 - s) s N rfl (by omega) hs (by omega) (fun u h1 h2 => absurd h1 (by omega))
theorem holderM_ok {N s : Nat} (hN : 24 ≤ N) (hs : s < 9) {mm : RS} {a : Nat → Int32} {w : RS} (hr : row 23 139 (w 18) a) (hI : ID w) : fX12_holderOf N (nI s) (sr mm 1 a) = some (w 19 s) := by
  have key : ∀ d p k, 23 - p = d → p ≤ 23 → d < k → (∀ j, j < p → w 18 j ≠ nI s) → fX12_holderOf_L2 N (nI s) (sr mm 1 a) k (nI p) = some (w 19 s) := by
    intro d
    induction d with
    | zero =>
      intro p k h1 h2 h3 h4
      obtain ⟨k, rfl⟩ : ∃ j, k = j + 1 := ⟨k - 1, by omega⟩
      have : p = 23 := by omega
      subst this
      show some (-1) = _
      rcases hI.2 s hs with e | ⟨r, hr2, e, e2⟩
      · rw [e]
      · exact absurd e2 (h4 r hr2)
    | succ d ih =>
      intro p k h1 h2 h3 h4
      obtain ⟨k, rfl⟩ : ∃ j, k = j + 1 := ⟨k - 1, by omega⟩
      show (if (23 : Int32) ≤ nI p then _ else _) = _
      rw [if_neg (show ¬ (23 : Int32) ≤ nI p from fun q => absurd ((le_23 (by omega)).mp q) (by omega)), i139, inb_nI (by omega) (by omega), ck_t, cl_nI (by omega), sr_e, hr p (by omega)]
      by_cases e : w 18 p = nI s
      · rw [if_pos e]
        rcases hI.1 p (by omega) with e3 | ⟨t, ht, e3, e4⟩
        · exact absurd (e.symm.trans e3) (ne_m1 (by omega))
        · have : t = s := (eq_nI (by omega) (by omega)).mp (e3.symm.trans e)
          subst this
          rw [e4]
      · rw [if_neg e, j1]
        exact ih (p + 1) k (by omega) (by omega) (by omega) fun j hj => by
          by_cases q : j = p
          · subst q; exact e
          · exact h4 j (by omega)
  exact key 23 0 N rfl (by omega) (by omega) (fun j hj => absurd hj (by omega))
theorem freeM_at {N s : Nat} (hN : 24 ≤ N) (hs : s ≤ 9) {mm : RS} {a : Nat → Int32} {w : RS} (hr : row 23 139 (w 18) a) (hI : ID w) : ok (fX12_freeFrom N (nI s) (sr mm 1 a)) (freeAt w s) := by
  have key : ∀ d t k, 9 - t = d → s ≤ t → t ≤ 9 → d < k → (∀ u, s ≤ u → u < t → w 19 u ≠ -1) → ok (fX12_freeFrom_L2 N (nI s) (sr mm 1 a) k (nI t)) (freeAt w s) := by
    intro d
    induction d with
    | zero =>
      intro t k h1 h0 h2 h3 h4
      obtain ⟨k, rfl⟩ : ∃ j, k = j + 1 := ⟨k - 1, by omega⟩
      have : t = 9 := by omega
      subst this
      exact ok_some.mpr (Or.inr ⟨h4, rfl⟩)
    | succ d ih =>
      intro t k h1 h0 h2 h3 h4
      obtain ⟨k, rfl⟩ : ∃ j, k = j + 1 := ⟨k - 1, by omega⟩
      show ok (if (9 : Int32) ≤ nI t then _ else _) _
      rw [if_neg (show ¬ (9 : Int32) ≤ nI t from fun q => absurd ((le_9 (by omega)).mp q) (by omega)), holderM_ok hN (by omega) hr hI, bnd_s]
      by_cases e : w 19 t = -1
      · rw [if_pos e]
        exact ok_some.mpr (Or.inl ⟨t, h0, by omega, e, h4, rfl⟩)
      · rw [if_neg e, j1]
        exact ih (t + 1) k (by omega) (by omega) (by omega) (by omega) fun u hu1 hu2 => by
          by_cases q : u = t
          · subst q; exact e
          · exact h4 u hu1 (by omega)
  exact key (9 - s) s N rfl (by omega) hs (by omega) (fun u h1 h2 => absurd h1 (by omega))
/-! slots are taken -/
def tkV (w0 : RS) (e t b : Nat) (w : RS) (a0 a : Nat → Int32) : Prop :=
  (∀ c, c ≠ 18 → c ≠ 19 → w c = w0 c) ∧ (∀ k, (k < 139 ∨ 162 ≤ k) → a k = a0 k) ∧ row 23 139 (w 18) a ∧ ID w ∧ (∀ u, u < t → u < 9 → w 19 u ≠ -1) ∧ (∀ u, t ≤ u → w 19 u = w0 19 u) ∧
  (∀ q, (q < stN e ∨ stN e + b ≤ q) → w 18 q = w0 18 q) ∧ (∀ q, stN e ≤ q → q < stN e + b → w 18 q ≠ -1)
theorem take_step {w0 w : RS} {e t b : Nat} {a0 a : Nat → Int32} (he : e < 10) (ht : t < 9) (hb : b < szN e) (h0 : ∀ q, stN e ≤ q → q < stN e + szN e → w0 18 q = -1) (hf : w0 19 t = -1) (h : tkV w0 e t b w a0 a) :
    tkV w0 e (t + 1) (b + 1) (sr (sr w 19 (upd (w 19) t (nI (stN e + b)))) 18 (upd (w 18) (stN e + b) (nI t))) a0 (upd a (139 + (stN e + b)) (nI t)) := by
  have hs := stN_le e he
  obtain ⟨h1, h2, h3, h4, h5, h6, h7, h8⟩ := h
  have e18 : w 18 (stN e + b) = -1 := (h7 _ (by omega)).trans (h0 _ (by omega) (by omega))
  have e19 : w 19 t = -1 := (h6 t (Nat.le_refl _)).trans hf
  refine ⟨fun c c1 c2 => by rw [sr_n c1, sr_n c2]; exact h1 c c1 c2, fun k hk => by rw [upd_n (by omega)]; exact h2 k hk, ?_, ⟨?_, ?_⟩, ?_, ?_, ?_, ?_⟩
  · rw [sr_e]
    exact row_set rfl h3
  · intro p hp
    rw [sr_e, sr_n (by decide), sr_e]
    by_cases c : p = stN e + b
    · subst c
      rw [upd_e]
      exact Or.inr ⟨t, ht, rfl, upd_e _ _ _⟩
    · rw [upd_n c]
      rcases h4.1 p hp with q | ⟨s, hs9, q, q2⟩
      · exact Or.inl q
      · refine Or.inr ⟨s, hs9, q, ?_⟩
        rw [upd_n fun z => ne_m1 (k := p) (by omega) (by rw [← q2, z]; exact e19)]
        exact q2
  · intro s hs9
    rw [sr_n (by decide), sr_e, sr_e]
    by_cases c : s = t
    · subst c
      rw [upd_e]
      exact Or.inr ⟨stN e + b, by omega, rfl, upd_e _ _ _⟩
    · rw [upd_n c]
      rcases h4.2 s hs9 with q | ⟨p, hp, q, q2⟩
      · exact Or.inl q
      · refine Or.inr ⟨p, hp, q, ?_⟩
        rw [upd_n fun z => ne_m1 (k := s) (by omega) (by rw [← q2, z]; exact e18)]
        exact q2
  · intro u hu hu9
    rw [sr_n (by decide), sr_e]
    by_cases c : u = t
    · subst c; rw [upd_e]; exact ne_m1 (by omega)
    · rw [upd_n c]; exact h5 u (by omega) hu9
  · intro u hu
    rw [sr_n (by decide), sr_e, upd_n (by omega)]
    exact h6 u (by omega)
  · intro q hq
    rw [sr_e, upd_n (by omega)]
    exact h7 q (by omega)
  · intro q q1 q2
    rw [sr_e]
    by_cases c : q = stN e + b
    · subst c; rw [upd_e]; exact ne_m1 (by omega)
    · rw [upd_n c]; exact h8 q q1 (by omega)
theorem take_ok {N e : Nat} {x1 : Int32} (hN : 24 ≤ N) (he : e < 10) {w0 mm : RS} {a0 : Nat → Int32} (h0 : ∀ q, stN e ≤ q → q < stN e + szN e → w0 18 q = -1) (hr : row 23 139 (w0 18) a0) (hI : ID w0) (hF : szN e ≤ sN 9 fun s => fre (w0 19 s)) :
    ∃ w a, fX1_takeSlots N (nI e) w0 = some w ∧ fX12_isBegun_L44 N x1 N (nI e) 0 (sr mm 1 a0) = fX12_isBegun_L78 N x1 (nI e) (sr mm 1 a) ∧ ∃ t, tkV w0 e t (szN e) w a0 a := by
  have hz := szN_le e
  have hs := stN_le e he
  have key : ∀ d t b k w a, 9 - t = d → t ≤ 9 → b ≤ szN e → d < k → tkV w0 e t b w a0 a → (szN e + sN t (fun s => fre (w0 19 s)) ≤ sN 9 (fun s => fre (w0 19 s)) + b) →
      ∃ w2 a2, fX1_takeSlots_L17 N (nI e) k (nI (stN e + b)) (nI (stN e + szN e)) (nI t) w = some w2 ∧ (∀ k2, szN e - b < k2 → fX12_isBegun_L44 N x1 k2 (nI e) (nI b) (sr mm 1 a) = fX12_isBegun_L78 N x1 (nI e) (sr mm 1 a2)) ∧ ∃ t, tkV w0 e t (szN e) w2 a0 a2 := by
    intro d
    induction d with
    | zero =>
      intro t b k w a h1 h2 h3 h4 h5 h6
      obtain ⟨k, rfl⟩ : ∃ j, k = j + 1 := ⟨k - 1, by omega⟩
      have : t = 9 := by omega
      subst this
      have : b = szN e := by omega
      subst this
      refine ⟨w, a, rfl, ?_, 9, h5⟩
      intro k2 hk2
      obtain ⟨k2, rfl⟩ : ∃ j, k2 = j + 1 := ⟨k2 - 1, by omega⟩
      show (if fX12_sizeOf (nI e) ≤ nI (szN e) then _ else _) = _
      rw [sizeM_N e he, if_pos (nI_le (Nat.le_refl _) (by omega))]
    | succ d ih =>
      intro t b k w a h1 h2 h3 h4 h5 h6
      obtain ⟨k, rfl⟩ : ∃ j, k = j + 1 := ⟨k - 1, by omega⟩
      have hst : fX1_takeSlots_L17 N (nI e) (k + 1) (nI (stN e + b)) (nI (stN e + szN e)) (nI t) w = (if (9 : Int32) ≤ nI t then _ else _) := rfl
      rw [if_neg (show ¬ (9 : Int32) ≤ nI t from fun q => absurd ((le_9 (by omega)).mp q) (by omega))] at hst
      by_cases hb : b = szN e
      · subst hb
        rw [if_pos (nI_le (Nat.le_refl _) (by omega))] at hst
        refine ⟨w, a, hst, ?_, t, h5⟩
        · intro k2 hk2
          obtain ⟨k2, rfl⟩ : ∃ j, k2 = j + 1 := ⟨k2 - 1, by omega⟩
          show (if fX12_sizeOf (nI e) ≤ nI (szN e) then _ else _) = _
          rw [sizeM_N e he, if_pos (nI_le (Nat.le_refl _) (by omega))]
      · rw [if_neg (nI_ge (by omega) (by omega)), inb_nI (by omega) (by omega), ck_t, cl_nI (by omega)] at hst
        by_cases hf : w0 19 t = -1
        · rw [if_pos ((h5.2.2.2.2.2.1 t (Nat.le_refl _)).trans hf), thn_e, inb_nI (by omega) (by omega), ck_t, thn_e, cl_nI (by omega), st_d, st_d, sr_n (by decide)] at hst
          obtain ⟨w2, a2, i1, i2, i3⟩ := ih (t + 1) (b + 1) k _ _ (by omega) (by omega) (by omega) (by omega) (take_step he (by omega) (by omega) h0 hf h5) (by
            show szN e + (sN t _ + fre (w0 19 t)) ≤ _
            rw [show fre (w0 19 t) = 1 from if_pos hf]
            omega)
          refine ⟨w2, a2, ?_, ?_, i3⟩
          · rw [hst, ← i1]
            unfold fX1_takeSlots_L59
            rw [j1, j1]
            rfl
          · intro k2 hk2
            obtain ⟨k2, rfl⟩ : ∃ j, k2 = j + 1 := ⟨k2 - 1, by omega⟩
            obtain ⟨r, f1, f2⟩ := freeM_at (N := N) (s := 0) (mm := mm) hN (by omega) h5.2.2.1 h5.2.2.2.1
            have hrt : r = nI t := freeAt_u (Or.inl ⟨t, by omega, by omega, (h5.2.2.2.2.2.1 t (Nat.le_refl _)).trans hf, fun u _ hu => h5.2.2.2.2.1 u hu (by omega), rfl⟩) f2
            subst hrt
            show (if fX12_sizeOf (nI e) ≤ nI b then _ else bnd (fX12_freeFrom N (nI 0) (sr mm 1 a)) _) = _
            rw [sizeM_N e he, if_neg (nI_ge (by omega) (by omega)), f1, bnd_s, firstM_N e he, i139, nI_add, inb_nI (by omega) (by omega), ck_t, thn_e, cl_nI (by omega), st_sr, j1, Nat.add_assoc]
            exact i2 k2 (by omega)
        · rw [if_neg fun q => hf ((h5.2.2.2.2.2.1 t (Nat.le_refl _)).symm.trans q)] at hst
          obtain ⟨g1, g2, g3, g4, g5, g6, g7, g8⟩ := h5
          obtain ⟨w2, a2, i1, i2, i3⟩ := ih (t + 1) b k w a (by omega) (by omega) (by omega) (by omega) ⟨g1, g2, g3, g4, fun u hu hu9 => by
            by_cases c : u = t
            · subst c; rw [g6 u (Nat.le_refl _)]; exact hf
            · exact g5 u (by omega) hu9, fun u hu => g6 u (by omega), g7, g8⟩ (by
            show szN e + (sN t _ + fre (w0 19 t)) ≤ _
            rw [show fre (w0 19 t) = 0 from if_neg hf]
            omega)
          exact ⟨w2, a2, by rw [hst, ← i1]; unfold fX1_takeSlots_L59; rw [j1], i2, i3⟩
  obtain ⟨w, a, g1, g2, g3⟩ := key 9 0 0 N w0 a0 rfl (by omega) (by omega) (by omega) ⟨fun _ _ _ => rfl, fun _ _ => rfl, hr, hI, fun u hu => absurd hu (by omega), fun _ _ => rfl, fun _ _ => rfl, fun q q1 q2 => absurd q1 (by omega)⟩ (by show szN e + 0 ≤ _; omega)
  refine ⟨w, a, ?_, g2 N (by omega), g3⟩
  unfold fX1_takeSlots
  rw [inb_nI he (by omega), ck_t, thn_e, thn_e, cl_nI (by omega), startT_N e he, sizeT_N e he, nI_add]
  exact g1
