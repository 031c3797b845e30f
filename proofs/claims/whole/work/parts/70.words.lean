/-! TOKENS OF THE TAPE: letters, figures, words -/
def isL (k : Nat) : Bool := (decide (97 ≤ k) && decide (k ≤ 122)) || (decide (65 ≤ k) && decide (k ≤ 90))
def isD (k : Nat) : Bool := decide (48 ≤ k) && decide (k ≤ 57)
def isSg (k : Nat) : Bool := decide (k = 42) || decide (k = 43) || decide (k = 44) || decide (k = 59) || decide (k = 60) || decide (k = 61) || decide (k = 123) || decide (k = 125)
theorem letC : ∀ k, k < 256 → fX8_isLetter (nI k) = b2i (isL k) := by decide +kernel
theorem letM : ∀ k, k < 256 → fX12_isLetterByte (nI k) = b2i (isL k) := by decide +kernel
theorem letM1 : fX12_isLetterByte (-1) = 0 := by decide
theorem digC : ∀ k, k < 256 → fX8_isDigit (nI k) = b2i (isD k) := by decide +kernel
theorem digM : ∀ k, k < 256 → fX12_isFigure (nI k) = b2i (isD k) := by decide +kernel
theorem digM1 : fX12_isFigure (-1) = 0 := by decide
theorem sgnC : ∀ k, k < 256 → fX8_isSign (nI k) = b2i (isSg k) := by decide +kernel
theorem sgnM : ∀ k, k < 256 → fX12_isSign (nI k) = b2i (isSg k) := by decide +kernel
/-- n bytes on both tapes -/
def BC (n : Nat) (b : Nat → Nat) (rr : RS) : Prop := n ≤ 300 ∧ rr 0 1 = nI n ∧ ∀ i, i < n → b i < 256 ∧ rr 1 i = nI (b i)
def BM (n : Nat) (b : Nat → Nat) (mm : RS) : Prop := n ≤ 300 ∧ mm 0 4 = nI n ∧ ∀ i, i < n → b i < 256 ∧ mm 4 i = nI (b i)
theorem byteM {N n p : Nat} {b : Nat → Nat} {mm : RS} (h : BM n b mm) (hp : p < 1000) : fX12_byteAt N (nI p) mm = some (if p < n then nI (b p) else -1) := by
  obtain ⟨h1, h2, h3⟩ := h
  unfold fX12_byteAt
  rw [h2]
  by_cases c : p < n
  · rw [if_neg (nI_ge c (by omega)), if_pos c, inb_nI (by omega) (by omega), ck_t, cl_nI (by omega), (h3 p c).2]
  · rw [if_pos (nI_le (by omega) (by omega)), if_neg c]
/-- a run of bytes from p on, up to e -/
def RUN (f : Nat → Bool) (n p e : Nat) : Prop := p ≤ e ∧ e ≤ n ∧ (∀ t, p ≤ t → t < e → f t = true) ∧ (e < n → f e = false)
theorem run_ex (f : Nat → Bool) (n : Nat) : ∀ d p, n - p = d → p ≤ n → ∃ e, RUN f n p e := by
  intro d
  induction d with
  | zero =>
    intro p h1 h2
    exact ⟨p, Nat.le_refl _, h2, fun t a b => by omega, fun a => by omega⟩
  | succ d ih =>
    intro p h1 h2
    cases c : f p with
    | false => exact ⟨p, Nat.le_refl _, h2, fun t a b => by omega, fun _ => c⟩
    | true =>
      obtain ⟨e, e1, e2, e3, e4⟩ := ih (p + 1) (by omega) (by omega)
      exact ⟨e, by omega, e2, fun t a b => by
        by_cases q : t = p
        · subst q; exact c
        · exact e3 t (by omega) b, e4⟩
theorem behL {N n p e : Nat} {b : Nat → Nat} {rr : RS} {x1 : Int32} (h : BC n b rr) (hr : RUN (fun t => isL (b t)) n p e) : ∀ d t k, e - t = d → p ≤ t → t ≤ e → d < k → fX8_behindLetters_L2 N x1 rr k (nI t) = some (nI e) := by
  obtain ⟨h1, h2, h3⟩ := h
  obtain ⟨r1, r2, r3, r4⟩ := hr
  intro d
  induction d with
  | zero =>
    intro t k g1 g2 g3 g4
    obtain ⟨k, rfl⟩ : ∃ j, k = j + 1 := ⟨k - 1, by omega⟩
    have : t = e := by omega
    subst this
    rw [fX8_behindLetters_L2, h2]
    by_cases c : n ≤ t
    · rw [if_pos (nI_le c (by omega))]
    · obtain ⟨q1, q2⟩ := h3 t (by omega)
      rw [if_neg (nI_ge (by omega) (by omega)), inb_nI (by omega) (by omega), ck_t, cl_nI (by omega), q2, letC _ q1, show isL (b t) = false from r4 (by omega), if_pos (show b2i false = 0 from rfl)]
  | succ d ih =>
    intro t k g1 g2 g3 g4
    obtain ⟨k, rfl⟩ : ∃ j, k = j + 1 := ⟨k - 1, by omega⟩
    obtain ⟨q1, q2⟩ := h3 t (by omega)
    rw [fX8_behindLetters_L2, h2, if_neg (nI_ge (by omega) (by omega)), inb_nI (by omega) (by omega), ck_t, cl_nI (by omega), q2, letC _ q1, show isL (b t) = true from r3 t g2 (by omega), if_neg (show ¬ b2i true = 0 by decide), j1]
    exact ih (t + 1) k (by omega) (by omega) (by omega) (by omega)
theorem behD {N n p e : Nat} {b : Nat → Nat} {rr : RS} {x1 : Int32} (h : BC n b rr) (hr : RUN (fun t => isD (b t)) n p e) : ∀ d t k, e - t = d → p ≤ t → t ≤ e → d < k → fX8_behindDigits_L2 N x1 rr k (nI t) = some (nI e) := by
  obtain ⟨h1, h2, h3⟩ := h
  obtain ⟨r1, r2, r3, r4⟩ := hr
  intro d
  induction d with
  | zero =>
    intro t k g1 g2 g3 g4
    obtain ⟨k, rfl⟩ : ∃ j, k = j + 1 := ⟨k - 1, by omega⟩
    have : t = e := by omega
    subst this
    rw [fX8_behindDigits_L2, h2]
    by_cases c : n ≤ t
    · rw [if_pos (nI_le c (by omega))]
    · obtain ⟨q1, q2⟩ := h3 t (by omega)
      rw [if_neg (nI_ge (by omega) (by omega)), inb_nI (by omega) (by omega), ck_t, cl_nI (by omega), q2, digC _ q1, show isD (b t) = false from r4 (by omega), if_pos (show b2i false = 0 from rfl)]
  | succ d ih =>
    intro t k g1 g2 g3 g4
    obtain ⟨k, rfl⟩ : ∃ j, k = j + 1 := ⟨k - 1, by omega⟩
    obtain ⟨q1, q2⟩ := h3 t (by omega)
    rw [fX8_behindDigits_L2, h2, if_neg (nI_ge (by omega) (by omega)), inb_nI (by omega) (by omega), ck_t, cl_nI (by omega), q2, digC _ q1, show isD (b t) = true from r3 t g2 (by omega), if_neg (show ¬ b2i true = 0 by decide), j1]
    exact ih (t + 1) k (by omega) (by omega) (by omega) (by omega)
/-! numbers: v the class's, w the reference's -/
def vr (v w : Nat) : Prop := (v ≤ 9999 ∧ w = v) ∨ (v = 10000 ∧ 10000 ≤ w ∧ w ≤ 1000000)
def nvC (v d : Nat) : Nat := min 10000 (10 * v + d)
def nvM (w d : Nat) : Nat := if 99999 < w then w else 10 * w + d
theorem vr_s {v w d : Nat} (h : vr v w) (hd : d ≤ 9) : vr (nvC v d) (nvM w d) := by
  unfold vr nvC nvM at *
  split <;> omega
def numC (b : Nat → Nat) (p : Nat) : Nat → Nat
  | 0 => 0
  | k + 1 => nvC (numC b p k) (b (p + k) - 48)
def numM (b : Nat → Nat) (p : Nat) : Nat → Nat
  | 0 => 0
  | k + 1 => nvM (numM b p k) (b (p + k) - 48)
theorem isD_le {k : Nat} (h : isD k = true) : 48 ≤ k ∧ k ≤ 57 := by
  unfold isD at h
  rw [Bool.and_eq_true, decide_eq_true_eq, decide_eq_true_eq] at h
  exact h
theorem num_vr {b : Nat → Nat} {p : Nat} : ∀ k, (∀ t, p ≤ t → t < p + k → isD (b t) = true) → vr (numC b p k) (numM b p k) := by
  intro k
  induction k with
  | zero => intro _; exact Or.inl ⟨Nat.zero_le _, rfl⟩
  | succ k ih =>
    intro h
    have := isD_le (h (p + k) (by omega) (by omega))
    exact vr_s (ih fun t a c => h t a (by omega)) (by omega)
theorem imin_N {v d : Nat} (hv : v ≤ 10000) (hd : d ≤ 9) : imin 10000 (nI v * 10 + nI (48 + d) - 48) = nI (nvC v d) := by
  have e : nI v * 10 + nI (48 + d) - 48 = nI (10 * v + d) := by
    rw [mr10, nI_add, show (48 : Int32) = nI 48 from rfl, sub_nI (by omega)]
    congr 1
    omega
  rw [e]
  unfold imin nvC
  by_cases c : 10 * v + d < 10000
  · rw [if_pos (show nI (10 * v + d) < 10000 from nI_lt (b := 10000) c (by decide))]
    congr 1
    omega
  · rw [if_neg (show ¬ nI (10 * v + d) < 10000 from nI_nlt (b := 10000) (by omega) (by omega))]
    show nI 10000 = _
    congr 1
    omega
theorem vr_le {v w : Nat} (h : vr v w) : v ≤ 10000 ∧ w ≤ 1000000 := by unfold vr at h; omega
theorem numFrom {N n p e : Nat} {b : Nat → Nat} {rr : RS} {x1 : Int32} (h : BC n b rr) (hr : RUN (fun t => isD (b t)) n p e) : ∀ d t k, e - t = d → p ≤ t → t ≤ e → d < k → fX8_numberFrom_L5 N x1 (nI e) rr k (nI (numC b p (t - p))) (nI t) = some (nI (numC b p (e - p))) := by
  obtain ⟨h1, h2, h3⟩ := h
  obtain ⟨r1, r2, r3, r4⟩ := hr
  intro d
  induction d with
  | zero =>
    intro t k g1 g2 g3 g4
    obtain ⟨k, rfl⟩ : ∃ j, k = j + 1 := ⟨k - 1, by omega⟩
    have : t = e := by omega
    subst this
    rw [fX8_numberFrom_L5, if_pos (nI_le (Nat.le_refl _) (by omega))]
  | succ d ih =>
    intro t k g1 g2 g3 g4
    obtain ⟨k, rfl⟩ : ∃ j, k = j + 1 := ⟨k - 1, by omega⟩
    obtain ⟨q1, q2⟩ := h3 t (by omega)
    have hd := isD_le (r3 t g2 (by omega))
    have hv := vr_le (num_vr (b := b) (p := p) (t - p) fun u a c => r3 u a (by omega))
    have e1 : numC b p (t + 1 - p) = nvC (numC b p (t - p)) (b t - 48) := by
      rw [show t + 1 - p = (t - p) + 1 from by omega]
      show nvC _ (b (p + (t - p)) - 48) = _
      rw [show p + (t - p) = t from by omega]
    have i := ih (t + 1) k (by omega) (by omega) (by omega) (by omega)
    rw [e1] at i
    have im := imin_N (v := numC b p (t - p)) (d := b t - 48) hv.1 (by omega)
    rw [show 48 + (b t - 48) = b t from by omega] at im
    rw [fX8_numberFrom_L5, if_neg (nI_ge (by omega) (by omega)), inb_nI (by omega) (by omega), ck_t, cl_nI (by omega), q2, im, thn_e, j1]
    exact i
/-! words -/
def wlen (s : Nat) : Nat := [4, 5, 4, 4, 5, 4, 2].getD s 0
def wch (s i : Nat) : Nat := (([[114, 101, 97, 100], [119, 114, 105, 116, 101], [115, 99, 97, 110], [116, 105, 99, 107], [99, 114, 97, 115, 104], [108, 111, 111, 112], [105, 102]] : List (List Nat)).getD s []).getD i 0
def mtc (b : Nat → Nat) (s p e : Nat) : Bool := decide (e - p = wlen s) && (List.range (wlen s)).all fun i => decide (b (p + i) = wch s i)
theorem mtc_iff {b : Nat → Nat} {s p e : Nat} : mtc b s p e = true ↔ e - p = wlen s ∧ ∀ i, i < wlen s → b (p + i) = wch s i := by
  unfold mtc
  rw [Bool.and_eq_true, decide_eq_true_eq, List.all_eq_true]
  constructor
  · rintro ⟨a, c⟩
    exact ⟨a, fun i hi => of_decide_eq_true (c i (List.mem_range.mpr hi))⟩
  · rintro ⟨a, c⟩
    exact ⟨a, fun i hi => decide_eq_true (c i (List.mem_range.mp hi))⟩
theorem wlen_S : ∀ s, s < 7 → strlen s = nI (wlen s) ∧ lenS.getD s 0 = wlen s ∧ wlen s ≤ 5 := by decide
theorem wch_S : ∀ s, s < 7 → ∀ i, i < 5 → strch s i = nI (wch s i) ∧ wch s i < 256 := by decide
theorem spells_ok {N n s p e : Nat} {b : Nat → Nat} {rr : RS} (hN : 97 ≤ N) (hs : s < 7) (h : BC n b rr) (hpe : p ≤ e) (he : e ≤ n) : fX8_spells N s (nI p) (nI e) rr = some (b2i (mtc b s p e)) := by
  obtain ⟨h1, h2, h3⟩ := h
  obtain ⟨l1, l2, l3⟩ := wlen_S s hs
  unfold fX8_spells
  rw [l1, sub_nI hpe]
  by_cases c : wlen s = e - p
  · rw [if_pos (by rw [c])]
    have key : ∀ d i k, wlen s - i = d → i ≤ wlen s → d < k → (∀ j, j < i → b (p + j) = wch s j) → fX8_spells_L15 N s (nI p) (nI e) rr k (nI i) = some (b2i (mtc b s p e)) := by
      intro d
      induction d with
      | zero =>
        intro i k g1 g2 g3 g4
        obtain ⟨k, rfl⟩ : ∃ j, k = j + 1 := ⟨k - 1, by omega⟩
        rw [fX8_spells_L15, l1, if_pos (nI_le (by omega) (by omega)), mtc_iff.mpr ⟨c.symm, fun j hj => g4 j (by omega)⟩]
        rfl
      | succ d ih =>
        intro i k g1 g2 g3 g4
        obtain ⟨k, rfl⟩ : ∃ j, k = j + 1 := ⟨k - 1, by omega⟩
        obtain ⟨q1, q2⟩ := h3 (p + i) (by omega)
        obtain ⟨z1, z2⟩ := wch_S s hs i (by omega)
        rw [fX8_spells_L15, l1, l2, if_neg (nI_ge (by omega) (by omega)), inb_nI (i := i) (by omega) (by omega), ck_t, nI_add, inb_nI (i := p + i) (by omega) (by omega), ck_t, cl_nI (n := i) (by omega), cl_nI (n := p + i) (by omega), q2, z1]
        by_cases cc : wch s i = b (p + i)
        · rw [if_pos (by rw [cc]), j1]
          exact ih (i + 1) k (by omega) (by omega) (by omega) (fun j hj => by
            by_cases y : j = i
            · subst y; exact cc.symm
            · exact g4 j (by omega))
        · rw [if_neg (fun q => cc ((eq_nI (by omega) (by omega)).mp q))]
          have : mtc b s p e = false := Bool.eq_false_iff.mpr fun q => cc ((mtc_iff.mp q).2 i (by omega)).symm
          rw [this]
          rfl
    exact key (wlen s) 0 N rfl (by omega) (by omega) (fun j hj => absurd hj (by omega))
  · rw [if_neg (fun q => c ((eq_nI (by omega) (by omega)).mp q))]
    have : mtc b s p e = false := Bool.eq_false_iff.mpr fun q => c (mtc_iff.mp q).1.symm
    rw [this]
    rfl
theorem mtc_f {b : Nat → Nat} {s p e i : Nat} (hi : i < wlen s) (h : b (p + i) ≠ wch s i) : mtc b s p e = false := Bool.eq_false_iff.mpr fun q => h ((mtc_iff.mp q).2 i hi)
theorem word_gen {N n s p e : Nat} {b : Nat → Nat} {mm : RS} {x y z w v : Int32} (hs : s < 7) (h : BM n b mm) (hpe : p ≤ e) (he : e ≤ n) (hx : x = nI (wch s 0)) (hy : y = nI (wch s 1)) (hz : 2 < wlen s → z = nI (wch s 2)) (hw : 3 < wlen s → w = nI (wch s 3)) (hv : 4 < wlen s → v = nI (wch s 4)) (h2 : 2 ≤ wlen s) : fX12_isWord N (nI p) (nI (e - p)) x y z w v (nI (wlen s)) mm = some (b2i (mtc b s p e)) := by
  obtain ⟨l1, l2, l3⟩ := wlen_S s hs
  have hn := h.1
  have hb := h.2.2
  unfold fX12_isWord
  by_cases c : e - p = wlen s
  · rw [if_pos (by rw [c])]
    have cmp : ∀ i, i < wlen s → ∀ (u : Int32), u = nI (wch s i) → ∀ {α : Type} (A B : α), (if nI (b (p + i)) = u then A else B) = if b (p + i) = wch s i then A else B := fun i hi u hu α A B => by
      subst hu
      have := (hb (p + i) (by omega)).1
      have := (wch_S s hs i (by omega)).2
      by_cases q : b (p + i) = wch s i
      · rw [if_pos q, if_pos (by rw [q])]
      · rw [if_neg q, if_neg (fun z => q ((eq_nI (by omega) (by omega)).mp z))]
    have byt : ∀ i, i < wlen s → fX12_byteAt N (nI (p + i)) mm = some (nI (b (p + i))) := fun i hi => by
      rw [byteM h (by omega), if_pos (by omega)]
    have b0 : fX12_byteAt N (nI p) mm = some (nI (b (p + 0))) := byt 0 (by omega)
    rw [b0, bnd_s, cmp 0 (by omega) x hx]
    by_cases c0 : b (p + 0) = wch s 0
    · rw [if_pos c0, j1, byt 1 (by omega), bnd_s, cmp 1 (by omega) y hy]
      by_cases c1 : b (p + 1) = wch s 1
      · rw [if_pos c1]
        unfold fX12_isWord_L47 fX12_isWord_L65 fX12_isWord_L83
        by_cases w3 : wlen s < 3
        · have : mtc b s p e = true := mtc_iff.mpr ⟨c, fun i hi => by
            have : i = 0 ∨ i = 1 := by omega
            rcases this with rfl | rfl
            · exact c0
            · exact c1⟩
          rw [if_pos (show nI (wlen s) < 3 from nI_lt (b := 3) w3 (by decide)), if_pos (show nI (wlen s) < 4 from nI_lt (b := 4) (by omega) (by decide)), if_pos (show nI (wlen s) < 5 from nI_lt (b := 5) (by omega) (by decide)), this]
          rfl
        · rw [if_neg (show ¬ nI (wlen s) < 3 from nI_nlt (b := 3) (by omega) (by omega)), j2, byt 2 (by omega), bnd_s, cmp 2 (by omega) z (hz (by omega))]
          by_cases c2 : b (p + 2) = wch s 2
          · rw [if_pos c2]
            by_cases w4 : wlen s < 4
            · have : mtc b s p e = true := mtc_iff.mpr ⟨c, fun i hi => by
                have : i = 0 ∨ i = 1 ∨ i = 2 := by omega
                rcases this with rfl | rfl | rfl
                · exact c0
                · exact c1
                · exact c2⟩
              rw [if_pos (show nI (wlen s) < 4 from nI_lt (b := 4) (by omega) (by decide)), if_pos (show nI (wlen s) < 5 from nI_lt (b := 5) (by omega) (by decide)), this]
              rfl
            · rw [if_neg (show ¬ nI (wlen s) < 4 from nI_nlt (b := 4) (by omega) (by omega)), j3, byt 3 (by omega), bnd_s, cmp 3 (by omega) w (hw (by omega))]
              by_cases c3 : b (p + 3) = wch s 3
              · rw [if_pos c3]
                by_cases w5 : wlen s < 5
                · have : mtc b s p e = true := mtc_iff.mpr ⟨c, fun i hi => by
                    have : i = 0 ∨ i = 1 ∨ i = 2 ∨ i = 3 := by omega
                    rcases this with rfl | rfl | rfl | rfl
                    · exact c0
                    · exact c1
                    · exact c2
                    · exact c3⟩
                  rw [if_pos (show nI (wlen s) < 5 from nI_lt (b := 5) (by omega) (by decide)), this]
                  rfl
                · rw [if_neg (show ¬ nI (wlen s) < 5 from nI_nlt (b := 5) (by omega) (by omega)), j4, byt 4 (by omega), bnd_s, cmp 4 (by omega) v (hv (by omega))]
                  by_cases c4 : b (p + 4) = wch s 4
                  · have : mtc b s p e = true := mtc_iff.mpr ⟨c, fun i hi => by
                      have : i = 0 ∨ i = 1 ∨ i = 2 ∨ i = 3 ∨ i = 4 := by omega
                      rcases this with rfl | rfl | rfl | rfl | rfl
                      · exact c0
                      · exact c1
                      · exact c2
                      · exact c3
                      · exact c4⟩
                    rw [if_pos c4, this]
                    rfl
                  · rw [if_neg c4, mtc_f (by omega) c4]; rfl
              · rw [if_neg c3, mtc_f (by omega) c3]; rfl
          · rw [if_neg c2, mtc_f (by omega) c2]; rfl
      · rw [if_neg c1, mtc_f (by omega) c1]; rfl
    · rw [if_neg c0, mtc_f (by omega) c0]; rfl
  · rw [if_neg (fun q => c ((eq_nI (by omega) (by omega)).mp q))]
    have : mtc b s p e = false := Bool.eq_false_iff.mpr fun q => c (mtc_iff.mp q).1
    rw [this]
    rfl
/-- which word: 0 .. 6, 7 none -/
def wsel (b : Nat → Nat) (p e : Nat) : Nat := if mtc b 0 p e then 0 else if mtc b 1 p e then 1 else if mtc b 2 p e then 2 else if mtc b 3 p e then 3 else if mtc b 4 p e then 4 else if mtc b 5 p e then 5 else if mtc b 6 p e then 6 else 7
def wkC (s : Nat) : Nat := if s < 7 then s + 4 else 1
def wkM (s : Nat) : Nat := if s < 7 then s + 200 else 2
theorem wordC_ok {N n p e : Nat} {b : Nat → Nat} {rr : RS} (hN : 97 ≤ N) (h : BC n b rr) (hpe : p ≤ e) (he : e ≤ n) : fX8_wordKind N (nI p) (nI e) rr = some (nI (wkC (wsel b p e))) := by
  unfold fX8_wordKind wsel
  simp only [spells_ok hN (show 0 < 7 by decide) h hpe he, spells_ok hN (show 1 < 7 by decide) h hpe he, spells_ok hN (show 2 < 7 by decide) h hpe he, spells_ok hN (show 3 < 7 by decide) h hpe he, spells_ok hN (show 4 < 7 by decide) h hpe he, spells_ok hN (show 5 < 7 by decide) h hpe he, spells_ok hN (show 6 < 7 by decide) h hpe he, bnd_s]
  cases mtc b 0 p e <;> cases mtc b 1 p e <;> cases mtc b 2 p e <;> cases mtc b 3 p e <;> cases mtc b 4 p e <;> cases mtc b 5 p e <;> cases mtc b 6 p e <;> rfl
theorem wordM_ok {N n p e : Nat} {b : Nat → Nat} {mm : RS} (h : BM n b mm) (hpe : p ≤ e) (he : e ≤ n) : fX12_wordOf_L24 N (nI p) (nI (e - p)) mm = some (nI (wkM (wsel b p e))) := by
  have w0 : fX12_isWord N (nI p) (nI (e - p)) 114 101 97 100 0 4 mm = some (b2i (mtc b 0 p e)) := word_gen (s := 0) (by decide) h hpe he rfl rfl (fun _ => rfl) (fun _ => rfl) (fun q => absurd q (by decide)) (by decide)
  have w1 : fX12_isWord N (nI p) (nI (e - p)) 119 114 105 116 101 5 mm = some (b2i (mtc b 1 p e)) := word_gen (s := 1) (by decide) h hpe he rfl rfl (fun _ => rfl) (fun _ => rfl) (fun _ => rfl) (by decide)
  have w2 : fX12_isWord N (nI p) (nI (e - p)) 115 99 97 110 0 4 mm = some (b2i (mtc b 2 p e)) := word_gen (s := 2) (by decide) h hpe he rfl rfl (fun _ => rfl) (fun _ => rfl) (fun q => absurd q (by decide)) (by decide)
  have w3 : fX12_isWord N (nI p) (nI (e - p)) 116 105 99 107 0 4 mm = some (b2i (mtc b 3 p e)) := word_gen (s := 3) (by decide) h hpe he rfl rfl (fun _ => rfl) (fun _ => rfl) (fun q => absurd q (by decide)) (by decide)
  have w4 : fX12_isWord N (nI p) (nI (e - p)) 99 114 97 115 104 5 mm = some (b2i (mtc b 4 p e)) := word_gen (s := 4) (by decide) h hpe he rfl rfl (fun _ => rfl) (fun _ => rfl) (fun _ => rfl) (by decide)
  have w5 : fX12_isWord N (nI p) (nI (e - p)) 108 111 111 112 0 4 mm = some (b2i (mtc b 5 p e)) := word_gen (s := 5) (by decide) h hpe he rfl rfl (fun _ => rfl) (fun _ => rfl) (fun q => absurd q (by decide)) (by decide)
  have w6 : fX12_isWord N (nI p) (nI (e - p)) 105 102 0 0 0 2 mm = some (b2i (mtc b 6 p e)) := word_gen (s := 6) (by decide) h hpe he rfl rfl (fun q => absurd q (by decide)) (fun q => absurd q (by decide)) (fun q => absurd q (by decide)) (by decide)
  unfold fX12_wordOf_L24 wsel
  simp only [w0, w1, w2, w3, w4, w5, w6, bnd_s]
  cases mtc b 0 p e <;> cases mtc b 1 p e <;> cases mtc b 2 p e <;> cases mtc b 3 p e <;> cases mtc b 4 p e <;> cases mtc b 5 p e <;> cases mtc b 6 p e <;> rfl
