/-! THE PLANNER: what each extent needs and is worth (the class) -/
theorem nI_l0' : nI 0 = 0 := by decide
def b2i (b : Bool) : Int32 := if b then 1 else 0
theorem b2i_0 {b : Bool} : b2i b = 0 ↔ b = false := by cases b <;> decide
theorem b2i_1 {b : Bool} : b2i b = 1 ↔ b = true := by cases b <;> decide
theorem isB_b2i (b : Bool) : isB (b2i b) = true := by cases b <;> decide
def bgn (w : RS) (m e : Nat) : Bool := (List.range m).any fun i => decide (w 24 i = nI e ∧ w 26 i = 1)
theorem bgn_iff {w : RS} {m e : Nat} : bgn w m e = true ↔ ∃ i, i < m ∧ w 24 i = nI e ∧ w 26 i = 1 := by
  unfold bgn
  rw [List.any_eq_true]
  constructor
  · rintro ⟨i, h1, h2⟩
    exact ⟨i, List.mem_range.mp h1, of_decide_eq_true h2⟩
  · rintro ⟨i, h1, h2⟩
    exact ⟨i, List.mem_range.mpr h1, decide_eq_true h2⟩
def pcN (n : Nat) : Nat := n % 2 + n / 2 % 2 + n / 4 % 2 + n / 8 % 2 + n / 16 % 2 + n / 32 % 2 + n / 64 % 2 + n / 128 % 2
theorem pcC : ∀ n, n < 256 → fJ6_bitCount_0f7a4 (nI n) = nI (pcN n) := by decide +kernel
theorem pcN_le (n : Nat) : pcN n ≤ 8 := by unfold pcN; omega
def pcW (x : Int32) : Nat := pcN x.toNatClampNeg
theorem pcW_C {x : Int32} (h : upto 255 x) : fJ6_bitCount_0f7a4 x = nI (pcW x) := by
  obtain ⟨n, hn, rfl⟩ := h
  unfold pcW
  rw [cl_nI (by omega)]
  exact pcC n (by omega)
theorem bitsM_f {N N' : Nat} {x x' : Int32} : ∀ k c y r j, fX12_bitsOf_L4 N x k c y = some r → fX12_bitsOf_L4 N' x' (k + j) c y = some r := by
  intro k
  induction k with
  | zero => intro c y r j h; cases h
  | succ k ih =>
    intro c y r j h
    rw [show k + 1 + j = (k + j) + 1 from by omega, fX12_bitsOf_L4]
    rw [fX12_bitsOf_L4] at h
    by_cases q : y = 0
    · rw [if_pos q] at h ⊢
      exact h
    · rw [if_neg q] at h ⊢
      exact ih _ _ _ _ h
theorem bitsM_0 : ∀ n, n < 256 → fX12_bitsOf_L4 0 0 9 0 (nI n) = some (nI (pcN n)) := by decide +kernel
theorem pcW_M {N : Nat} (hN : 9 ≤ N) {x : Int32} (h : upto 255 x) : fX12_bitsOf N x = some (nI (pcW x)) := by
  obtain ⟨n, hn, rfl⟩ := h
  unfold pcW fX12_bitsOf
  rw [cl_nI (by omega)]
  have := bitsM_f (N' := N) (x' := nI n) 9 0 (nI n) _ (N - 9) (bitsM_0 n (by omega))
  rw [show 9 + (N - 9) = N from by omega] at this
  exact this
def wnt (w : RS) (e : Nat) : Bool := decide (w 4 e = 1) || (decide (2 ≤ pcW (w 10 e)) && !decide (w 11 e < w 12 e))
def rst (w : RS) (e : Nat) : Bool := !decide (w 5 e ≤ w 1 2)
def mIn (w : RS) (m e : Nat) : Bool := if bgn w m e then decide (w 3 e = 0) else decide (w 3 e = 1) || (!rst w e && wnt w e)
def mOut (w : RS) (m e : Nat) : Bool := if bgn w m e then decide (w 3 e = 1) else !decide (w 3 e = 1) || !rst w e
def nIn (w : RS) (m e : Nat) : Nat := if bgn w m e then 0 else if w 3 e = 1 then 0 else szN e
def nOut (w : RS) (m e : Nat) : Nat := if bgn w m e then 0 else pcW (w 6 e)
def vHeat (w : RS) (e : Nat) : Int32 := if w 3 e = 1 then w 9 e + w 9 e / 4 else w 9 e
def vIn (w : RS) (m e : Nat) : Int32 := vHeat w e + fX6_pinWorth (w 4 e) - w 1 6 * nI (nIn w m e)
def vOut (w : RS) (m e : Nat) : Int32 := -(w 1 6) * nI (nOut w m e)
theorem wantC {N e : Nat} (he : e < 10) {w : RS} (h : upto 255 (w 10 e)) : fX6_isWanted N (nI e) w = some (b2i (wnt w e)) := by
  unfold fX6_isWanted fX6_isWanted_L38 wnt
  rw [inb_nI he (by omega), ck_t, cl_nI (by omega), pcW_C h]
  by_cases c : w 4 e = 1
  · rw [if_pos c, decide_eq_true c]
    rfl
  · rw [if_neg c, decide_eq_false c]
    have hp : pcW (w 10 e) ≤ 8 := pcN_le _
    by_cases c2 : 2 ≤ pcW (w 10 e)
    · rw [if_neg (show ¬ nI (pcW (w 10 e)) < (2 : Int32) from fun q => absurd ((lt_nI (b := 2) (by omega) (by decide)).mp q) (by omega)), decide_eq_true c2]
      by_cases c3 : w 11 e < w 12 e
      · rw [if_pos c3, decide_eq_true c3]
        rfl
      · rw [if_neg c3, decide_eq_false c3]
        rfl
    · rw [if_pos (show nI (pcW (w 10 e)) < (2 : Int32) from (lt_nI (b := 2) (by omega) (by decide)).mpr (by omega)), decide_eq_false c2]
      rfl
/-- the bound extents after i moves -/
def bdP (w : RS) (i : Nat) (p : RS) (e : Nat) : Prop := (∀ j, j < i → w 24 j = nI e → w 26 j = 1 → p 3 e = 1 ∧ p 1 e = b2i (decide (w 3 e = 0)) ∧ p 2 e = b2i (decide (w 3 e = 1))) ∧ ((∀ j, j < i → w 24 j = nI e → w 26 j ≠ 1) → p 3 e = 0)
theorem bind_ok {N m : Nat} (hN : 97 ≤ N) (hm : m ≤ 10) {w p : RS} (hi : IW w) (h23 : w 23 0 = nI m) : ∃ p', fX6_bind N w p = some p' ∧ p' 0 = p 0 ∧ ∀ e, e < 10 → bdP w m p' e := by
  obtain ⟨n, u1, u2, u3, u4⟩ := hi.2.2.2.1
  have en : n = m := (eq_nI (by omega) (by omega)).mp (u2.symm.trans h23)
  subst en
  have key2 : ∀ d i k p1, n - i = d → i ≤ n → d < k → p1 0 = p 0 → (∀ e, e < 10 → bdP w i p1 e) → ∃ p', fX6_bind_L23 N w k (nI i) p1 = some p' ∧ p' 0 = p 0 ∧ ∀ e, e < 10 → bdP w n p' e := by
    intro d
    induction d with
    | zero =>
      intro i k p1 h1 h2 h3 h4 h5
      obtain ⟨k, rfl⟩ : ∃ j, k = j + 1 := ⟨k - 1, by omega⟩
      have : i = n := by omega
      subst this
      exact ⟨p1, by rw [fX6_bind_L23, h23, if_pos (nI_le (Nat.le_refl _) (by omega))], h4, h5⟩
    | succ d ih =>
      intro i k p1 h1 h2 h3 h4 h5
      obtain ⟨k, rfl⟩ : ∃ j, k = j + 1 := ⟨k - 1, by omega⟩
      obtain ⟨f, f1, f2, f3, f4⟩ := u3 i (by omega)
      have hst : fX6_bind_L23 N w (k + 1) (nI i) p1 = (if w 26 i = 1 then fX6_bind_L23 N w k (nI (i + 1)) (sr (sr (sr p1 3 (upd (p1 3) f 1)) 1 (upd (p1 1) f (b2i (decide (w 3 f = 0))))) 2 (upd (p1 2) f (b2i (decide (w 3 f = 1))))) else fX6_bind_L23 N w k (nI (i + 1)) p1) := by
        rw [fX6_bind_L23, h23, if_neg (nI_ge (by omega) (by omega)), inb_nI (by omega) (by omega), ck_t, cl_nI (n := i) (by omega)]
        unfold fX6_bind_L75 fX6_bind_L95 fX6_bind_L96
        rw [f2, j1]
        have i1 : isB 1 = true := by decide
        have i0 : isB 0 = true := by decide
        have n10 : ¬ (1 : Int32) = 0 := by decide
        have n01 : ¬ (0 : Int32) = 1 := by decide
        rcases hi.1.1 f f1 with q | q
        · have h25 : w 25 i = 1 := by rw [f3, q]; rfl
          rw [q, show b2i (decide ((0 : Int32) = 0)) = 1 from rfl, show b2i (decide ((0 : Int32) = 1)) = 0 from rfl]
          simp (disch := omega) only [thn_e, ck_t, st_d, sr_e, sr_n, inb_nI, cl_nI, h25, i1, i0, n10, if_true, if_false]
        · have h25 : w 25 i = 0 := by rw [f3, q]; rfl
          rw [q, show b2i (decide ((1 : Int32) = 0)) = 0 from rfl, show b2i (decide ((1 : Int32) = 1)) = 1 from rfl]
          simp (disch := omega) only [thn_e, ck_t, st_d, sr_e, sr_n, inb_nI, cl_nI, h25, i1, i0, n01, if_true, if_false]
      by_cases c : w 26 i = 1
      · rw [if_pos c] at hst
        rw [hst]
        refine ih (i + 1) k _ (by omega) (by omega) (by omega) (by rw [sr_n (by decide), sr_n (by decide), sr_n (by decide)]; exact h4) (fun e he => ?_)
        unfold bdP
        simp (disch := omega) only [sr_n, sr_e]
        by_cases q : e = f
        · subst q
          rw [upd_e, upd_e, upd_e]
          exact ⟨fun _ _ _ _ => ⟨rfl, rfl, rfl⟩, fun h => absurd c (h i (by omega) f2)⟩
        · rw [upd_n q, upd_n q, upd_n q]
          have hne : w 24 i ≠ nI e := fun z => q ((eq_nI (by omega) (by omega)).mp (z.symm.trans f2))
          refine ⟨fun j hj j1 j2 => ?_, fun h => (h5 e he).2 (fun j hj => h j (by omega))⟩
          by_cases z : j = i
          · subst z; exact absurd j1 hne
          · exact (h5 e he).1 j (by omega) j1 j2
      · rw [if_neg c] at hst
        rw [hst]
        refine ih (i + 1) k _ (by omega) (by omega) (by omega) h4 (fun e he => ⟨fun j hj j1 j2 => ?_, fun h => (h5 e he).2 (fun j hj => h j (by omega))⟩)
        by_cases z : j = i
        · subst z; exact absurd j2 c
        · exact (h5 e he).1 j (by omega) j1 j2
  have key1 : ∀ d e k p1, 10 - e = d → e ≤ 10 → d < k → p1 0 = p 0 → (∀ f, f < e → p1 3 f = 0) → ∃ p', fX6_bind_L2 N w k (nI e) p1 = some p' ∧ p' 0 = p 0 ∧ ∀ e, e < 10 → bdP w n p' e := by
    intro d
    induction d with
    | zero =>
      intro e k p1 h1 h2 h3 h4 h5
      obtain ⟨k, rfl⟩ : ∃ j, k = j + 1 := ⟨k - 1, by omega⟩
      have : e = 10 := by omega
      subst this
      obtain ⟨p', g1, g2⟩ := key2 n 0 N p1 rfl (by omega) (by omega) h4 (fun f hf => ⟨fun j hj => absurd hj (by omega), fun _ => h5 f hf⟩)
      exact ⟨p', g1, g2⟩
    | succ d ih =>
      intro e k p1 h1 h2 h3 h4 h5
      obtain ⟨k, rfl⟩ : ∃ j, k = j + 1 := ⟨k - 1, by omega⟩
      rw [fX6_bind_L2, if_neg (fun q => absurd ((le_10 (by omega)).mp q) (by omega)), inb_nI (by omega) (by omega), ck_t, thn_e, cl_nI (by omega), j1]
      refine ih (e + 1) k _ (by omega) (by omega) (by omega) (by rw [st_n (by decide)]; exact h4) (fun f hf => ?_)
      rw [st_e]
      by_cases q : f = e
      · subst q; rw [upd_e]
      · rw [upd_n q]; exact h5 f (by omega)
  exact key1 10 0 N p rfl (by omega) (by omega) rfl (fun f hf => absurd hf (by omega))
def WG (w : RS) (m : Nat) (p : RS) (e : Nat) : Prop := p 3 e = b2i (bgn w m e) ∧ p 1 e = b2i (mIn w m e) ∧ p 2 e = b2i (mOut w m e) ∧ p 6 e = nI (nIn w m e) ∧ p 7 e = nI (nOut w m e) ∧ p 4 e = vIn w m e ∧ p 5 e = vOut w m e
theorem bdP_bgn {w p : RS} {m e : Nat} (h : bdP w m p e) : p 3 e = b2i (bgn w m e) ∧ (bgn w m e = true → p 1 e = b2i (mIn w m e) ∧ p 2 e = b2i (mOut w m e)) := by
  unfold mIn mOut
  cases c : bgn w m e with
  | true =>
    obtain ⟨i, h1, h2, h3⟩ := bgn_iff.mp c
    obtain ⟨g1, g2, g3⟩ := h.1 i h1 h2 h3
    exact ⟨g1, fun _ => ⟨g2, g3⟩⟩
  | false =>
    refine ⟨h.2 fun i h1 h2 h3 => ?_, fun q => by cases q⟩
    rw [bgn_iff.mpr ⟨i, h1, h2, h3⟩] at c
    cases c
theorem wg_fin {N m e : Nat} {x2 x5 : Int32} (he : e < 10) {w p p1 : RS} (k : Nat) (h3 : p1 3 e = b2i (bgn w m e)) (h1 : p1 1 e = b2i (mIn w m e)) (h2 : p1 2 e = b2i (mOut w m e)) (h6 : p1 6 e = nI (nIn w m e)) (h7 : p1 7 e = nI (nOut w m e)) (h0 : p1 0 = p 0) (hf : ∀ f, f ≠ e → ∀ c, p1 c f = p c f) (hh : fX6_heatWorth (w 9 e) x5 = vHeat w e) :
    ∃ p', fX6_weigh_L190 N x2 w (fX6_weigh_L21 N x2 w k) (nI e) x5 p1 = fX6_weigh_L21 N x2 w k (nI (e + 1)) p' ∧ p' 0 = p 0 ∧ WG w m p' e ∧ ∀ f, f ≠ e → ∀ c, p' c f = p c f := by
  refine ⟨sr (sr p1 4 (upd (p1 4) e (vIn w m e))) 5 (upd (p1 5) e (vOut w m e)), ?_, ?_, ⟨?_, ?_, ?_, ?_, ?_, ?_, ?_⟩, fun f hfe c => ?_⟩
  · unfold fX6_weigh_L190 vIn vOut
    rw [inb_nI he (by omega), ck_t, thn_e, thn_e, cl_nI (by omega), st_d, st_d, sr_n (by decide), sr_n (by decide), h6, h7, hh, j1]
  · rw [sr_n (by decide), sr_n (by decide), h0]
  · rw [sr_n (by decide), sr_n (by decide), h3]
  · rw [sr_n (by decide), sr_n (by decide), h1]
  · rw [sr_n (by decide), sr_n (by decide), h2]
  · rw [sr_n (by decide), sr_n (by decide), h6]
  · rw [sr_n (by decide), sr_n (by decide), h7]
  · rw [sr_n (by decide), sr_e, upd_e]
  · rw [sr_e, upd_e]
  · by_cases c5 : c = 5
    · subst c5; rw [sr_e, upd_n hfe, hf f hfe]
    · rw [sr_n c5]
      by_cases c4 : c = 4
      · subst c4; rw [sr_e, upd_n hfe, hf f hfe]
      · rw [sr_n c4, hf f hfe]
theorem sr4_f {p : RS} {e f c a1 a2 a3 a4 : Nat} {x1 x2 x3 x4 : Int32} (hfe : f ≠ e) : sr (sr (sr (sr p a1 (upd (p a1) e x1)) a2 (upd (p a2) e x2)) a3 (upd (p a3) e x3)) a4 (upd (p a4) e x4) c f = p c f := by
  by_cases c4 : c = a4
  · subst c4; rw [sr_e, upd_n hfe]
  rw [sr_n c4]
  by_cases c3 : c = a3
  · subst c3; rw [sr_e, upd_n hfe]
  rw [sr_n c3]
  by_cases c2 : c = a2
  · subst c2; rw [sr_e, upd_n hfe]
  rw [sr_n c2]
  by_cases c1 : c = a1
  · subst c1; rw [sr_e, upd_n hfe]
  rw [sr_n c1]
/-- one extent is weighed -/
theorem weigh_1 {N m e : Nat} {x2 : Int32} (he : e < 10) {w p : RS} (hi : IW w) (h3 : p 3 e = b2i (bgn w m e)) (hb : bgn w m e = true → p 1 e = b2i (mIn w m e) ∧ p 2 e = b2i (mOut w m e)) (k : Nat) :
    ∃ p', fX6_weigh_L21 N x2 w (k + 1) (nI e) p = fX6_weigh_L21 N x2 w k (nI (e + 1)) p' ∧ p' 0 = p 0 ∧ WG w m p' e ∧ ∀ f, f ≠ e → ∀ c, p' c f = p c f := by
  have n10 : ¬ (10 : Int32) ≤ nI e := fun q => absurd ((le_10 (by omega)).mp q) (by omega)
  have hu : upto 255 (w 10 e) := hi.1.2.2.2.2.2.1 e he
  have hd : upto 255 (w 6 e) := upto_le (hi.1.2.2.1 e he) (by have := @p2_le e; omega)
  have hf2 := hi.1.1 e he
  have hL : fX6_weigh_L21 N x2 w (k + 1) (nI e) p = fX6_weigh_L67 N x2 w (fX6_weigh_L21 N x2 w k) (nI e) (if w 3 e = 1 then 1 else 0) (b2i (rst w e)) p := by
    rw [fX6_weigh_L21, if_neg n10, inb_nI he (by omega), ck_t, cl_nI (by omega)]
    unfold fX6_weigh_L44 rst
    rw [inb_nI he (by omega), ck_t, ck_t, cl_nI (by omega)]
    by_cases c : w 5 e ≤ w 1 2
    · rw [if_pos c, if_pos c, decide_eq_true c]
      split <;> rfl
    · rw [if_neg c, if_neg c, decide_eq_false c]
      split <;> rfl
  have hhw : fX6_heatWorth (w 9 e) (if w 3 e = 1 then 1 else 0) = vHeat w e := by
    unfold fX6_heatWorth vHeat
    by_cases c : w 3 e = 1
    · rw [if_pos c, if_pos c, if_neg (by decide)]
    · rw [if_neg c, if_neg c, if_pos rfl]
  rw [hL]
  cases cb : bgn w m e with
  | true =>
    obtain ⟨g1, g2⟩ := hb cb
    have hL2 : fX6_weigh_L67 N x2 w (fX6_weigh_L21 N x2 w k) (nI e) (if w 3 e = 1 then 1 else 0) (b2i (rst w e)) p = fX6_weigh_L190 N x2 w (fX6_weigh_L21 N x2 w k) (nI e) (if w 3 e = 1 then 1 else 0) (sr (sr p 6 (upd (p 6) e 0)) 7 (upd (p 7) e 0)) := by
      unfold fX6_weigh_L67
      rw [inb_nI he (by omega), ck_t, cl_nI (by omega), h3, cb, if_neg (by decide), thn_e, thn_e, st_d, st_d, sr_n (by decide)]
    rw [hL2]
    refine wg_fin he k ?_ ?_ ?_ ?_ ?_ ?_ (fun f hfe c => ?_) hhw
    · rw [sr_n (by decide), sr_n (by decide), h3]
    · rw [sr_n (by decide), sr_n (by decide), g1]
    · rw [sr_n (by decide), sr_n (by decide), g2]
    · rw [sr_n (by decide), sr_e, upd_e]
      unfold nIn
      rw [if_pos cb]
      rfl
    · rw [sr_e, upd_e]
      unfold nOut
      rw [if_pos cb]
      rfl
    · rw [sr_n (by decide), sr_n (by decide)]
    · by_cases c7 : c = 7
      · subst c7; rw [sr_e, upd_n hfe]
      rw [sr_n c7]
      by_cases c6 : c = 6
      · subst c6; rw [sr_e, upd_n hfe]
      rw [sr_n c6]
  | false =>
    have hL2 : fX6_weigh_L67 N x2 w (fX6_weigh_L21 N x2 w k) (nI e) (if w 3 e = 1 then 1 else 0) (b2i (rst w e)) p = fX6_weigh_L190 N x2 w (fX6_weigh_L21 N x2 w k) (nI e) (if w 3 e = 1 then 1 else 0) (sr (sr (sr (sr p 1 (upd (p 1) e (b2i (mIn w m e)))) 2 (upd (p 2) e (b2i (mOut w m e)))) 6 (upd (p 6) e (nI (nIn w m e)))) 7 (upd (p 7) e (nI (nOut w m e)))) := by
      unfold fX6_weigh_L67 fX6_weigh_L127 fX6_weigh_L123 fX6_weigh_L128 fX6_weigh_L145 fX6_weigh_L150 fX6_weigh_L172 mIn mOut nIn nOut
      rw [inb_nI he (by omega), ck_t, cl_nI (by omega), h3, cb, if_pos (show b2i false = 0 from rfl), wantC he hu, bnd_s, pcW_C hd, sizeT_N e he]
      have i1 : isB 1 = true := by decide
      have i0 : isB 0 = true := by decide
      have n10' : ¬ (1 : Int32) = 0 := by decide
      have n01' : ¬ (0 : Int32) = 1 := by decide
      rcases hf2 with c | c
      · rw [c]
        cases rst w e <;> cases wnt w e <;> simp (disch := omega) [b2i, thn_e, ck_t, st_d, sr_e, sr_n, i1, i0]
      · rw [c]
        cases rst w e <;> cases wnt w e <;> simp (disch := omega) [b2i, thn_e, ck_t, st_d, sr_e, sr_n, i1, i0, nI_l0']
    rw [hL2]
    refine wg_fin he k ?_ ?_ ?_ ?_ ?_ ?_ (fun f hfe c => sr4_f hfe) hhw
    · rw [sr_n (by decide), sr_n (by decide), sr_n (by decide), sr_n (by decide), h3]
    · rw [sr_n (by decide), sr_n (by decide), sr_n (by decide), sr_e, upd_e]
    · rw [sr_n (by decide), sr_n (by decide), sr_e, upd_e]
    · rw [sr_n (by decide), sr_e, upd_e]
    · rw [sr_e, upd_e]
    · rw [sr_n (by decide), sr_n (by decide), sr_n (by decide), sr_n (by decide)]
theorem weigh_ok {N m : Nat} {x2 : Int32} (hN : 97 ≤ N) (hm : m ≤ 10) {w p : RS} (hi : IW w) (h23 : w 23 0 = nI m) : ∃ p', fX6_weigh N x2 w p = some p' ∧ p' 0 = upd (p 0) 7 x2 ∧ ∀ e, e < 10 → WG w m p' e := by
  obtain ⟨p1, g1, g2, g3⟩ := bind_ok (p := st p 0 7 x2) hN hm hi h23
  have key : ∀ d e k p2, 10 - e = d → e ≤ 10 → d < k → p2 0 = p1 0 → (∀ f, f < e → WG w m p2 f) → (∀ f, e ≤ f → ∀ c, p2 c f = p1 c f) → ∃ p', fX6_weigh_L21 N x2 w k (nI e) p2 = some p' ∧ p' 0 = p1 0 ∧ ∀ e, e < 10 → WG w m p' e := by
    intro d
    induction d with
    | zero =>
      intro e k p2 h1 h2 h3 h4 h5 h6
      obtain ⟨k, rfl⟩ : ∃ j, k = j + 1 := ⟨k - 1, by omega⟩
      have : e = 10 := by omega
      subst this
      exact ⟨p2, rfl, h4, h5⟩
    | succ d ih =>
      intro e k p2 h1 h2 h3 h4 h5 h6
      obtain ⟨k, rfl⟩ : ∃ j, k = j + 1 := ⟨k - 1, by omega⟩
      have he : e < 10 := by omega
      obtain ⟨b1, b2⟩ := bdP_bgn (g3 e he)
      obtain ⟨p3, k1, k2, k3, k4⟩ := weigh_1 (x2 := x2) (N := N) (p := p2) he hi (by rw [h6 e (Nat.le_refl _)]; exact b1) (fun q => by rw [h6 e (Nat.le_refl _), h6 e (Nat.le_refl _)]; exact b2 q) k
      obtain ⟨p', i1, i2⟩ := ih (e + 1) k p3 (by omega) (by omega) (by omega) (k2.trans h4) (fun f hf => by
        by_cases q : f = e
        · subst q; exact k3
        · unfold WG
          rw [k4 f q, k4 f q, k4 f q, k4 f q, k4 f q, k4 f q, k4 f q]
          exact h5 f (by omega)) (fun f hf c => by rw [k4 f (by omega)]; exact h6 f (by omega) c)
      exact ⟨p', k1.trans i1, i2⟩
  obtain ⟨p', k1, k2, k3⟩ := key 10 0 N p1 rfl (by omega) (by omega) rfl (fun f hf => absurd hf (by omega)) (fun _ _ _ => rfl)
  refine ⟨p', ?_, by rw [k2, g2, st_e], k3⟩
  unfold fX6_weigh
  rw [thn_e, g1, bnd_s]
  exact k1
