/-! THE PLANNER: sets, as the reference goes through them -/
def bitS (s e : Nat) : Bool := decide (s / 2 ^ e % 2 = 1)
set_option maxRecDepth 100000 in
theorem has10 : ∀ s, s < 1024 → ∀ e, e < 10 → fX12_has (nI s) (nI e) = b2i (bitS s e) := by decide +kernel
theorem isIn10 {s e : Nat} (hs : s < 1024) (he : e < 10) : fX6_isIn (nI s) (nI e) = b2i (bitS s e) := has10 s hs e he
theorem isFastM {N e : Nat} (he : e < 10) {w mm : RS} {a : Nat → Int32} (hr : RW w a) (hi : IW w) : fX12_isFast N (nI e) (sr mm 1 a) = some (w 3 e) := by
  have h : a (109 + e) = w 3 e := hr.2.1.1 e he
  unfold fX12_isFast
  rw [i109, inb_nI (by omega) (by omega), ck_t, cl_nI (by omega), sr_e, h]
  rcases hi.1.1 e he with q | q
  · rw [q]; rfl
  · rw [q]; rfl
theorem begunM {N m e : Nat} (hN : 97 ≤ N) (hm : m ≤ 10) (he : e < 10) {w mm : RS} {a : Nat → Int32} (hr : RW w a) (hi : IW w) (h23 : w 23 0 = nI m) : fX12_begunOf N (nI e) (sr mm 1 a) = some (if bgn w m e then 1 - w 3 e else -1) := by
  obtain ⟨r, g1, g2⟩ := findM_ok (N := N) (mm := mm) (by omega) hm (m17_of hr h23) (nI e)
  unfold fX12_begunOf fX12_begunOf_L20
  rw [g1, bnd_s]
  rcases g2 with ⟨i, h1, h2, h3, rfl⟩ | ⟨h1, rfl⟩
  · obtain ⟨f, hv⟩ := mv_ex hr hi h23 hm h1
    have hfe : f = e := (eq_nI (by have := hv.2.2.2.2.1; omega) (by omega)).mp (hv.2.2.2.2.2.2.2.2.1.symm.trans h2)
    subst hfe
    have q1 := @ofM N i 1 mm a (by omega) (by omega)
    rw [hv.2.2.2.2.2.2.2.2.2.1] at q1
    have q1' : fX12_ofMove N (nI i) 1 (sr mm 1 a) = some (w 25 i) := q1
    rw [if_neg (ne_m1 (by omega)), mvI_26 hv, bnd_s, q1', bnd_s]
    rcases hv.2.2.2.2.2.2.2.1 with c | c
    · have hb : bgn w m f = false := by
        cases q : bgn w m f with
        | false => rfl
        | true =>
          obtain ⟨j, j1, j2, j3⟩ := bgn_iff.mp q
          have := hv.2.2.2.2.2.2.2.2.2.2.2.2 j j1 j2
          subst this
          rw [c] at j3
          exact absurd j3 (by decide)
      rw [c, if_pos rfl, hb]
      rfl
    · have hb : bgn w m f = true := bgn_iff.mpr ⟨i, h1, hv.2.2.2.2.2.1, c⟩
      rw [c, if_neg (by decide), hb, if_pos rfl, hv.2.2.2.2.2.2.1]
  · have hb : bgn w m e = false := by
      cases q : bgn w m e with
      | false => rfl
      | true =>
        obtain ⟨j, j1, j2, j3⟩ := bgn_iff.mp q
        obtain ⟨f, hv⟩ := mv_ex hr hi h23 hm j1
        have hfe : f = e := (eq_nI (by have := hv.2.2.2.2.1; omega) (by omega)).mp (hv.2.2.2.2.2.1.symm.trans j2)
        subst hfe
        exact absurd hv.2.2.2.2.2.2.2.2.1 (h1 j j1)
    rw [if_pos rfl, hb]
    rfl
def cpy1 (w : RS) (m e : Nat) (c : Bool) : Nat := if c then nIn w m e else nOut w m e
def may1 (w : RS) (m e : Nat) (c : Bool) : Bool := if c then mIn w m e else mOut w m e
def val1 (w : RS) (m e : Nat) (c : Bool) : Int32 := if c then vIn w m e else vOut w m e
theorem copiedM {N m e : Nat} (hN : 97 ≤ N) (hm : m ≤ 10) (he : e < 10) {w mm : RS} {a : Nat → Int32} (hr : RW w a) (hi : IW w) (h23 : w 23 0 = nI m) (c : Bool) : fX12_copiedFor N (nI e) (b2i c) (sr mm 1 a) = some (nI (cpy1 w m e c)) := by
  unfold fX12_copiedFor cpy1 nIn nOut
  rw [begunM hN hm he hr hi h23, bnd_s]
  have h79 : a (79 + e) = w 6 e := RW_79 hr he
  have hd : upto 255 (w 6 e) := upto_le (hi.1.2.2.1 e he) (by have := @p2_le e; omega)
  cases hb : bgn w m e with
  | true =>
    rw [if_pos rfl]
    rcases hi.1.1 e he with q | q
    · rw [q, if_neg (by decide)]
      cases c <;> rfl
    · rw [q, if_neg (by decide)]
      cases c <;> rfl
  | false =>
    rw [if_neg (show ¬ (false = true) by decide), if_pos (show (-1 : Int32) = -1 from rfl), isFastM he hr hi, bnd_s]
    rcases hi.1.1 e he with q | q
    · have h0 : w 6 e = 0 := hi.1.2.2.2.1 e he q
      rw [q]
      cases c with
      | true =>
        rw [if_neg (by decide), if_neg (by decide), sizeM_N e he]
        rfl
      | false =>
        rw [if_pos (show b2i false = 0 from rfl), h0]
        rfl
    · rw [q]
      cases c with
      | true => rw [if_pos (show b2i true = 1 from rfl)]; rfl
      | false =>
        rw [if_neg (by decide), if_pos rfl, i79, inb_nI (by omega) (by omega), ck_t, cl_nI (by omega), sr_e, h79, pcW_M (by omega) hd, bnd_s]
        rfl
theorem mayM {N m e : Nat} (hN : 97 ≤ N) (hm : m ≤ 10) (he : e < 10) {w mm : RS} {a : Nat → Int32} (hr : RW w a) (hi : IW w) (h23 : w 23 0 = nI m) (c : Bool) : fX12_mayBe N (nI e) (b2i c) (sr mm 1 a) = some (b2i (may1 w m e c)) := by
  unfold fX12_mayBe may1 mIn mOut
  rw [begunM hN hm he hr hi h23, bnd_s]
  have h69 : a (69 + e) = w 4 e := hr.2.1.2.1 e he
  have h29 : a (29 + e) = w 10 e := hr.2.1.2.2.2.2.2.2.1 e he
  have h39 : a (39 + e) = w 11 e := hr.2.1.2.2.2.2.2.2.2.1 e he
  have h49 : a (49 + e) = w 12 e := hr.2.1.2.2.2.2.2.2.2.2.1 e he
  have h59 : a (59 + e) = w 5 e := hr.2.1.2.2.1 e he
  have h5 : a 5 = w 1 2 := (row13_iff.mp hr.1).2.2.1
  have hu : upto 255 (w 10 e) := hi.1.2.2.2.2.2.1 e he
  cases hb : bgn w m e with
  | true =>
    rw [if_pos rfl]
    unfold fX12_mayBe_L22
    rcases hi.1.1 e he with q | q
    · rw [q, if_neg (by decide), if_pos (by decide)]
      cases c <;> rfl
    · rw [q, if_neg (by decide), if_neg (by decide)]
      cases c <;> rfl
  | false =>
    rw [if_neg (show ¬ (false = true) by decide), if_pos (show (-1 : Int32) = -1 from rfl), i59, inb_nI (by omega) (by omega), ck_t, cl_nI (by omega), sr_e, h59, h5, isFastM he hr hi, bnd_s]
    have h60 : fX12_mayBe_L60 N (nI e) (b2i c) (sr mm 1 a) = some (b2i (if c then (decide (w 3 e = 1) || wnt w e) else true)) := by
      unfold fX12_mayBe_L60 fX12_mayBe_L122 wnt
      cases c with
      | false => rw [if_pos (show b2i false = 0 from rfl)]; rfl
      | true =>
        rw [if_neg (by decide), isFastM he hr hi, bnd_s]
        rcases hi.1.1 e he with q | q
        · rw [q, if_pos rfl, i69, inb_nI (by omega) (by omega), ck_t, cl_nI (by omega), sr_e, h69]
          by_cases c4 : w 4 e = 1
          · rw [if_pos c4, decide_eq_true c4]
            rfl
          · rw [if_neg c4, decide_eq_false c4, i29, inb_nI (by omega) (by omega), ck_t, cl_nI (by omega), h29, pcW_M (by omega) hu, bnd_s, i49, inb_nI (by omega) (by omega), ck_t, i39, inb_nI (by omega) (by omega), ck_t, cl_nI (by omega), cl_nI (by omega), h39, h49]
            have hp : pcW (w 10 e) ≤ 8 := pcN_le _
            by_cases c2 : 2 ≤ pcW (w 10 e)
            · rw [if_neg (show ¬ nI (pcW (w 10 e)) < (2 : Int32) from fun z => absurd ((lt_nI (b := 2) (by omega) (by decide)).mp z) (by omega)), decide_eq_true c2]
              by_cases c3 : w 11 e < w 12 e
              · rw [if_pos c3, decide_eq_true c3]; rfl
              · rw [if_neg c3, decide_eq_false c3]; rfl
            · rw [if_pos (show nI (pcW (w 10 e)) < (2 : Int32) from (lt_nI (b := 2) (by omega) (by decide)).mpr (by omega)), decide_eq_false c2]; rfl
        · rw [q, if_neg (by decide)]; rfl
    rw [h60]
    unfold rst
    rcases hi.1.1 e he with q | q
    · rw [q]
      by_cases c5 : w 5 e ≤ w 1 2
      · rw [if_pos c5, decide_eq_true c5]
        cases c <;> cases wnt w e <;> rfl
      · rw [if_neg c5, decide_eq_false c5]
        cases c <;> cases wnt w e <;> rfl
    · rw [q]
      by_cases c5 : w 5 e ≤ w 1 2
      · rw [if_pos c5, decide_eq_true c5]
        cases c <;> cases wnt w e <;> rfl
      · rw [if_neg c5, decide_eq_false c5]
        cases c <;> cases wnt w e <;> rfl
/-! sets at large -/
def iN : Nat → (Nat → Int32) → Int32
  | 0, _ => 0
  | n + 1, f => iN n f + f n
def szs (s : Nat) (n : Nat) : Nat := sN n fun e => if bitS s e then szN e else 0
def nds (g : Nat → Bool → Nat) (s : Nat) (n : Nat) : Nat := sN n fun e => g e (bitS s e)
def als (y : Nat → Bool → Bool) (g : Nat → Bool → Nat) (bu s : Nat) : Bool := ((List.range 10).all fun e => y e (bitS s e)) && decide (szs s 10 ≤ 9) && decide (nds g s 10 ≤ bu)
def wos (v : Nat → Bool → Int32) (s : Nat) : Int32 := iN 10 fun e => v e (bitS s e)
theorem als_iff {y : Nat → Bool → Bool} {g : Nat → Bool → Nat} {bu s : Nat} : als y g bu s = true ↔ (∀ e, e < 10 → y e (bitS s e) = true) ∧ szs s 10 ≤ 9 ∧ nds g s 10 ≤ bu := by
  unfold als
  rw [Bool.and_eq_true, Bool.and_eq_true, List.all_eq_true, decide_eq_true_eq, decide_eq_true_eq]
  constructor
  · rintro ⟨⟨h1, h2⟩, h3⟩
    exact ⟨fun e he => h1 e (List.mem_range.mpr he), h2, h3⟩
  · rintro ⟨h1, h2, h3⟩
    exact ⟨⟨fun e he => h1 e (List.mem_range.mp he), h2⟩, h3⟩
theorem cpy1_le {w : RS} {m e : Nat} {c : Bool} : cpy1 w m e c ≤ 8 := by
  unfold cpy1 nIn nOut
  have h1 := szN_le e
  have h2 := pcN_le (w 6 e).toNatClampNeg
  unfold pcW
  cases c <;> cases bgn w m e <;> simp only [if_true, if_false, Bool.false_eq_true] <;> (try split) <;> omega
theorem sN_bound {n c : Nat} {f : Nat → Nat} (h : ∀ i, f i ≤ c) : sN n f ≤ n * c := by
  induction n with
  | zero => exact Nat.zero_le _
  | succ n ih => show sN n f + f n ≤ _; rw [Nat.succ_mul]; have := h n; omega
theorem allowedM {N m bu s : Nat} (hN : 97 ≤ N) (hm : m ≤ 10) (hs : s < 1024) (hbu : bu < 1000) {w mm : RS} {a : Nat → Int32} (hr : RW w a) (hi : IW w) (h23 : w 23 0 = nI m) : fX12_isAllowed N (nI s) (nI bu) (sr mm 1 a) = some (b2i (als (may1 w m) (cpy1 w m) bu s)) := by
  have key : ∀ d e k, 10 - e = d → e ≤ 10 → d < k → (∀ i, i < e → may1 w m i (bitS s i) = true) → fX12_isAllowed_L8 N (nI s) (nI bu) (sr mm 1 a) k (nI (szs s e)) (nI (nds (cpy1 w m) s e)) (nI e) = some (b2i (als (may1 w m) (cpy1 w m) bu s)) := by
    intro d
    induction d with
    | zero =>
      intro e k h1 h2 h3 h4
      obtain ⟨k, rfl⟩ : ∃ j, k = j + 1 := ⟨k - 1, by omega⟩
      have : e = 10 := by omega
      subst this
      have b1 : szs s 10 ≤ 10 * 4 := sN_bound (fun i => by have := szN_le i; split <;> omega)
      have b2 : nds (cpy1 w m) s 10 ≤ 10 * 8 := sN_bound (fun i => cpy1_le)
      rw [fX12_isAllowed_L8, if_pos (show (10 : Int32) ≤ nI 10 from by decide)]
      by_cases c1 : szs s 10 ≤ 9
      · rw [if_neg (show ¬ (9 : Int32) < nI (szs s 10) from fun q => absurd ((lt_nI (a := 9) (by decide) (by omega)).mp q) (by omega))]
        by_cases c2 : nds (cpy1 w m) s 10 ≤ bu
        · rw [if_neg (nI_nlt c2 (by omega)), als_iff.mpr ⟨h4, c1, c2⟩]; rfl
        · rw [if_pos (nI_lt (by omega) (by omega)), show als (may1 w m) (cpy1 w m) bu s = false from by
            cases q : als (may1 w m) (cpy1 w m) bu s with
            | false => rfl
            | true => exact absurd (als_iff.mp q).2.2 c2]
          rfl
      · rw [if_pos (show (9 : Int32) < nI (szs s 10) from (lt_nI (a := 9) (by decide) (by omega)).mpr (by omega)), show als (may1 w m) (cpy1 w m) bu s = false from by
          cases q : als (may1 w m) (cpy1 w m) bu s with
          | false => rfl
          | true => exact absurd (als_iff.mp q).2.1 c1]
        rfl
    | succ d ih =>
      intro e k h1 h2 h3 h4
      obtain ⟨k, rfl⟩ : ∃ j, k = j + 1 := ⟨k - 1, by omega⟩
      have he : e < 10 := by omega
      rw [fX12_isAllowed_L8, if_neg (fun q => absurd ((le_10 (by omega)).mp q) (by omega)), thn_e, has10 s hs e he, mayM hN hm he hr hi h23, bnd_s]
      cases cm : may1 w m e (bitS s e) with
      | false =>
        rw [if_pos (show b2i false = 0 from rfl), show als (may1 w m) (cpy1 w m) bu s = false from by
          cases q : als (may1 w m) (cpy1 w m) bu s with
          | false => rfl
          | true => rw [(als_iff.mp q).1 e he] at cm; cases cm]
        rfl
      | true =>
        rw [if_neg (by decide)]
        have hst : ∀ c, c = (if bitS s e then szN e else 0) → fX12_isAllowed_L51 N (nI s) (nI bu) (sr mm 1 a) (fX12_isAllowed_L8 N (nI s) (nI bu) (sr mm 1 a) k) (nI (nds (cpy1 w m) s e)) (nI e) (b2i (bitS s e)) (nI (szs s e)) (nI c) = some (b2i (als (may1 w m) (cpy1 w m) bu s)) := by
          intro c hc
          unfold fX12_isAllowed_L51
          rw [thn_e, copiedM hN hm he hr hi h23, bnd_s, thn_e, nI_add, nI_add, j1, hc]
          exact ih (e + 1) k (by omega) (by omega) (by omega) (fun i hi2 => by
            by_cases q : i = e
            · subst q; exact cm
            · exact h4 i (by omega))
        cases cb : bitS s e with
        | true =>
          rw [if_neg (by decide), sizeM_N e he]
          have := hst (szN e) (by rw [cb]; rfl)
          rw [cb] at this
          exact this
        | false =>
          rw [if_pos (show b2i false = 0 from rfl)]
          have := hst 0 (by rw [cb]; rfl)
          rw [cb] at this
          exact this
  exact key 10 0 N rfl (by omega) (by omega) (fun i hi2 => absurd hi2 (by omega))
theorem worthM {N m s : Nat} (hN : 97 ≤ N) (hm : m ≤ 10) (hs : s < 1024) {w mm : RS} {a : Nat → Int32} (hr : RW w a) (hi : IW w) (h23 : w 23 0 = nI m) : fX12_worthOf N (nI s) (sr mm 1 a) = some (wos (val1 w m) s) := by
  have h9 : a 9 = w 1 6 := (row13_iff.mp hr.1).2.2.2.2.2.2.1
  have key : ∀ d e k, 10 - e = d → e ≤ 10 → d < k → fX12_worthOf_L4 N (nI s) (sr mm 1 a) k (iN e fun e => val1 w m e (bitS s e)) (nI e) = some (wos (val1 w m) s) := by
    intro d
    induction d with
    | zero =>
      intro e k h1 h2 h3
      obtain ⟨k, rfl⟩ : ∃ j, k = j + 1 := ⟨k - 1, by omega⟩
      have : e = 10 := by omega
      subst this
      rfl
    | succ d ih =>
      intro e k h1 h2 h3
      obtain ⟨k, rfl⟩ : ∃ j, k = j + 1 := ⟨k - 1, by omega⟩
      have he : e < 10 := by omega
      have h19 : a (19 + e) = w 9 e := hr.2.1.2.2.2.2.2.1 e he
      have h69 : a (69 + e) = w 4 e := hr.2.1.2.1 e he
      rw [← ih (e + 1) k (by omega) (by omega) (by omega)]
      show _ = fX12_worthOf_L4 N (nI s) (sr mm 1 a) k ((iN e fun e => val1 w m e (bitS s e)) + val1 w m e (bitS s e)) (nI (e + 1))
      generalize (iN e fun e => val1 w m e (bitS s e)) = x
      have hcg : ∀ y z, y = z → fX12_worthOf_L4 N (nI s) (sr mm 1 a) k y (nI (e + 1)) = fX12_worthOf_L4 N (nI s) (sr mm 1 a) k z (nI (e + 1)) := fun y z h => by rw [h]
      rw [fX12_worthOf_L4, if_neg (fun q => absurd ((le_10 (by omega)).mp q) (by omega)), has10 s hs e he, copiedM hN hm he hr hi h23, bnd_s, thn_e, sr_e, h9]
      unfold fX12_worthOf_L75 fX12_worthOf_L116 fX12_worthOf_L118 val1 cpy1
      cases cb : bitS s e with
      | false =>
        rw [if_pos (show b2i false = 0 from rfl), j1]
        unfold vOut
        refine hcg _ _ ?_
        simp only [Bool.false_eq_true, if_false]
        grind
      | true =>
        rw [if_neg (by decide), i19, inb_nI (by omega) (by omega), ck_t, cl_nI (by omega), isFastM he hr hi, bnd_s, h19]
        simp only [thn_e, if_true]
        rw [i69, inb_nI (by omega) (by omega), ck_t, ck_t, cl_nI (by omega), sr_e, h69, j1]
        unfold vIn vHeat fX6_pinWorth
        rcases hi.1.1 e he with q | q
        · rw [q, if_pos (show (0 : Int32) = 0 from rfl), if_neg (show ¬ (0 : Int32) = 1 by decide)]
          by_cases c4 : w 4 e = 1
          · rw [if_pos c4, if_pos c4]
            refine hcg _ _ ?_
            grind
          · rw [if_neg c4, if_neg c4]
            by_cases c42 : w 4 e = 2
            · rw [if_pos c42, if_pos c42]
              refine hcg _ _ ?_
              grind
            · rw [if_neg c42, if_neg c42]
              refine hcg _ _ ?_
              grind
        · rw [q, if_neg (show ¬ (1 : Int32) = 0 by decide), if_pos (show (1 : Int32) = 1 from rfl)]
          by_cases c4 : w 4 e = 1
          · rw [if_pos c4, if_pos c4]
            refine hcg _ _ ?_
            grind
          · rw [if_neg c4, if_neg c4]
            by_cases c42 : w 4 e = 2
            · rw [if_pos c42, if_pos c42]
              refine hcg _ _ ?_
              grind
            · rw [if_neg c42, if_neg c42]
              refine hcg _ _ ?_
              grind
  exact key 10 0 N rfl (by omega) (by omega)
