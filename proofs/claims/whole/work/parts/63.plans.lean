/-! QUESTIONS OF THE PLAN -/
theorem needC {N s : Nat} {y : Nat → Bool → Bool} {g : Nat → Bool → Nat} {v : Nat → Bool → Int32} {p : RS} (hN : 97 ≤ N) (hs : s < 1024) (h : SG y g v p) : fX6_needOf N (nI s) p = some (nI (nds g s 10)) := by
  have key : ∀ d i k, 10 - i = d → i ≤ 10 → d < k → fX6_needOf_L4 N (nI s) p k (nI (nds g s i)) (nI i) = some (nI (nds g s 10)) := by
    intro d
    induction d with
    | zero =>
      intro i k h1 h2 h3
      obtain ⟨k, rfl⟩ : ∃ j, k = j + 1 := ⟨k - 1, by omega⟩
      have : i = 10 := by omega
      subst this
      rw [fX6_needOf_L4, if_pos (by decide)]
    | succ d ih =>
      intro i k h1 h2 h3
      obtain ⟨k, rfl⟩ : ∃ j, k = j + 1 := ⟨k - 1, by omega⟩
      have hi : i < 10 := by omega
      obtain ⟨-, -, h6, h7, -, -⟩ := h i hi
      rw [fX6_needOf_L4, if_neg (fun q => absurd ((le_10 (by omega)).mp q) (by omega)), isIn10 hs hi, inb_nI hi (by omega), ck_t, ck_t, cl_nI (by omega), h6, h7]
      unfold fX6_needOf_L34
      rw [thn_e, thn_e, nI_add, nI_add, j1]
      have e : nds g s (i + 1) = nds g s i + g i (bitS s i) := rfl
      have := ih (i + 1) k (by omega) (by omega) (by omega)
      rw [e] at this
      cases c : bitS s i with
      | true => rw [c] at this; rw [if_neg (show ¬ b2i true = 0 by decide)]; exact this
      | false => rw [c] at this; rw [if_pos (show b2i false = 0 from rfl)]; exact this
  exact key 10 0 N rfl (by omega) (by omega)
theorem worthC {N s : Nat} {y : Nat → Bool → Bool} {g : Nat → Bool → Nat} {v : Nat → Bool → Int32} {p : RS} (hN : 97 ≤ N) (hs : s < 1024) (h : SG y g v p) : fX6_worthOf N (nI s) p = some (wos v s) := by
  have key : ∀ d i k, 10 - i = d → i ≤ 10 → d < k → fX6_worthOf_L4 N (nI s) p k (iN i fun e => v e (bitS s e)) (nI i) = some (wos v s) := by
    intro d
    induction d with
    | zero =>
      intro i k h1 h2 h3
      obtain ⟨k, rfl⟩ : ∃ j, k = j + 1 := ⟨k - 1, by omega⟩
      have : i = 10 := by omega
      subst this
      rw [fX6_worthOf_L4, if_pos (by decide)]
      rfl
    | succ d ih =>
      intro i k h1 h2 h3
      obtain ⟨k, rfl⟩ : ∃ j, k = j + 1 := ⟨k - 1, by omega⟩
      have hi : i < 10 := by omega
      obtain ⟨-, -, -, -, h4, h5⟩ := h i hi
      rw [fX6_worthOf_L4, if_neg (fun q => absurd ((le_10 (by omega)).mp q) (by omega)), isIn10 hs hi, inb_nI hi (by omega), ck_t, ck_t, cl_nI (by omega), h4, h5]
      unfold fX6_worthOf_L34
      rw [thn_e, thn_e, j1]
      have e : (iN (i + 1) fun e => v e (bitS s e)) = (iN i fun e => v e (bitS s e)) + v i (bitS s i) := rfl
      have := ih (i + 1) k (by omega) (by omega) (by omega)
      rw [e] at this
      cases c : bitS s i with
      | true => rw [c] at this; rw [if_neg (show ¬ b2i true = 0 by decide)]; exact this
      | false => rw [c] at this; rw [if_pos (show b2i false = 0 from rfl)]; exact this
  exact key 10 0 N rfl (by omega) (by omega)
theorem nds_le {g : Nat → Bool → Nat} (hg : ∀ e c, g e c ≤ 8) {s n : Nat} : nds g s n ≤ n * 8 := sN_bound fun i => hg i _
theorem szs_le {s n : Nat} : szs s n ≤ n * 4 := sN_bound fun i => by
  have := szN_le i
  split <;> omega
theorem allowsC {N s bu : Nat} {y : Nat → Bool → Bool} {g : Nat → Bool → Nat} {v : Nat → Bool → Int32} {p : RS} (hN : 97 ≤ N) (hs : s < 1024) (hbu : bu < 1000) (hg : ∀ e c, g e c ≤ 8) (h : SG y g v p) (h7 : p 0 7 = nI bu) : fX6_allows N (nI s) p = some (b2i (als y g bu s)) := by
  have key : ∀ d i k, 10 - i = d → i ≤ 10 → d < k → (∀ e, e < i → y e (bitS s e) = true) → fX6_allows_L17 N (nI s) p k (nI (szs s i)) (nI i) = some (b2i (als y g bu s)) := by
    intro d
    induction d with
    | zero =>
      intro i k h1 h2 h3 hy
      obtain ⟨k, rfl⟩ : ∃ j, k = j + 1 := ⟨k - 1, by omega⟩
      have : i = 10 := by omega
      subst this
      have b1 := @szs_le s 10
      have b2 := nds_le hg (s := s) (n := 10)
      rw [fX6_allows_L17, if_pos (by decide), needC hN hs h, bnd_s, h7]
      by_cases c1 : 9 < szs s 10
      · have ha : als y g bu s = false := Bool.eq_false_iff.mpr fun q => by have := (als_iff.mp q).2.1; omega
        rw [if_pos (show (9 : Int32) < nI (szs s 10) from nI_lt c1 (by omega)), ha]
        rfl
      · rw [if_neg (show ¬ (9 : Int32) < nI (szs s 10) from nI_nlt (a := 9) (b := szs s 10) (by omega) (by decide))]
        by_cases c2 : bu < nds g s 10
        · have ha : als y g bu s = false := Bool.eq_false_iff.mpr fun q => by have := (als_iff.mp q).2.2; omega
          rw [if_pos (nI_lt c2 (by omega)), ha]
          rfl
        · have ha : als y g bu s = true := als_iff.mpr ⟨hy, by omega, by omega⟩
          rw [if_neg (nI_nlt (by omega) (by omega)), ha]
          rfl
    | succ d ih =>
      intro i k h1 h2 h3 hy
      obtain ⟨k, rfl⟩ : ∃ j, k = j + 1 := ⟨k - 1, by omega⟩
      have hi : i < 10 := by omega
      obtain ⟨g1, g2, -, -, -, -⟩ := h i hi
      have bad : y i (bitS s i) = false → als y g bu s = false := fun q => Bool.eq_false_iff.mpr fun z => by
        have := (als_iff.mp z).1 i hi
        rw [q] at this
        cases this
      have good : y i (bitS s i) = true → ∀ e, e < i + 1 → y e (bitS s e) = true := fun q e he => by
        by_cases c : e = i
        · subst c; exact q
        · exact hy e (by omega)
      rw [fX6_allows_L17, if_neg (fun q => absurd ((le_10 (by omega)).mp q) (by omega)), isIn10 hs hi, thn_e, inb_nI hi (by omega), ck_t, ck_t, cl_nI (by omega), g1, g2]
      unfold fX6_allows_L58 fX6_allows_L73
      rw [inb_nI hi (by omega), ck_t, thn_e, thn_e, cl_nI (by omega), sizeT_N i hi, nI_add, j1, Int32.add_zero]
      have e : szs s (i + 1) = szs s i + (if bitS s i then szN i else 0) := rfl
      have nx := ih (i + 1) k (by omega) (by omega) (by omega)
      rw [e] at nx
      cases c : bitS s i with
      | true =>
        rw [c] at nx bad good
        rw [if_neg (show ¬ b2i true = 0 by decide), if_neg (show ¬ b2i true = 0 by decide)]
        cases cy : y i true with
        | false => rw [if_pos (show b2i false = 0 from rfl), bad cy]; rfl
        | true => rw [if_neg (show ¬ b2i true = 0 by decide)]; exact nx (good cy)
      | false =>
        rw [c] at nx bad good
        rw [if_pos (show b2i false = 0 from rfl), if_pos (show b2i false = 0 from rfl)]
        cases cy : y i false with
        | false => rw [if_pos (show b2i false = 0 from rfl), bad cy]; rfl
        | true => rw [if_neg (show ¬ b2i true = 0 by decide)]; exact nx (good cy)
  unfold fX6_allows
  rw [if_neg (nlt_0 (by omega)), if_pos (show nI s < 1024 from nI_lt (b := 1024) hs (by decide))]
  exact key 10 0 N rfl (by omega) (by omega) (fun e he => absurd he (by omega))
section Q2
variable {N : Nat} {nn xx mm pp : RS} {a : Nat → Int32}
/-- moves, budget -/
theorem wm (hr : RW nn a) (hi : IW nn) : ∃ m bu, m ≤ 10 ∧ nn 23 0 = nI m ∧ bu ≤ 12 ∧ nn 1 5 = nI bu ∧ a 8 = nI bu := by
  obtain ⟨m, hm, em, -⟩ := hi.2.2.2.1
  obtain ⟨bu, b1, b2⟩ := hi.2.2.2.2.2.2.2.1
  exact ⟨m, bu, hm, em, b1, b2, ((row13_iff.mp hr.1).2.2.2.2.2.1).trans b2⟩
theorem bestM' {m bu : Nat} (hN : 2000 ≤ N) (hm : m ≤ 10) (hbu : bu < 1000) (hr : RW nn a) (hi : IW nn) (h23 : nn 23 0 = nI m) : fX12_bestSet N (nI bu) (sr mm 1 a) = some (nI (bestW nn m bu).2.1) := by
  rw [bestM hN hm hbu hr hi h23]
  exact congrArg some (bestW_ok hm hi h23 bu).2.2.2
theorem q_plan (hN : 2000 ≤ N) (hr : RW nn a) (hi : IW nn) : ∃ r p', fX11_plan N xx nn pp = some (r, p') ∧ fX12_plan N (sr mm 1 a) = some r := by
  obtain ⟨m, bu, hm, em, b1, b2, b3⟩ := wm hr hi
  obtain ⟨p1, g1, g2, g3, g4⟩ := makeFor_ok (N := N) (bu := bu) (by omega) hm (by omega) hi em pp
  refine ⟨nI (bestW nn m bu).2.1, p1, ?_, ?_⟩
  · unfold fX11_plan
    rw [b2, g1, bnd_s, g3]
  · unfold fX12_plan
    rw [sr_e, b3, bestM' hN hm (by omega) hr hi em, bnd_s]
theorem q_worth (hN : 2000 ≤ N) (hr : RW nn a) (hi : IW nn) (x : Int32) : ∃ r p', fX11_worth N x xx nn pp = some (r, p') ∧ fX12_worth N x (sr mm 1 a) = some r := by
  obtain ⟨m, bu, hm, em, b1, b2, b3⟩ := wm hr hi
  unfold fX11_worth fX12_worth
  rcases isIn0 x 12 (n := 12) rfl (by decide) with ⟨g1, g2⟩ | ⟨j, g1, rfl, g3⟩
  · refine ⟨_, pp, ?_, by rw [g1, if_pos rfl]⟩
    rcases g2 with q | ⟨q, q2⟩
    · rw [if_pos q]
    · rw [if_neg q, if_neg (Int32.not_le.mpr (show (12 : Int32) < x from ge_lt (n := 12) (by decide) q2))]
  · obtain ⟨p1, k1, k2, k3, k4⟩ := makeFor_ok (N := N) (bu := j) (by omega) hm (by omega) hi em pp
    obtain ⟨z1, z2, z3, z4⟩ := bestW_ok hm hi em j
    refine ⟨(bestW nn m j).2.2, p1, ?_, ?_⟩
    · rw [if_neg (nlt_0 (by omega)), if_pos (show nI j ≤ 12 from nI_le (b := 12) g1 (by decide)), k1, bnd_s, k4]
    · rw [g3, if_neg (by decide), bestM' hN hm (by omega) hr hi em, bnd_s, worthM (by omega) hm z2 hr hi em, bnd_s, z3]
theorem weighed (hN : 2000 ≤ N) (hr : RW nn a) (hi : IW nn) {m bu : Nat} (hm : m ≤ 10) (em : nn 23 0 = nI m) (pp : RS) : ∃ p', fX6_weigh N (nI bu) nn pp = some p' ∧ SG (may1 nn m) (cpy1 nn m) (val1 nn m) p' ∧ p' 0 7 = nI bu := by
  obtain ⟨p1, g1, g2, g3⟩ := weigh_ok (N := N) (x2 := nI bu) (p := pp) (by omega) hm hi em
  exact ⟨p1, g1, weigh_SG g3, by rw [g2, upd_e]⟩
theorem out1024 {x : Int32} (h : x < 0 ∨ ¬ x < 0 ∧ nI 1024 ≤ x) (p : RS) : fX6_allows N x p = some 0 := by
  unfold fX6_allows
  rcases h with q | ⟨q, q2⟩
  · rw [if_pos q]
  · rw [if_neg q, if_neg (Int32.not_lt.mpr (show (1024 : Int32) ≤ x from q2))]
theorem q_value (hN : 2000 ≤ N) (hr : RW nn a) (hi : IW nn) (x : Int32) : ∃ r p', fX11_value N x xx nn pp = some (r, p') ∧ fX12_value N x (sr mm 1 a) = some r := by
  obtain ⟨m, bu, hm, em, b1, b2, b3⟩ := wm hr hi
  obtain ⟨p1, k1, k2, k3⟩ := weighed (bu := bu) hN hr hi hm em pp
  unfold fX11_value fX12_value
  rw [b2, k1, bnd_s, sr_e, b3]
  rcases isIn0 x 1023 (n := 1023) rfl (by decide) with ⟨g1, g2⟩ | ⟨s, g1, rfl, g3⟩
  · rw [out1024 g2, bnd_s, if_pos rfl, g1, if_pos rfl]
    exact ⟨_, _, rfl, rfl⟩
  · rw [allowsC (by omega) (by omega) (by omega) (fun e c => cpy1_le) k2 k3, bnd_s, g3, if_neg (show ¬ (1 : Int32) = 0 by decide), allowedM (by omega) hm (by omega) (by omega) hr hi em, bnd_s, worthC (by omega) (by omega) k2, worthM (by omega) hm (by omega) hr hi em, bnd_s, bnd_s]
    cases als (may1 nn m) (cpy1 nn m) bu s with
    | true => rw [if_neg (show ¬ b2i true = 0 by decide), if_neg (show ¬ b2i true = 0 by decide)]; exact ⟨_, _, rfl, rfl⟩
    | false => rw [if_pos (show b2i false = 0 from rfl), if_pos (show b2i false = 0 from rfl)]; exact ⟨_, _, rfl, rfl⟩
theorem needsM {m s : Nat} (hN : 97 ≤ N) (hm : m ≤ 10) (hs : s < 1024) (hr : RW nn a) (hi : IW nn) (h23 : nn 23 0 = nI m) : fX12_needs_L32 N (nI s) (sr mm 1 a) N 0 0 = some (nI (nds (cpy1 nn m) s 10)) := by
  have key : ∀ d i k, 10 - i = d → i ≤ 10 → d < k → fX12_needs_L32 N (nI s) (sr mm 1 a) k (nI (nds (cpy1 nn m) s i)) (nI i) = some (nI (nds (cpy1 nn m) s 10)) := by
    intro d
    induction d with
    | zero =>
      intro i k h1 h2 h3
      obtain ⟨k, rfl⟩ : ∃ j, k = j + 1 := ⟨k - 1, by omega⟩
      have : i = 10 := by omega
      subst this
      rw [fX12_needs_L32, if_pos (by decide)]
    | succ d ih =>
      intro i k h1 h2 h3
      obtain ⟨k, rfl⟩ : ∃ j, k = j + 1 := ⟨k - 1, by omega⟩
      rw [fX12_needs_L32, if_neg (fun q => absurd ((le_10 (by omega)).mp q) (by omega)), has10 s hs i (by omega), copiedM hN hm (by omega) hr hi h23, bnd_s, thn_e, nI_add, j1]
      exact ih (i + 1) k (by omega) (by omega) (by omega)
  exact key 10 0 N rfl (by omega) (by omega)
theorem q_needs (hN : 2000 ≤ N) (hr : RW nn a) (hi : IW nn) (x : Int32) : ∃ r p', fX11_needs N x xx nn pp = some (r, p') ∧ fX12_needs N x (sr mm 1 a) = some r := by
  obtain ⟨m, bu, hm, em, b1, b2, b3⟩ := wm hr hi
  obtain ⟨p1, k1, k2, k3⟩ := weighed (bu := bu) hN hr hi hm em pp
  unfold fX11_needs fX12_needs
  rw [b2, k1, bnd_s, sr_e, b3]
  rcases isIn0 x 1023 (n := 1023) rfl (by decide) with ⟨g1, g2⟩ | ⟨s, g1, rfl, g3⟩
  · rw [out1024 g2, bnd_s, if_pos rfl, g1, if_pos rfl]
    exact ⟨_, _, rfl, rfl⟩
  · rw [allowsC (by omega) (by omega) (by omega) (fun e c => cpy1_le) k2 k3, bnd_s, g3, if_neg (show ¬ (1 : Int32) = 0 by decide), allowedM (by omega) hm (by omega) (by omega) hr hi em, bnd_s, needC (by omega) (by omega) k2, bnd_s, needsM (by omega) hm (by omega) hr hi em]
    cases als (may1 nn m) (cpy1 nn m) bu s with
    | true => rw [if_neg (show ¬ b2i true = 0 by decide), if_neg (show ¬ b2i true = 0 by decide)]; exact ⟨_, _, rfl, rfl⟩
    | false => rw [if_pos (show b2i false = 0 from rfl), if_pos (show b2i false = 0 from rfl)]; exact ⟨_, _, rfl, rfl⟩
/-- one extent settled -/
def fy (y : Nat → Bool → Bool) (e : Nat) (c0 : Bool) : Nat → Bool → Bool := fun f c => if f = e ∧ c ≠ c0 then false else y f c
theorem force_ok {y : Nat → Bool → Bool} {g : Nat → Bool → Nat} {v : Nat → Bool → Int32} {p : RS} {e : Nat} (he : e < 10) (c0 : Bool) (h : SG y g v p) : ∃ p', fX6_force N (nI e) (b2i c0) p = some p' ∧ SG (fy y e c0) g v p' ∧ p' 0 = p 0 := by
  unfold fX6_force
  rw [inb_nI he (by omega), ck_t, ck_t, cl_nI (by omega)]
  cases c0 with
  | false =>
    rw [if_pos (show b2i false = 0 from rfl), thn_e]
    refine ⟨_, rfl, fun f hf => ?_, sr_n (by decide)⟩
    obtain ⟨g1, g2, g3, g4, g5, g6⟩ := h f hf
    rw [st_d, sr_e, sr_n (by decide), sr_n (by decide), sr_n (by decide), sr_n (by decide), sr_n (by decide)]
    refine ⟨?_, ?_, g3, g4, g5, g6⟩
    · unfold fy
      by_cases c : f = e
      · subst c; rw [upd_e, if_pos ⟨rfl, by decide⟩]; rfl
      · rw [upd_n c, if_neg (fun q => c q.1)]; exact g1
    · unfold fy
      rw [if_neg (fun q => q.2 rfl)]
      exact g2
  | true =>
    rw [if_neg (show ¬ b2i true = 0 by decide), thn_e]
    refine ⟨_, rfl, fun f hf => ?_, sr_n (by decide)⟩
    obtain ⟨g1, g2, g3, g4, g5, g6⟩ := h f hf
    rw [st_d, sr_e, sr_n (by decide), sr_n (by decide), sr_n (by decide), sr_n (by decide), sr_n (by decide)]
    refine ⟨?_, ?_, g3, g4, g5, g6⟩
    · unfold fy
      rw [if_neg (fun q => q.2 rfl)]
      exact g1
    · unfold fy
      by_cases c : f = e
      · subst c; rw [upd_e, if_pos ⟨rfl, by decide⟩]; rfl
      · rw [upd_n c, if_neg (fun q => c q.1)]; exact g2
theorem als_fy {y : Nat → Bool → Bool} {g : Nat → Bool → Nat} {bu s e : Nat} (he : e < 10) {c0 : Bool} : als (fy y e c0) g bu s = true ↔ (als y g bu s = true ∧ bitS s e = c0) := by
  rw [als_iff, als_iff]
  constructor
  · rintro ⟨h1, h2, h3⟩
    have hb : bitS s e = c0 := by
      have := h1 e he
      unfold fy at this
      by_cases c : bitS s e = c0
      · exact c
      · rw [if_pos ⟨rfl, c⟩] at this; cases this
    refine ⟨⟨fun f hf => ?_, h2, h3⟩, hb⟩
    have := h1 f hf
    unfold fy at this
    by_cases c : f = e ∧ bitS s f ≠ c0
    · rw [if_pos c] at this; cases this
    · rw [if_neg c] at this; exact this
  · rintro ⟨⟨h1, h2, h3⟩, hb⟩
    refine ⟨fun f hf => ?_, h2, h3⟩
    unfold fy
    rw [if_neg (fun c => by obtain ⟨rfl, c2⟩ := c; exact c2 hb)]
    exact h1 f hf
theorem als_fy0 {y : Nat → Bool → Bool} {g : Nat → Bool → Nat} {bu s e : Nat} (he : e < 10) {c0 : Bool} (h : ¬ (als y g bu s = true ∧ bitS s e = c0)) : als (fy y e c0) g bu s = false := Bool.eq_false_iff.mpr fun q => h ((als_fy he).mp q)
theorem q_may (hN : 2000 ≤ N) (hr : RW nn a) (hi : IW nn) (x : Int32) (c0 : Bool) : ∃ r p', fX11_may N x (b2i c0) xx nn pp = some (r, p') ∧ fX12_may N x (b2i c0) (sr mm 1 a) = some r := by
  obtain ⟨m, bu, hm, em, b1, b2, b3⟩ := wm hr hi
  unfold fX11_may fX12_may
  rcases ext_c x with ⟨h1, h2, -⟩ | ⟨e, he, rfl, h1, h2⟩
  · exact ⟨0, pp, by rw [h1, if_pos rfl], by rw [h2, if_pos rfl]⟩
  · obtain ⟨p1, k1, k2, k3⟩ := weighed (bu := bu) hN hr hi hm em pp
    obtain ⟨p2, f1, f2, f3⟩ := force_ok (N := N) he c0 k2
    obtain ⟨p3, t1, t2, t3⟩ := choose_ok (N := N) (bu := bu) (by omega) (fun e c => cpy1_le) f2 (by rw [f3]; exact k3)
    refine ⟨b2i (bst (als (fy (may1 nn m) e c0) (cpy1 nn m) bu) (wos (val1 nn m)) 1024).1, p3, ?_, ?_⟩
    · rw [h1, if_neg (by decide), b2, k1, bnd_s, f1, bnd_s, t1, bnd_s]
    · rw [h2, if_neg (by decide)]
      have key : ∀ d s k, 1024 - s = d → s ≤ 1024 → d < k → (∀ j, j < s → als (fy (may1 nn m) e c0) (cpy1 nn m) bu j = false) →
          fX12_may_L11 N (nI e) (b2i c0) (sr mm 1 a) k (nI s) = some (b2i (bst (als (fy (may1 nn m) e c0) (cpy1 nn m) bu) (wos (val1 nn m)) 1024).1) := by
        intro d
        induction d with
        | zero =>
          intro s k g1 g2 g3 g4
          obtain ⟨k, rfl⟩ : ∃ j, k = j + 1 := ⟨k - 1, by omega⟩
          have : s = 1024 := by omega
          subst this
          rw [fX12_may_L11, if_pos (by decide)]
          have hz : (bst (als (fy (may1 nn m) e c0) (cpy1 nn m) bu) (wos (val1 nn m)) 1024).1 = false := Bool.eq_false_iff.mpr fun q => by
            obtain ⟨z1, -, z3⟩ := bst_inv _ q
            rw [g4 _ z1] at z3
            cases z3
          rw [hz]
          rfl
        | succ d ih =>
          intro s k g1 g2 g3 g4
          obtain ⟨k, rfl⟩ : ∃ j, k = j + 1 := ⟨k - 1, by omega⟩
          have hs : s < 1024 := by omega
          have nx : als (fy (may1 nn m) e c0) (cpy1 nn m) bu s = false → fX12_may_L11 N (nI e) (b2i c0) (sr mm 1 a) k (nI (s + 1)) = some (b2i (bst (als (fy (may1 nn m) e c0) (cpy1 nn m) bu) (wos (val1 nn m)) 1024).1) := fun q => ih (s + 1) k (by omega) (by omega) (by omega) (fun j hj => by
            by_cases c : j = s
            · subst c; exact q
            · exact g4 j (by omega))
          rw [fX12_may_L11, if_neg (fun q => absurd ((le_1024 (by omega)).mp q) (by omega)), has10 s hs e he, sr_e, b3, allowedM (by omega) hm hs (by omega) hr hi em, bnd_s]
          unfold fX12_may_L44
          rw [j1]
          by_cases cb : bitS s e = c0
          · rw [if_pos (by rw [cb])]
            cases ca : als (may1 nn m) (cpy1 nn m) bu s with
            | false =>
              rw [if_pos (show b2i false = 0 from rfl)]
              exact nx (als_fy0 he fun q => by rw [ca] at q; cases q.1)
            | true =>
              rw [if_neg (show ¬ b2i true = 0 by decide), bst_found ((als_fy he).mpr ⟨ca, cb⟩) 1024 hs]
              rfl
          · rw [if_neg (fun q => cb (by revert q; cases bitS s e <;> cases c0 <;> decide))]
            exact nx (als_fy0 he fun q => cb q.2)
      exact key 1024 0 N rfl (by omega) (by omega) (fun j hj => absurd hj (by omega))
theorem q_next (hN : 2000 ≤ N) (hr : RW nn a) (hi : IW nn) (x : Int32) : ∃ r p' F, fX11_next N x xx nn pp = some (r, p') ∧ fX12_next N x (sr mm 1 a) = some (r, MM mm F a) := by
  obtain ⟨m, bu, hm, em, b1, b2, b3⟩ := wm hr hi
  obtain ⟨p1, g1, g2, g3, g4⟩ := makeFor_ok (N := N) (bu := bu) (by omega) hm (by omega) hi em pp
  obtain ⟨z1, z2, z3, z4⟩ := bestW_ok hm hi em bu
  obtain ⟨n, p2, F, L, k1, k2, k3, k4, k5, k6, k7⟩ := list_ok (N := N) (mm := mm) (by omega) hm z2 hr hi em g2 g3
  unfold fX11_next fX12_next
  rw [b2, g1, bnd_s, k1, bnd_s, sr_e, b3, bestM' hN hm (by omega) hr hi em, bnd_s, k2, bnd_s]
  by_cases c : x = -1
  · rw [if_pos c, if_pos c, k3]
    exact ⟨_, _, _, rfl, rfl⟩
  · rw [if_neg c, if_neg c, k3]
    rcases isIn1 x (h := n) (by omega) with ⟨q1, q2⟩ | ⟨i, q1, rfl, q3⟩
    · refine ⟨-2, p2, F, ?_, by rw [q1, if_pos rfl]⟩
      rcases q2 with q | ⟨q, q2⟩
      · rw [if_pos q]
      · rw [if_neg q, if_pos q2]
    · refine ⟨nI (L i), p2, F, ?_, ?_⟩
      · rw [if_neg (nlt_0 (by omega)), if_neg (nI_ge q1 (by omega)), inb_nI (by omega) (by omega), ck_t, cl_nI (by omega), (k5 i q1).1]
      · rw [q3, if_neg (by decide), inb_nI (by omega) (by omega), ck_t, cl_nI (by omega)]
        show some (MM mm F a 6 i, MM mm F a) = _
        rw [MM_6, (k5 i q1).2]
/-! the least budget -/
theorem bst_max {al : Nat → Bool} {wo : Nat → Int32} : ∀ n s, s < n → al s = true → (bst al wo n).1 = true ∧ wo s ≤ (bst al wo n).2.2 := by
  intro n
  induction n with
  | zero => intro s h; omega
  | succ n ih =>
    intro s h ha
    show (if al n = true ∧ ((bst al wo n).1 = false ∨ ¬ wo n ≤ (bst al wo n).2.2) then (true, n, wo n) else bst al wo n).1 = true ∧ wo s ≤ (if al n = true ∧ ((bst al wo n).1 = false ∨ ¬ wo n ≤ (bst al wo n).2.2) then (true, n, wo n) else bst al wo n).2.2
    by_cases c : al n = true ∧ ((bst al wo n).1 = false ∨ ¬ wo n ≤ (bst al wo n).2.2)
    · rw [if_pos c]
      refine ⟨rfl, ?_⟩
      by_cases e : s = n
      · subst e; exact Int32.le_refl _
      · obtain ⟨i1, i2⟩ := ih s (by omega) ha
        rcases c.2 with q | q
        · rw [i1] at q; cases q
        · exact Int32.le_trans i2 (Int32.le_of_lt (Int32.not_le.mp q))
    · rw [if_neg c]
      by_cases e : s = n
      · subst e
        have h1 : (bst al wo s).1 = true := by
          cases q : (bst al wo s).1 with
          | true => rfl
          | false => exact absurd ⟨ha, Or.inl q⟩ c
        refine ⟨h1, ?_⟩
        by_cases q : wo s ≤ (bst al wo s).2.2
        · exact q
        · exact absurd ⟨ha, Or.inr q⟩ c
      · exact ih s (by omega) ha
theorem best_mono {w : RS} {m b1 b2 : Nat} (hm : m ≤ 10) (hi : IW w) (h23 : w 23 0 = nI m) (h : b1 ≤ b2) : (bestW w m b1).2.2 ≤ (bestW w m b2).2.2 := by
  obtain ⟨z1, z2, z3, -⟩ := bestW_ok hm hi h23 b1
  obtain ⟨-, -, z4⟩ := bst_inv _ z1
  rw [z3]
  obtain ⟨q1, q2, q3⟩ := als_iff.mp z4
  have z5 : als (may1 w m) (cpy1 w m) b2 (bestW w m b1).2.1 = true := als_iff.mpr ⟨q1, q2, by unfold bestW; omega⟩
  exact (bst_max (wo := wos (val1 w m)) 1024 _ z2 z5).2
theorem q_enough (hN : 2000 ≤ N) (hr : RW nn a) (hi : IW nn) : ∃ r p', fX11_enough N xx nn pp = some (r, p') ∧ fX12_enough N (sr mm 1 a) = some r := by
  obtain ⟨m, bu, hm, em, -, -, -⟩ := wm hr hi
  obtain ⟨p1, g1, g2, g3, g4⟩ := makeFor_ok (N := N) (bu := 12) (by omega) hm (by omega) hi em pp
  have wM : ∀ b, b < 1000 → (bnd (fX12_bestSet N (nI b) (sr mm 1 a)) fun r1 => bnd (fX12_worthOf N r1 (sr mm 1 a)) fun r2 => some r2) = some (bestW nn m b).2.2 := fun b hb => by
    obtain ⟨z1, z2, z3, -⟩ := bestW_ok hm hi em b
    rw [bestM' hN hm hb hr hi em, bnd_s, worthM (by omega) hm z2 hr hi em, bnd_s, z3]
  have key : ∀ d b k k2 p, 12 - b = d → b ≤ 12 → d < k → d < k2 → ∃ r p', fX11_enough_L23 N xx nn k (bestW nn m 12).2.2 (nI b) p = some (r, p') ∧ fX12_enough_L13 N (sr mm 1 a) k2 (bestW nn m 12).2.2 (nI b) = some r := by
    intro d
    induction d with
    | zero =>
      intro b k k2 p h1 h2 h3 h4
      obtain ⟨k, rfl⟩ : ∃ j, k = j + 1 := ⟨k - 1, by omega⟩
      obtain ⟨k2, rfl⟩ : ∃ j, k2 = j + 1 := ⟨k2 - 1, by omega⟩
      have : b = 12 := by omega
      subst this
      obtain ⟨z1, z2, z3, -⟩ := bestW_ok hm hi em 12
      exact ⟨12, p, by rw [fX11_enough_L23, if_pos (by decide)], by rw [fX12_enough_L13, bestM' hN hm (by omega) hr hi em, bnd_s, worthM (by omega) hm z2 hr hi em, bnd_s, ← z3, if_pos (Int32.le_refl _)]; rfl⟩
    | succ d ih =>
      intro b k k2 p h1 h2 h3 h4
      obtain ⟨k, rfl⟩ : ∃ j, k = j + 1 := ⟨k - 1, by omega⟩
      obtain ⟨k2, rfl⟩ : ∃ j, k2 = j + 1 := ⟨k2 - 1, by omega⟩
      obtain ⟨p2, t1, t2, t3, t4⟩ := makeFor_ok (N := N) (bu := b) (by omega) hm (by omega) hi em p
      obtain ⟨z1, z2, z3, -⟩ := bestW_ok hm hi em b
      have mo := best_mono (b1 := b) (b2 := 12) hm hi em (by omega)
      rw [fX11_enough_L23, if_neg (show ¬ (12 : Int32) ≤ nI b from nI_ge (a := b) (b := 12) (by omega) (by decide)), t1, bnd_s, t4, fX12_enough_L13, bestM' hN hm (by omega) hr hi em, bnd_s, worthM (by omega) hm z2 hr hi em, bnd_s, ← z3, j1]
      by_cases c : (bestW nn m b).2.2 = (bestW nn m 12).2.2
      · rw [if_pos c, if_pos (by rw [c]; exact Int32.le_refl _)]
        exact ⟨_, _, rfl, rfl⟩
      · rw [if_neg c, if_neg (fun q => c (Int32.le_antisymm mo q))]
        exact ih (b + 1) k k2 p2 (by omega) (by omega) (by omega) (by omega)
  obtain ⟨r, p', k1, k2⟩ := key 12 0 N N p1 rfl (by omega) (by omega) (by omega)
  refine ⟨r, p', ?_, ?_⟩
  · unfold fX11_enough
    rw [show (12 : Int32) = nI 12 from rfl, g1, bnd_s, thn_e, g4]
    exact k1
  · unfold fX12_enough
    obtain ⟨z1, z2, z3, -⟩ := bestW_ok hm hi em 12
    rw [show (12 : Int32) = nI 12 from rfl, bestM' hN hm (by omega) hr hi em, bnd_s, worthM (by omega) hm z2 hr hi em, bnd_s, ← z3]
    exact k2
end Q2
