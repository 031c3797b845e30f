/-! QUESTIONS: heats, what is foretold -/
section Q4
variable {N : Nat} {nn xx mm pp ss : RS} {a : Nat → Int32}
theorem q_gained (hr : RW nn a) (hi : IW nn) (x : Int32) : ∃ r, fX11_gained N x xx nn = some r ∧ fX12_gained N x (sr mm 1 a) = some r := by
  unfold fX11_gained fX12_gained
  rcases ext_c x with ⟨h1, h2, -⟩ | ⟨e, he, rfl, h1, h2⟩
  · exact ⟨_, by rw [h1, if_pos rfl], by rw [h2, if_pos rfl]⟩
  · rw [h1, h2, if_neg (show ¬ (1 : Int32) = 0 by decide), if_neg (show ¬ (1 : Int32) = 0 by decide), inb_nI he (by omega), ck_t, cl_nI (by omega), isFastM_r hr hi he, bnd_s]
    rcases hi.1.1 e he with q | q
    · rw [q, if_pos rfl, if_pos rfl]
      exact ⟨_, rfl, rfl⟩
    · rw [q, if_neg (show ¬ (1 : Int32) = 0 by decide), if_neg (show ¬ (1 : Int32) = 0 by decide), i119, i129, inb_nI (by omega) (by omega), ck_t, inb_nI (by omega) (by omega), ck_t, cl_nI (n := 119 + e) (by omega), cl_nI (n := 129 + e) (by omega), sr_e, sizeM_N e he, sizeT_N e he, hr.2.2.2.1 e he q]
      exact ⟨_, rfl, rfl⟩
theorem hot_eq (hr : RW nn a) {x y : Nat} (hx : x < 10) (hy : y < 10) : ∃ b, fX2_hotter N (nI x) (nI y) nn = some b ∧ fX12_isHotter N (nI x) (nI y) (sr mm 1 a) = some b := by
  have ax : a (19 + x) = nn 9 x := hr.2.1.2.2.2.2.2.1 x hx
  have ay : a (19 + y) = nn 9 y := hr.2.1.2.2.2.2.2.1 y hy
  unfold fX2_hotter fX2_hotter_L35 fX12_isHotter fX12_isHotter_L47
  rw [inb_nI hx (by omega), ck_t, inb_nI hy (by omega), ck_t, cl_nI (n := x) (by omega), cl_nI (n := y) (by omega), i19, i19, inb_nI (i := 19 + x) (by omega) (by omega), ck_t, inb_nI (i := 19 + y) (by omega) (by omega), ck_t, cl_nI (n := 19 + x) (by omega), cl_nI (n := 19 + y) (by omega), sr_e, ax, ay]
  split
  · exact ⟨_, rfl, rfl⟩
  · split
    · split
      · exact ⟨_, rfl, rfl⟩
      · exact ⟨_, rfl, rfl⟩
    · exact ⟨_, rfl, rfl⟩
theorem q_rank (hN : 97 ≤ N) (hr : RW nn a) (x : Int32) : ∃ r, fX11_rank N x xx nn = some r ∧ fX12_rank N x (sr mm 1 a) = some r := by
  have inner : ∀ e, e < 10 → ∀ k2', ∀ d f k k2 c, 10 - f = d → f ≤ 10 → d < k → d < k2 → ∃ c', fX2_hotterThan_L4 N (nI e) nn k c (nI f) = some c' ∧ fX12_rank_L13 N x (sr mm 1 a) k2' k2 (nI e) c (nI f) = (if c' = x then some (nI e) else k2' (nI (e + 1))) := by
    intro e he k2' d
    induction d with
    | zero =>
      intro f k k2 c h1 h2 h3 h4
      obtain ⟨k, rfl⟩ : ∃ j, k = j + 1 := ⟨k - 1, by omega⟩
      obtain ⟨k2, rfl⟩ : ∃ j, k2 = j + 1 := ⟨k2 - 1, by omega⟩
      have : f = 10 := by omega
      subst this
      exact ⟨c, by rw [fX2_hotterThan_L4, if_pos (by decide)], by rw [fX12_rank_L13, if_pos (by decide), j1]⟩
    | succ d ih =>
      intro f k k2 c h1 h2 h3 h4
      obtain ⟨k, rfl⟩ : ∃ j, k = j + 1 := ⟨k - 1, by omega⟩
      obtain ⟨k2, rfl⟩ : ∃ j, k2 = j + 1 := ⟨k2 - 1, by omega⟩
      obtain ⟨b, g1, g2⟩ := hot_eq (N := N) (mm := mm) hr (show f < 10 by omega) he
      rw [fX2_hotterThan_L4, if_neg (fun q => absurd ((le_10 (by omega)).mp q) (by omega)), g1, bnd_s, fX12_rank_L13, if_neg (fun q => absurd ((le_10 (by omega)).mp q) (by omega)), g2, bnd_s]
      unfold fX2_hotterThan_L25 fX12_rank_L36
      rw [thn_e, thn_e, thn_e, thn_e, j1]
      by_cases q : b = 0
      · rw [if_pos q, if_pos q]
        exact ih (f + 1) k k2 (c + 0) (by omega) (by omega) (by omega) (by omega)
      · rw [if_neg q, if_neg q]
        exact ih (f + 1) k k2 (c + 1) (by omega) (by omega) (by omega) (by omega)
  have key : ∀ d e k k2, 10 - e = d → e ≤ 10 → d < k → d < k2 → ∃ r, fX11_rank_L2 N x xx nn k (nI e) = some r ∧ fX12_rank_L2 N x (sr mm 1 a) k2 (nI e) = some r := by
    intro d
    induction d with
    | zero =>
      intro e k k2 h1 h2 h3 h4
      obtain ⟨k, rfl⟩ : ∃ j, k = j + 1 := ⟨k - 1, by omega⟩
      obtain ⟨k2, rfl⟩ : ∃ j, k2 = j + 1 := ⟨k2 - 1, by omega⟩
      have : e = 10 := by omega
      subst this
      exact ⟨-1, by rw [fX11_rank_L2, if_pos (by decide)], by rw [fX12_rank_L2, if_pos (by decide)]⟩
    | succ d ih =>
      intro e k k2 h1 h2 h3 h4
      obtain ⟨k, rfl⟩ : ∃ j, k = j + 1 := ⟨k - 1, by omega⟩
      obtain ⟨k2, rfl⟩ : ∃ j, k2 = j + 1 := ⟨k2 - 1, by omega⟩
      obtain ⟨c', g1, g2⟩ := inner e (by omega) (fX12_rank_L2 N x (sr mm 1 a) k2) 10 0 N N 0 rfl (by omega) (by omega) (by omega)
      have g1' : fX2_hotterThan N (nI e) nn = some c' := g1
      have g2' : fX12_rank_L13 N x (sr mm 1 a) (fX12_rank_L2 N x (sr mm 1 a) k2) N (nI e) 0 0 = (if c' = x then some (nI e) else fX12_rank_L2 N x (sr mm 1 a) k2 (nI (e + 1))) := g2
      rw [fX11_rank_L2, if_neg (fun q => absurd ((le_10 (by omega)).mp q) (by omega)), g1', bnd_s, fX12_rank_L2, if_neg (fun q => absurd ((le_10 (by omega)).mp q) (by omega)), g2', j1]
      by_cases q : c' = x
      · rw [if_pos q, if_pos q]
        exact ⟨_, rfl, rfl⟩
      · rw [if_neg q, if_neg q]
        exact ih (e + 1) k k2 (by omega) (by omega) (by omega) (by omega)
  exact key 10 0 N N rfl (by omega) (by omega) (by omega)
theorem two_c (x : Int32) : (fX12_isIn x 0 1 = 0 ∧ x ≠ 0 ∧ x ≠ 1) ∨ (bit1 x ∧ fX12_isIn x 0 1 = 1) := by
  rcases isIn0 x 1 (n := 1) rfl (by decide) with ⟨g1, g2⟩ | ⟨j, g1, rfl, g3⟩
  · refine Or.inl ⟨g1, fun q => ?_, fun q => ?_⟩
    · subst q
      rcases g2 with q | ⟨q, q2⟩
      · exact absurd q (by decide)
      · exact absurd q2 (by decide)
    · subst q
      rcases g2 with q | ⟨q, q2⟩
      · exact absurd q (by decide)
      · exact absurd q2 (by decide)
  · refine Or.inr ⟨?_, g3⟩
    have : j = 0 ∨ j = 1 := by omega
    rcases this with rfl | rfl
    · exact Or.inl rfl
    · exact Or.inr rfl
theorem q_coldest (hN : 97 ≤ N) (hr : RW nn a) (hi : IW nn) (x : Int32) : ∃ r, fX11_coldest N x xx nn = some r ∧ fX12_coldest N x (sr mm 1 a) = some r := by
  unfold fX11_coldest fX12_coldest
  rcases two_c x with ⟨h1, h2, h3⟩ | ⟨h1, h2⟩
  · refine ⟨-1, ?_, by rw [h1, if_pos rfl]⟩
    have key : ∀ d e k, 10 - e = d → e ≤ 10 → d < k → fX11_coldest_L4 N x xx nn k (-1) (nI e) = some (-1) := by
      intro d
      induction d with
      | zero =>
        intro e k g1 g2 g3
        obtain ⟨k, rfl⟩ : ∃ j, k = j + 1 := ⟨k - 1, by omega⟩
        have : e = 10 := by omega
        subst this
        rw [fX11_coldest_L4, if_pos (by decide)]
      | succ d ih =>
        intro e k g1 g2 g3
        obtain ⟨k, rfl⟩ : ∃ j, k = j + 1 := ⟨k - 1, by omega⟩
        have ne : ¬ nn 3 e = x := fun q => by
          rcases hi.1.1 e (by omega) with y | y
          · exact h2 (q.symm.trans y)
          · exact h3 (q.symm.trans y)
        rw [fX11_coldest_L4, if_neg (fun q => absurd ((le_10 (by omega)).mp q) (by omega)), inb_nI (by omega) (by omega), ck_t, cl_nI (by omega), if_neg ne]
        unfold fX11_coldest_L48
        rw [j1]
        exact ih (e + 1) k (by omega) (by omega) (by omega)
    exact key 10 0 N rfl (by omega) (by omega)
  · rw [h2, if_neg (by decide)]
    have key : ∀ d e k k2 c, 10 - e = d → e ≤ 10 → d < k → d < k2 → (c = -1 ∨ ∃ f, f < 10 ∧ c = nI f) → ∃ r, fX11_coldest_L4 N x xx nn k c (nI e) = some r ∧ fX12_coldest_L15 N x (sr mm 1 a) k2 c (nI e) = some r := by
      intro d
      induction d with
      | zero =>
        intro e k k2 c g1 g2 g3 g4 g5
        obtain ⟨k, rfl⟩ : ∃ j, k = j + 1 := ⟨k - 1, by omega⟩
        obtain ⟨k2, rfl⟩ : ∃ j, k2 = j + 1 := ⟨k2 - 1, by omega⟩
        have : e = 10 := by omega
        subst this
        exact ⟨c, by rw [fX11_coldest_L4, if_pos (by decide)], by rw [fX12_coldest_L15, if_pos (by decide)]⟩
      | succ d ih =>
        intro e k k2 c g1 g2 g3 g4 g5
        obtain ⟨k, rfl⟩ : ∃ j, k = j + 1 := ⟨k - 1, by omega⟩
        obtain ⟨k2, rfl⟩ : ∃ j, k2 = j + 1 := ⟨k2 - 1, by omega⟩
        have he : e < 10 := by omega
        have e109 : a (109 + e) = nn 3 e := hr.2.1.1 e he
        have skip := ih (e + 1) k k2 c (by omega) (by omega) (by omega) (by omega) g5
        have take := ih (e + 1) k k2 (nI e) (by omega) (by omega) (by omega) (by omega) (Or.inr ⟨e, he, rfl⟩)
        rw [fX11_coldest_L4, if_neg (fun q => absurd ((le_10 (by omega)).mp q) (by omega)), inb_nI he (by omega), ck_t, cl_nI (n := e) (by omega), fX12_coldest_L15, if_neg (fun q => absurd ((le_10 (by omega)).mp q) (by omega)), i109, inb_nI (by omega) (by omega), ck_t, cl_nI (n := 109 + e) (by omega), sr_e, e109]
        unfold fX11_coldest_L46 fX12_coldest_L51 fX11_coldest_L48 fX12_coldest_L53
        rw [j1]
        by_cases q : nn 3 e = x
        · rw [if_pos q, if_pos q]
          rcases g5 with rfl | ⟨f, hf, rfl⟩
          · rw [if_pos rfl, if_pos rfl]
            exact take
          · rw [if_neg (ne_m1 (by omega)), if_neg (ne_m1 (by omega))]
            obtain ⟨b, k1, k2'⟩ := hot_eq (N := N) (mm := mm) hr hf he
            rw [k1, k2', bnd_s, bnd_s]
            by_cases z : b = 0
            · rw [if_pos z, if_pos z]
              exact skip
            · rw [if_neg z, if_neg z]
              exact take
        · rw [if_neg q, if_neg q]
          exact skip
    exact key 10 0 N N (-1) rfl (by omega) (by omega) (by omega) (Or.inl rfl)
theorem q_warmth (hN : 97 ≤ N) (hr : RW nn a) (x : Int32) : ∃ r, fX11_warmth N x xx nn = some r ∧ fX12_warmth N x (sr mm 1 a) = some r := by
  unfold fX11_warmth fX12_warmth
  rcases two_c x with ⟨h1, h2, h3⟩ | ⟨h1, h2⟩
  · exact ⟨-1, by rw [if_neg h2, if_neg h3], by rw [h1, if_pos rfl]⟩
  · rw [h2, if_neg (show ¬ (1 : Int32) = 0 by decide)]
    have key : ∀ d e k k2 c, 10 - e = d → e ≤ 10 → d < k → d < k2 → ∃ r, fX11_warmth_L15 N x xx nn k c (nI e) = some r ∧ fX12_warmth_L15 N x (sr mm 1 a) k2 c (nI e) = some r := by
      intro d
      induction d with
      | zero =>
        intro e k k2 c g1 g2 g3 g4
        obtain ⟨k, rfl⟩ : ∃ j, k = j + 1 := ⟨k - 1, by omega⟩
        obtain ⟨k2, rfl⟩ : ∃ j, k2 = j + 1 := ⟨k2 - 1, by omega⟩
        have : e = 10 := by omega
        subst this
        exact ⟨c, by rw [fX11_warmth_L15, if_pos (by decide)], by rw [fX12_warmth_L15, if_pos (by decide)]⟩
      | succ d ih =>
        intro e k k2 c g1 g2 g3 g4
        obtain ⟨k, rfl⟩ : ∃ j, k = j + 1 := ⟨k - 1, by omega⟩
        obtain ⟨k2, rfl⟩ : ∃ j, k2 = j + 1 := ⟨k2 - 1, by omega⟩
        have he : e < 10 := by omega
        have e109 : a (109 + e) = nn 3 e := hr.2.1.1 e he
        have e19 : a (19 + e) = nn 9 e := hr.2.1.2.2.2.2.2.1 e he
        rw [fX11_warmth_L15, if_neg (fun q => absurd ((le_10 (by omega)).mp q) (by omega)), inb_nI he (by omega), ck_t, cl_nI (n := e) (by omega), fX12_warmth_L15, if_neg (fun q => absurd ((le_10 (by omega)).mp q) (by omega)), i109, i19, inb_nI (i := 109 + e) (by omega) (by omega), ck_t, inb_nI (i := 19 + e) (by omega) (by omega), ck_t, cl_nI (n := 109 + e) (by omega), cl_nI (n := 19 + e) (by omega), sr_e, e109, e19]
        unfold fX11_warmth_L54 fX12_warmth_L48
        rw [thn_e, thn_e, thn_e, thn_e, j1]
        by_cases q : nn 3 e = x
        · rw [if_pos q, if_pos q]
          exact ih (e + 1) k k2 _ (by omega) (by omega) (by omega) (by omega)
        · rw [if_neg q, if_neg q]
          exact ih (e + 1) k k2 _ (by omega) (by omega) (by omega) (by omega)
    obtain ⟨r, k1, k2⟩ := key 10 0 N N 0 rfl (by omega) (by omega) (by omega)
    refine ⟨r, ?_, k2⟩
    rcases h1 with q | q
    · rw [if_pos q]; exact k1
    · rw [if_neg (by rw [q]; decide), if_pos q]; exact k1
def bl (n : Nat) : Nat := if n = 0 then 0 else n.log2 + 1
theorem bl_half {n : Nat} (h : 0 < n) : bl n = bl (n / 2) + 1 := by
  unfold bl
  rw [if_neg (by omega), Nat.log2_def]
  by_cases c : 2 ≤ n
  · rw [if_pos c, if_neg (by omega)]
  · rw [if_neg c, if_pos (by omega)]
set_option maxRecDepth 100000 in
theorem nlz_lo : ∀ n, n < 256 → 32 - fJ6_numberOfLeadingZeros_0f7a4 (nI n) = nI (bl n) := by decide +kernel
set_option maxRecDepth 100000 in
theorem nlz_hi : ∀ n, n < 64 → 0 < n → 32 - fJ6_numberOfLeadingZeros_0f7a4_L48 (nI n) (31 + (-8)) = nI (bl n + 8) := by decide +kernel
theorem bl_256 {n : Nat} (h : 256 ≤ n) : bl n = bl (n / 256) + 8 := by
  have e : n / 256 = n / 2 / 2 / 2 / 2 / 2 / 2 / 2 / 2 := by omega
  rw [e, bl_half (n := n) (by omega), bl_half (n := n / 2) (by omega), bl_half (n := n / 2 / 2) (by omega), bl_half (n := n / 2 / 2 / 2) (by omega), bl_half (n := n / 2 / 2 / 2 / 2) (by omega), bl_half (n := n / 2 / 2 / 2 / 2 / 2) (by omega), bl_half (n := n / 2 / 2 / 2 / 2 / 2 / 2) (by omega), bl_half (n := n / 2 / 2 / 2 / 2 / 2 / 2 / 2) (by omega)]
theorem nlzC {n : Nat} (h : n < 10000) : 32 - fJ6_numberOfLeadingZeros_0f7a4 (nI n) = nI (bl n) := by
  by_cases c : n < 256
  · exact nlz_lo n c
  · unfold fJ6_numberOfLeadingZeros_0f7a4 fJ6_numberOfLeadingZeros_0f7a4_L33
    have e8 : iushr (nI n) 8 = nI (n / 256) := pk_ushrN (n := n) (by omega) _ 8 (by decide)
    rw [if_pos (show (0 : Int32) < nI n from nI_lt (a := 0) (by omega) (by omega)), if_pos (show nI n < 65536 from nI_lt (b := 65536) (by omega) (by decide)), if_neg (show ¬ nI n < 256 from nI_nlt (b := 256) (by omega) (by omega)), thn_e, e8, nlz_hi _ (by omega) (by omega), bl_256 (n := n) (by omega)]
theorem coolsM {x1 : Int32} {m : RS} : ∀ d n k c, n < 2 ^ d → d < k → n < 2147483648 → fX12_cools_L21 N x1 m k (nI c) (nI n) = some (nI (c + bl n)) := by
  intro d
  induction d with
  | zero =>
    intro n k c h1 h2 h3
    obtain ⟨k, rfl⟩ : ∃ j, k = j + 1 := ⟨k - 1, by omega⟩
    rw [Nat.pow_zero] at h1
    have : n = 0 := by omega
    subst this
    rw [fX12_cools_L21, if_pos (by decide)]
    rfl
  | succ d ih =>
    intro n k c h1 h2 h3
    obtain ⟨k, rfl⟩ : ∃ j, k = j + 1 := ⟨k - 1, by omega⟩
    rw [Nat.pow_succ] at h1
    rw [fX12_cools_L21]
    by_cases q : n = 0
    · subst q
      rw [if_pos (by decide)]
      rfl
    · rw [if_neg (fun z => q ((ge_0 h3).mp z)), d2' h3, thn_e, j1, ih (n / 2) k (c + 1) (by omega) (by omega) (by omega), bl_half (n := n) (by omega), show c + 1 + bl (n / 2) = c + (bl (n / 2) + 1) from by omega]
theorem q_cools (hN : 97 ≤ N) (hr : RW nn a) (hi : IW nn) (x : Int32) : ∃ r, fX11_cools N x xx nn = some r ∧ fX12_cools N x (sr mm 1 a) = some r := by
  unfold fX11_cools fX12_cools
  rcases ext_c x with ⟨h1, h2, -⟩ | ⟨e, he, rfl, h1, h2⟩
  · exact ⟨_, by rw [h1, if_pos rfl], by rw [h2, if_pos rfl]⟩
  · obtain ⟨h, k1, k2⟩ := hi.1.2.2.2.2.1 e he
    have e19 : a (19 + e) = nn 9 e := hr.2.1.2.2.2.2.2.1 e he
    refine ⟨nI (bl h), ?_, ?_⟩
    · rw [h1, if_neg (by decide), inb_nI he (by omega), ck_t, cl_nI (by omega), k2, nlzC (by omega)]
    · rw [h2, if_neg (by decide), i19, inb_nI (by omega) (by omega), ck_t, cl_nI (by omega), sr_e, e19, k2, thn_e]
      have := coolsM (N := N) (x1 := nI e) (m := sr mm 1 a) 14 h N 0 (by omega) (by omega) (by omega)
      rw [Nat.zero_add] at this
      exact this
theorem day_c (x : Int32) : (fX11_isDays x = 0 ∧ fX12_isIn x 1 8 = 0) ∨ ∃ n, n ≤ 8 ∧ x = nI n ∧ fX11_isDays x = 1 ∧ fX12_isIn x 1 8 = 1 := by
  have e : fX12_isIn x 1 8 = fX11_isDays x := rfl
  rw [e]
  unfold fX11_isDays
  rcases pk_ix x (n := 9) (by decide) with h | h | ⟨j, hj, rfl⟩
  · have : x < 1 := Int32.lt_of_lt_of_le h (by decide)
    rw [if_pos this]
    exact Or.inl ⟨rfl, rfl⟩
  · have h8 : (8 : Int32) < x := ge_lt (n := 8) (by decide) h
    rw [if_pos h8, ite_self]
    exact Or.inl ⟨rfl, rfl⟩
  · by_cases c : j = 0
    · subst c
      exact Or.inl ⟨by decide, by decide⟩
    · refine Or.inr ⟨j, by omega, rfl, ?_⟩
      rw [if_neg (show ¬ nI j < 1 from nI_nlt (b := 1) (by omega) (by omega)), if_neg (show ¬ (8 : Int32) < nI j from nI_nlt (a := 8) (by omega) (by decide))]
      exact ⟨rfl, rfl⟩
/-- what a question may change of the reference's cells -/
def frq (mm mm' : RS) : Prop := ∀ c, c ≠ 0 → c ≠ 1 → c ≠ 5 → c ≠ 6 → c ≠ 7 → c ≠ 8 → c ≠ 9 → c ≠ 10 → mm' c = mm c
theorem q_foretold (hN : 2000 ≤ N) (hr : RW nn a) (hi : IW nn) (x y : Int32) : ∃ r s' p' m2, fX11_foretold N x y xx nn ss pp = some (r, s', p') ∧ fX12_foretold N x y (sr mm 1 a) = some (r, sr m2 1 a) ∧ ∀ c, c ≠ 6 → c ≠ 10 → m2 c = mm c := by
  unfold fX11_foretold fX12_foretold
  rcases day_c x with ⟨h1, h2⟩ | ⟨n, hn, rfl, h1, h2⟩
  · exact ⟨-1, ss, pp, mm, by rw [h1, if_pos rfl], by rw [h2, if_pos rfl], fun _ _ _ => rfl⟩
  · rw [h1, h2, if_neg (show ¬ (1 : Int32) = 0 by decide), if_neg (show ¬ (1 : Int32) = 0 by decide)]
    rcases ext_c y with ⟨g1, g2, -⟩ | ⟨e, he, rfl, g1, g2⟩
    · exact ⟨-1, ss, pp, mm, by rw [g1, if_pos rfl], by rw [g2, if_pos rfl], fun _ _ _ => rfl⟩
    · rw [g1, g2, if_neg (show ¬ (1 : Int32) = 0 by decide), if_neg (show ¬ (1 : Int32) = 0 by decide), thn_e, aside_ok hN, bnd_s]
      have hr2 := RW_EW (copy_EW ss nn) (fun _ _ _ => rfl) hr
      have hi2 := IW_EW (copy_EW ss nn) hi
      obtain ⟨w', a', p', m2, k1, k2, k3, k4⟩ := ticks_ok (N := N) (mm := sr mm 10 (va_cpy a (mm 10) 3 0 347)) hN hn hr2 hi2 pp
      have hb := bring_ok (N := N) (mm := m2) (a := a) (b := a') hN (fun k hk => by rw [k4 10 (by decide), sr_e, pk_cpy_in (Nat.zero_le _) (by omega)]; congr 1) k3.2.2.1
      refine ⟨w' 3 e, w', p', m2, ?_, ?_, fun c c1 c2 => by rw [k4 c c1, sr_n c2]⟩
      · rw [k1, bnd_s, inb_nI he (by omega), ck_t, cl_nI (by omega)]
      · rw [k2, bnd_s, i109, inb_nI (by omega) (by omega), ck_t, thn_e, cl_nI (by omega), sr_e, hb, bnd_s]
        exact congrArg (fun v => some (v, sr m2 1 a)) (k3.1.2.1.1 e he)
theorem q_copies (hN : 2000 ≤ N) (hr : RW nn a) (hi : IW nn) (x : Int32) : ∃ r s' p' m2, fX11_copies N x xx nn ss pp = some (r, s', p') ∧ fX12_copies N x (sr mm 1 a) = some (r, sr m2 1 a) ∧ ∀ c, c ≠ 6 → c ≠ 10 → m2 c = mm c := by
  unfold fX11_copies fX12_copies
  rcases day_c x with ⟨h1, h2⟩ | ⟨n, hn, rfl, h1, h2⟩
  · exact ⟨-1, ss, pp, mm, by rw [h1, if_pos rfl], by rw [h2, if_pos rfl], fun _ _ _ => rfl⟩
  · rw [h1, h2, if_neg (show ¬ (1 : Int32) = 0 by decide), if_neg (show ¬ (1 : Int32) = 0 by decide), thn_e, aside_ok hN, bnd_s, thn_e]
    have hr2 := RW_EW (copy_EW ss nn) (fun _ _ _ => rfl) hr
    have hi2 := IW_EW (copy_EW ss nn) hi
    obtain ⟨w', a', p', m2, k1, k2, k3, k4⟩ := ticks_ok (N := N) (mm := sr mm 10 (va_cpy a (mm 10) 3 0 347)) hN hn hr2 hi2 pp
    have hb := bring_ok (N := N) (mm := m2) (a := a) (b := a') hN (fun k hk => by rw [k4 10 (by decide), sr_e, pk_cpy_in (Nat.zero_le _) (by omega)]; congr 1) k3.2.2.1
    have e1 : a' 13 = w' 1 10 := (row13_iff.mp k3.1.1).2.2.2.2.2.2.2.2.2.2.1
    have e2 : a 13 = nn 1 10 := (row13_iff.mp hr.1).2.2.2.2.2.2.2.2.2.2.1
    refine ⟨w' 1 10 - nn 1 10, w', p', m2, ?_, ?_, fun c c1 c2 => by rw [k4 c c1, sr_n c2]⟩
    · rw [k1, bnd_s]
    · rw [k2, bnd_s, thn_e, sr_e, sr_e, hb, bnd_s, e1, e2]
end Q4
