/-! THE PLAN: the list of new moves -/
def MM (mm : RS) (F a : Nat → Int32) : RS := sr (sr mm 6 F) 1 a
theorem MM_6 {mm : RS} {F a : Nat → Int32} : MM mm F a 6 = F := by unfold MM; rw [sr_n (by decide), sr_e]
theorem MM_1 {mm : RS} {F a : Nat → Int32} : MM mm F a 1 = a := sr_e
theorem MM_st {mm : RS} {F a : Nat → Int32} {i : Nat} {x : Int32} : st (MM mm F a) 6 i x = MM mm (upd F i x) a := by
  apply rs_ext
  intro r k
  unfold MM
  rw [st_d]
  by_cases h1 : r = 1
  · subst h1; simp (disch := omega) only [sr_e, sr_n]
  · by_cases h6 : r = 6
    · subst h6; simp (disch := omega) only [sr_e, sr_n]
    · simp (disch := omega) only [sr_n]
theorem MM_self {mm : RS} {a : Nat → Int32} : MM mm (mm 6) a = sr mm 1 a := by unfold MM; rw [sr_self]
/-- a list of n extents: none twice, each of them free to move -/
def LQ (w : RS) (m n : Nat) (L : Nat → Nat) : Prop := (∀ i, i < n → L i < 10 ∧ bgn w m (L i) = false) ∧ ∀ i, i < n → ∀ j, j < n → L i = L j → i = j
def same (n : Nat) (L : Nat → Nat) (f g : Nat → Int32) : Prop := ∀ i, i < n → f i = nI (L i) ∧ g i = nI (L i)
def insL (L : Nat → Nat) (at_ e : Nat) : Nat → Nat := fun i => if i < at_ then L i else if i = at_ then e else L (i - 1)
theorem insL_Q {w : RS} {m n at_ e : Nat} {L : Nat → Nat} (h : LQ w m n L) (ha : at_ ≤ n) (he : e < 10) (hb : bgn w m e = false) (hn : ∀ i, i < n → L i ≠ e) : LQ w m (n + 1) (insL L at_ e) := by
  have back : ∀ i, i < n + 1 → i ≠ at_ → ∃ i', i' < n ∧ insL L at_ e i = L i' ∧ (i < at_ ∧ i' = i ∨ at_ < i ∧ i' = i - 1) := by
    intro i hi hne
    unfold insL
    by_cases c : i < at_
    · exact ⟨i, by omega, if_pos c, Or.inl ⟨c, rfl⟩⟩
    · exact ⟨i - 1, by omega, by rw [if_neg c, if_neg hne], Or.inr ⟨by omega, rfl⟩⟩
  have mid : insL L at_ e at_ = e := by unfold insL; rw [if_neg (Nat.lt_irrefl _), if_pos rfl]
  constructor
  · intro i hi
    by_cases c : i = at_
    · subst c; rw [mid]; exact ⟨he, hb⟩
    · obtain ⟨i', h1, h2, -⟩ := back i hi c
      rw [h2]
      exact h.1 i' h1
  · intro i hi j hj q
    by_cases c : i = at_
    · by_cases c2 : j = at_
      · omega
      · obtain ⟨j', h1, h2, -⟩ := back j hj c2
        rw [c, mid, h2] at q
        exact absurd q.symm (hn j' h1)
    · obtain ⟨i', h1, h2, h3⟩ := back i hi c
      by_cases c2 : j = at_
      · rw [c2, mid, h2] at q
        exact absurd q (hn i' h1)
      · obtain ⟨j', g1, g2, g3⟩ := back j hj c2
        rw [h2, g2] at q
        have := h.2 i' h1 j' g1 q
        omega
theorem LQ_le {w : RS} {m n : Nat} {L : Nat → Nat} (h : LQ w m n L) : n ≤ 10 := by
  have h1 : ∀ k, sN k (fun _ => 1) = k := by
    intro k
    induction k with
    | zero => rfl
    | succ k ih => show sN k _ + 1 = _; rw [ih]
  have e1 : n = sN n fun i => sN 10 fun f => if L i = f then 1 else 0 := by
    conv => lhs; rw [← h1 n]
    refine sN_cg fun i hi => ?_
    rw [sN_one (h.1 i hi).1 fun j hj hne => if_neg fun q => hne q.symm, if_pos rfl]
  rw [sN_swap] at e1
  have e2 : sN 10 (fun f => sN n fun i => if L i = f then 1 else 0) ≤ sN 10 fun _ => 1 := by
    refine sN_le fun f hf => ?_
    by_cases q : ∃ i, i < n ∧ L i = f
    · obtain ⟨i, i1, i2⟩ := q
      rw [sN_one i1 fun j hj hne => if_neg fun z => hne (h.2 j hj i i1 (z.trans i2.symm)), if_pos i2]
      exact Nat.le_refl _
    · rw [sN_cg (g := fun _ => 0) fun i hi => if_neg fun z => q ⟨i, hi, z⟩, sN_0]
      exact Nat.zero_le _
  rw [h1 10] at e2
  omega
def pK (w : RS) (m s : Nat) (p : RS) : Prop := (∀ e, e < 10 → p 3 e = b2i (bgn w m e)) ∧ p 0 9 = nI s
theorem begunM' {N m e : Nat} (hN : 97 ≤ N) (hm : m ≤ 10) (he : e < 10) {w mm : RS} {F a : Nat → Int32} (hr : RW w a) (hi : IW w) (h23 : w 23 0 = nI m) : fX12_begunOf N (nI e) (MM mm F a) = some (if bgn w m e then 1 - w 3 e else -1) := begunM hN hm he hr hi h23
theorem isFastM' {N e : Nat} (he : e < 10) {w mm : RS} {F a : Nat → Int32} (hr : RW w a) (hi : IW w) : fX12_isFast N (nI e) (MM mm F a) = some (w 3 e) := isFastM he hr hi
/-- to slow -/
theorem list_1 {N m s : Nat} (hN : 97 ≤ N) (hm : m ≤ 10) (hs : s < 1024) {w mm : RS} {a : Nat → Int32} (hr : RW w a) (hi : IW w) (h23 : w 23 0 = nI m) :
    ∀ d e n k k2 p F L, 10 - e = d → e ≤ 10 → n ≤ e → d < k → d < k2 → p 0 12 = nI n → pK w m s p → same n L (p 8) F → LQ w m n L → (∀ i, i < n → L i < e ∧ w 3 (L i) = 1) →
      ∃ n' p' F' L', fX6_listMoves_L7 N w k (nI e) p = fX6_listMoves_L76 N w N (nI n') 0 p' ∧ fX12_layNew_L4 N (nI s) k2 (nI n) (nI e) (MM mm F a) = fX12_layNew_L59 N (nI s) N (nI n') (nI n') 0 (MM mm F' a) ∧ p' 0 12 = nI n' ∧ pK w m s p' ∧ same n' L' (p' 8) F' ∧ LQ w m n' L' ∧ (∀ i, i < n' → w 3 (L' i) = 1) ∧ n' ≤ 10 ∧ p' 0 9 = p 0 9 := by
  intro d
  induction d with
  | zero =>
    intro e n k k2 p F L h1 h2 h3 h4 h5 g1 g2 g3 g4 g5
    obtain ⟨k, rfl⟩ : ∃ j, k = j + 1 := ⟨k - 1, by omega⟩
    obtain ⟨k2, rfl⟩ : ∃ j, k2 = j + 1 := ⟨k2 - 1, by omega⟩
    have : e = 10 := by omega
    subst this
    refine ⟨n, p, F, L, ?_, ?_, g1, g2, g3, g4, fun i hi2 => (g5 i hi2).2, h3, rfl⟩
    · rw [fX6_listMoves_L7, if_pos (show (10 : Int32) ≤ nI 10 by decide), thn_e, g1]
    · rw [fX12_layNew_L4, if_pos (show (10 : Int32) ≤ nI 10 by decide)]
  | succ d ih =>
    intro e n k k2 p F L h1 h2 h3 h4 h5 g1 g2 g3 g4 g5
    obtain ⟨k, rfl⟩ : ∃ j, k = j + 1 := ⟨k - 1, by omega⟩
    obtain ⟨k2, rfl⟩ : ∃ j, k2 = j + 1 := ⟨k2 - 1, by omega⟩
    have he : e < 10 := by omega
    have n10 : ¬ (10 : Int32) ≤ nI e := fun q => absurd ((le_10 (by omega)).mp q) (by omega)
    have hC : fX6_listMoves_L7 N w (k + 1) (nI e) p = (if b2i (bgn w m e) = 0 then (if w 3 e = 1 then (if b2i (bitS s e) = 0 then fX6_listMoves_L7 N w k (nI (e + 1)) (sr (sr p 8 (upd (p 8) n (nI e))) 0 (upd (p 0) 12 (nI (n + 1)))) else fX6_listMoves_L7 N w k (nI (e + 1)) p) else fX6_listMoves_L7 N w k (nI (e + 1)) p) else fX6_listMoves_L7 N w k (nI (e + 1)) p) := by
      rw [fX6_listMoves_L7, if_neg n10, inb_nI he (by omega), ck_t, cl_nI (by omega), g2.1 e he, g2.2, isIn10 hs he]
      unfold fX6_listMoves_L63
      simp (disch := omega) only [thn_e, st_d, sr_e, sr_n, g1, inb_nI, ck_t, cl_nI, j1]
    have hM : fX12_layNew_L4 N (nI s) (k2 + 1) (nI n) (nI e) (MM mm F a) = (if w 3 e = 0 then fX12_layNew_L4 N (nI s) k2 (nI n) (nI (e + 1)) (MM mm F a) else (if b2i (bitS s e) = 0 then (if (if bgn w m e then 1 - w 3 e else -1) = -1 then fX12_layNew_L4 N (nI s) k2 (nI (n + 1)) (nI (e + 1)) (MM mm (upd F n (nI e)) a) else fX12_layNew_L4 N (nI s) k2 (nI n) (nI (e + 1)) (MM mm F a)) else fX12_layNew_L4 N (nI s) k2 (nI n) (nI (e + 1)) (MM mm F a))) := by
      rw [fX12_layNew_L4, if_neg n10, isFastM' he hr hi, bnd_s, has10 s hs e he, begunM' hN hm he hr hi h23, bnd_s]
      unfold fX12_layNew_L48
      rw [inb_nI (i := n) (n := 10) (by omega) (by omega), ck_t, thn_e, cl_nI (n := n) (by omega), MM_st, j1, j1]
    have skip := ih (e + 1) n k k2 p F L (by omega) (by omega) (by omega) (by omega) (by omega) g1 g2 g3 g4 (fun i hi2 => ⟨by have := (g5 i hi2).1; omega, (g5 i hi2).2⟩)
    rw [hC, hM]
    rcases hi.1.1 e he with q | q
    · rw [q, if_neg (show ¬ (0 : Int32) = 1 by decide), if_pos (show (0 : Int32) = 0 from rfl), ite_self]
      exact skip
    · rw [q, if_pos (show (1 : Int32) = 1 from rfl), if_neg (show ¬ (1 : Int32) = 0 by decide)]
      cases cb : bitS s e with
      | true =>
        rw [if_neg (show ¬ b2i true = 0 by decide), if_neg (show ¬ b2i true = 0 by decide), ite_self]
        exact skip
      | false =>
        rw [if_pos (show b2i false = 0 from rfl), if_pos (show b2i false = 0 from rfl)]
        cases cg : bgn w m e with
        | true =>
          rw [if_neg (show ¬ b2i true = 0 by decide), if_neg (by decide)]
          exact skip
        | false =>
          rw [if_pos (show b2i false = 0 from rfl), if_pos (by decide)]
          have mid : insL L n e n = e := by unfold insL; rw [if_neg (Nat.lt_irrefl _), if_pos rfl]
          have low : ∀ i, i < n → insL L n e i = L i := fun i hi2 => if_pos hi2
          refine Exists.elim (ih (e + 1) (n + 1) k k2 (sr (sr p 8 (upd (p 8) n (nI e))) 0 (upd (p 0) 12 (nI (n + 1)))) (upd F n (nI e)) (insL L n e) (by omega) (by omega) (by omega) (by omega) (by omega) (by rw [sr_e, upd_e]) ⟨fun f hf => by rw [sr_n (by decide), sr_n (by decide)]; exact g2.1 f hf, by rw [sr_e, upd_n (by decide)]; exact g2.2⟩ (fun i hi2 => ?_) (insL_Q g4 (Nat.le_refl _) he cg (fun i hi2 => by have := (g5 i hi2).1; omega)) (fun i hi2 => ?_)) ?_
          · rw [sr_n (by decide), sr_e]
            by_cases c : i = n
            · subst c; rw [upd_e, upd_e, mid]; exact ⟨rfl, rfl⟩
            · rw [upd_n c, upd_n c, low i (by omega)]; exact g3 i (by omega)
          · by_cases c : i = n
            · subst c; rw [mid]; exact ⟨by omega, q⟩
            · rw [low i (by omega)]; exact ⟨by have := (g5 i (by omega)).1; omega, (g5 i (by omega)).2⟩
          · rintro n' ⟨p', F', L', i1, i2, i3, i4, i5, i6, i7, i8, i9⟩
            exact ⟨n', p', F', L', i1, i2, i3, i4, i5, i6, i7, i8, by rw [i9, sr_e, upd_n (by decide)]⟩
/-- hotter, of an extent and a lower one -/
theorem hotC {N e x : Nat} (he : e < 10) (hx : x < e) {w : RS} : fX2_hotter N (nI e) (nI x) w = some (if w 9 x < w 9 e then 1 else 0) := by
  unfold fX2_hotter fX2_hotter_L35
  rw [inb_nI he (by omega), ck_t, inb_nI (by omega) (by omega), ck_t, cl_nI (by omega), cl_nI (by omega)]
  by_cases c : w 9 x < w 9 e
  · rw [if_pos c, if_pos c]
  · rw [if_neg c, if_neg c, if_pos (nI_le (by omega) (by omega)), ite_self]
/-- one is put in its place -/
theorem list_in {N m s first n e : Nat} (hs : s < 1024) {w mm : RS} {a : Nat → Int32} (hr : RW w a) (he : e < 10) (hn : n < 10) (hf : first ≤ n) {L : Nat → Nat} (hL : ∀ i, first ≤ i → i < n → L i < e) (hL10 : ∀ i, i < n → L i < 10) (k76 : Int32 → Int32 → RS → Option RS) (k59 : Int32 → Int32 → Int32 → RS → Option (Int32 × RS)) :
    ∀ d at_ k k2 p F, at_ - first = d → first ≤ at_ → at_ ≤ n → d < k → d < k2 → p 0 12 = nI n → pK w m s p → (∀ i, i < at_ → p 8 i = nI (L i) ∧ F i = nI (L i)) → (∀ i, at_ < i → i ≤ n → p 8 i = nI (L (i - 1)) ∧ F i = nI (L (i - 1))) →
      ∃ at' p' F', fX6_listMoves_L117 N w k76 k (nI first) (nI e) (nI at_) p = k76 (nI first) (nI (e + 1)) p' ∧ fX12_layNew_L100 N (nI s) k59 k2 (nI n) (nI first) (nI e) (nI at_) (MM mm F a) = k59 (nI (n + 1)) (nI first) (nI (e + 1)) (MM mm F' a) ∧ first ≤ at' ∧ at' ≤ n ∧ p' 0 12 = nI (n + 1) ∧ pK w m s p' ∧ same (n + 1) (insL L at' e) (p' 8) F' ∧ p' 0 9 = p 0 9 := by
  intro d
  have fin : ∀ at_ p F, at_ ≤ n → p 0 12 = nI n → pK w m s p → (∀ i, i < at_ → p 8 i = nI (L i) ∧ F i = nI (L i)) → (∀ i, at_ < i → i ≤ n → p 8 i = nI (L (i - 1)) ∧ F i = nI (L (i - 1))) →
      ∃ p' F', fX6_listMoves_L162 N w k76 (nI first) (nI e) (nI at_) p = k76 (nI first) (nI (e + 1)) p' ∧ fX12_layNew_L158 N (nI s) k59 (nI n) (nI first) (nI e) (nI at_) (MM mm F a) = k59 (nI (n + 1)) (nI first) (nI (e + 1)) (MM mm F' a) ∧ p' 0 12 = nI (n + 1) ∧ pK w m s p' ∧ same (n + 1) (insL L at_ e) (p' 8) F' ∧ p' 0 9 = p 0 9 := by
    intro at_ p F h1 h2 h3 h4 h5
    refine ⟨sr (sr p 8 (upd (p 8) at_ (nI e))) 0 (upd (p 0) 12 (nI (n + 1))), upd F at_ (nI e), ?_, ?_, by rw [sr_e, upd_e], ⟨fun f hf2 => by rw [sr_n (by decide), sr_n (by decide)]; exact h3.1 f hf2, by rw [sr_e, upd_n (by decide)]; exact h3.2⟩, fun i hi => ?_, by rw [sr_e, upd_n (by decide)]⟩
    · unfold fX6_listMoves_L162 fX6_listMoves_L180
      rw [inb_nI (by omega) (by omega), ck_t, thn_e, thn_e, cl_nI (by omega), st_d, st_d, sr_n (by decide), h2, j1, j1]
    · unfold fX12_layNew_L158 fX12_layNew_L170
      rw [inb_nI (by omega) (by omega), ck_t, thn_e, cl_nI (by omega), MM_st, j1, j1]
    · rw [sr_n (by decide), sr_e]
      unfold insL
      by_cases c : i = at_
      · subst c; rw [upd_e, upd_e, if_neg (Nat.lt_irrefl _), if_pos rfl]; exact ⟨rfl, rfl⟩
      · rw [upd_n c, upd_n c]
        by_cases c2 : i < at_
        · rw [if_pos c2]; exact h4 i c2
        · rw [if_neg c2, if_neg c]; exact h5 i (by omega) (by omega)
  induction d with
  | zero =>
    intro at_ k k2 p F h1 h2 h3 h4 h5 g1 g2 g3 g4
    obtain ⟨k, rfl⟩ : ∃ j, k = j + 1 := ⟨k - 1, by omega⟩
    obtain ⟨k2, rfl⟩ : ∃ j, k2 = j + 1 := ⟨k2 - 1, by omega⟩
    obtain ⟨p', F', i1, i2, i3, i4, i5, i6⟩ := fin at_ p F h3 g1 g2 g3 g4
    refine ⟨at_, p', F', ?_, ?_, h2, h3, i3, i4, i5, i6⟩
    · rw [fX6_listMoves_L117, if_pos (nI_le (by omega) (by omega))]
      exact i1
    · rw [fX12_layNew_L100, if_pos (nI_le (by omega) (by omega))]
      exact i2
  | succ d ih =>
    intro at_ k k2 p F h1 h2 h3 h4 h5 g1 g2 g3 g4
    obtain ⟨k, rfl⟩ : ∃ j, k = j + 1 := ⟨k - 1, by omega⟩
    obtain ⟨k2, rfl⟩ : ∃ j, k2 = j + 1 := ⟨k2 - 1, by omega⟩
    obtain ⟨t1, t2⟩ := g3 (at_ - 1) (by omega)
    have hx := hL (at_ - 1) (by omega) (by omega)
    have q1 : a (19 + L (at_ - 1)) = w 9 (L (at_ - 1)) := hr.2.1.2.2.2.2.2.1 _ (by omega)
    have q2 : a (19 + e) = w 9 e := hr.2.1.2.2.2.2.2.1 _ he
    have hC : fX6_listMoves_L117 N w k76 (k + 1) (nI first) (nI e) (nI at_) p = (if w 9 (L (at_ - 1)) < w 9 e then fX6_listMoves_L117 N w k76 k (nI first) (nI e) (nI (at_ - 1)) (sr p 8 (upd (p 8) at_ (nI (L (at_ - 1))))) else fX6_listMoves_L162 N w k76 (nI first) (nI e) (nI at_) p) := by
      rw [fX6_listMoves_L117, if_neg (nI_ge (by omega) (by omega)), s1 (by omega), inb_nI (by omega) (by omega), ck_t, cl_nI (by omega), t1, hotC he hx, bnd_s, n1 (by omega)]
      by_cases c : w 9 (L (at_ - 1)) < w 9 e
      · rw [if_pos c, if_neg (show ¬ (1 : Int32) = 0 by decide), if_pos c]
        by_cases ca : at_ < 10
        · rw [inb_nI ca (by omega), ck_t, thn_e, cl_nI (by omega), st_d]
        · omega
      · rw [if_neg c, if_pos rfl, if_neg c]
    have hM : fX12_layNew_L100 N (nI s) k59 (k2 + 1) (nI n) (nI first) (nI e) (nI at_) (MM mm F a) = (if w 9 e ≤ w 9 (L (at_ - 1)) then fX12_layNew_L158 N (nI s) k59 (nI n) (nI first) (nI e) (nI at_) (MM mm F a) else fX12_layNew_L100 N (nI s) k59 k2 (nI n) (nI first) (nI e) (nI (at_ - 1)) (MM mm (upd F at_ (nI (L (at_ - 1)))) a)) := by
      rw [fX12_layNew_L100, if_neg (nI_ge (by omega) (by omega)), s1 (by omega), inb_nI (i := at_ - 1) (by omega) (by omega), ck_t, cl_nI (n := at_ - 1) (by omega), MM_6, t2, i19, i19, inb_nI (i := 19 + L (at_ - 1)) (by omega) (by omega), ck_t, inb_nI (i := 19 + e) (by omega) (by omega), ck_t, cl_nI (n := 19 + L (at_ - 1)) (by omega), cl_nI (n := 19 + e) (by omega), MM_1, q1, q2, inb_nI (i := at_) (by omega) (by omega), ck_t, thn_e, cl_nI (n := at_) (by omega), MM_st, n1 (by omega)]
    rw [hC, hM]
    by_cases c : w 9 (L (at_ - 1)) < w 9 e
    · rw [if_pos c, if_neg (Int32.not_le.mpr c)]
      refine Exists.elim (ih (at_ - 1) k k2 (sr p 8 (upd (p 8) at_ (nI (L (at_ - 1))))) (upd F at_ (nI (L (at_ - 1)))) (by omega) (by omega) (by omega) (by omega) (by omega) (by rw [sr_n (by decide)]; exact g1) ⟨fun f hf2 => by rw [sr_n (by decide)]; exact g2.1 f hf2, by rw [sr_n (by decide)]; exact g2.2⟩ (fun i hi => ?_) (fun i hi hi2 => ?_)) ?_
      · rw [sr_e, upd_n (by omega), upd_n (by omega)]
        exact g3 i (by omega)
      · rw [sr_e]
        by_cases ci : i = at_
        · subst ci; rw [upd_e, upd_e]; exact ⟨rfl, rfl⟩
        · rw [upd_n ci, upd_n ci]; exact g4 i (by omega) hi2
      · rintro at' ⟨p', F', i1, i2, i3, i4, i5, i6, i7, i8⟩
        exact ⟨at', p', F', i1, i2, i3, i4, i5, i6, i7, i8.trans (by rw [sr_n (by decide)])⟩
    · rw [if_neg c, if_pos (Int32.not_lt.mp c)]
      obtain ⟨p', F', i1, i2, i3, i4, i5, i6⟩ := fin at_ p F h3 g1 g2 g3 g4
      exact ⟨at_, p', F', i1, i2, h2, h3, i3, i4, i5, i6⟩
