/-! ONE TOKEN, on both sides -/
def km (k : Nat) : Nat := if k = 1 then 2 else if k = 2 then 1 else if k = 3 then 207 else if 4 ≤ k ∧ k ≤ 10 then k + 196 else k
/-- a kind, the class's value, the reference's number -/
def KV (k v w : Nat) : Prop := (k = 2 ∧ vr v w) ∨ (k = 3 ∧ v < 3 ∧ w = v) ∨ (v = 0 ∧ w = 0 ∧ (k = 1 ∨ (4 ≤ k ∧ k ≤ 10) ∨ isSg k = true))
def adT (rr : RS) (c : Nat) (k v p : Int32) : RS := sr (sr (sr (sr rr 2 (upd (rr 2) c k)) 3 (upd (rr 3) c v)) 4 (upd (rr 4) c p)) 0 (upd (rr 0) 7 (nI (c + 1)))
theorem addTok {N c : Nat} {rr : RS} {k v p : Int32} (hc : c ≤ 300) (h : rr 0 7 = nI c) : fX8_addToken N k v p rr = some (adT rr c k v p) := by
  unfold fX8_addToken adT
  rw [h, if_neg (fun q => absurd ((le_301 (by omega)).mp q) (by omega))]
  simp (disch := omega) only [thn_e, st_d, sr_e, sr_n, h, inb_nI, ck_t, cl_nI, j1]
theorem adT_BC {n c : Nat} {b : Nat → Nat} {rr : RS} {k v p : Int32} (h : BC n b rr) : BC n b (adT rr c k v p) := by
  unfold adT
  obtain ⟨h1, h2, h3⟩ := h
  refine ⟨h1, by rw [sr_e, upd_n (by decide)]; exact h2, fun i hi => ?_⟩
  rw [sr_n (by decide), sr_n (by decide), sr_n (by decide), sr_n (by decide)]
  exact h3 i hi
theorem BM_z {n : Nat} {b : Nat → Nat} {mm : RS} {z : Nat → Int32} (h : BM n b mm) (hz : z 4 = mm 0 4) : BM n b (sr mm 0 z) := ⟨h.1, by rw [sr_e, hz]; exact h.2.1, fun i hi => by rw [sr_n (by decide)]; exact h.2.2 i hi⟩
def blk (k : Nat) : Prop := k = 32 ∨ k = 10
/-- the reference's token from a place that isn't blank -/
def tkM (N : Nat) (mm : RS) (z : Nat → Int32) : Option RS := thn (st (sr mm 0 z) 0 8 (z 7)) fun mm_3 => thn (st mm_3 0 10 0) fun mm_4 => bnd (fX12_byteAt N (mm_4 0 7) mm_4) fun r5 => if 0 ≤ r5 then (if (fX12_isFigure r5) = 0 then (if (fX12_isLetterByte r5) = 0 then (if (fX12_isSign r5) = 0 then (fX12_nextToken_L244 N 2 mm_4) else (fX12_nextToken_L244 N r5 mm_4)) else (fX12_nextToken_L158 N N r5 mm_4)) else (thn (st mm_4 0 9 1) fun mm_9 => fX12_nextToken_L85 N N mm_9)) else (thn (st mm_4 0 9 0) fun mm_10 => fX12_nextToken_L257 N mm_10)
theorem numM_L85 {N n p e : Nat} {b : Nat → Nat} {mm : RS} (hr : RUN (fun t => isD (b t)) n p e) (hb : BM n b mm) : ∀ d t k z, e - t = d → p ≤ t → t ≤ e → d < k → z 4 = mm 0 4 → z 7 = nI t → z 10 = nI (numM b p (t - p)) →
    ∃ z', fX12_nextToken_L85 N k (sr mm 0 z) = fX12_nextToken_L257 N (sr mm 0 z') ∧ z' 7 = nI e ∧ z' 10 = nI (numM b p (e - p)) ∧ ∀ j, j ≠ 7 → j ≠ 10 → z' j = z j := by
  obtain ⟨r1, r2, r3, r4⟩ := hr
  have hn := hb.1
  intro d
  induction d with
  | zero =>
    intro t k z g1 g2 g3 g4 g5 g6 g7
    obtain ⟨k, rfl⟩ : ∃ j, k = j + 1 := ⟨k - 1, by omega⟩
    have : t = e := by omega
    subst this
    refine ⟨z, ?_, g6, g7, fun _ _ _ => rfl⟩
    rw [fX12_nextToken_L85, sr_e, g6, byteM (BM_z hb g5) (by omega), bnd_s]
    by_cases c : t < n
    · rw [if_pos c, digM _ (hb.2.2 t c).1, show isD (b t) = false from r4 c, if_pos (show b2i false = 0 from rfl)]
    · rw [if_neg c, digM1, if_pos rfl]
  | succ d ih =>
    intro t k z g1 g2 g3 g4 g5 g6 g7
    obtain ⟨k, rfl⟩ : ∃ j, k = j + 1 := ⟨k - 1, by omega⟩
    have c : t < n := by omega
    have hdg := isD_le (show isD (b t) = true from r3 t g2 (by omega))
    have hv := vr_le (num_vr (b := b) (p := p) (t - p) fun u a c => r3 u a (by omega))
    have e1 : numM b p (t + 1 - p) = nvM (numM b p (t - p)) (b t - 48) := by
      rw [show t + 1 - p = (t - p) + 1 from by omega]
      show nvM _ (b (p + (t - p)) - 48) = _
      rw [show p + (t - p) = t from by omega]
    have step : ∀ x : Int32, x = nI (numM b p (t + 1 - p)) → ∃ z', fX12_nextToken_L135 N (fX12_nextToken_L85 N k) x (sr mm 0 z) = fX12_nextToken_L257 N (sr mm 0 z') ∧ z' 7 = nI e ∧ z' 10 = nI (numM b p (e - p)) ∧ ∀ j, j ≠ 7 → j ≠ 10 → z' j = z j := by
      intro x hx
      obtain ⟨z', i1, i2, i3, i4⟩ := ih (t + 1) k (upd (upd z 10 x) 7 (nI (t + 1))) (by omega) (by omega) (by omega) (by omega) (by rw [upd_n (by decide), upd_n (by decide)]; exact g5) (by rw [upd_e]) (by rw [upd_n (by decide), upd_e, hx])
      refine ⟨z', ?_, i2, i3, fun j a1 a2 => by rw [i4 j a1 a2, upd_n a1, upd_n a2]⟩
      unfold fX12_nextToken_L135
      rw [thn_e, thn_e, st_sr, st_sr, sr_e, upd_n (by decide), g6, j1]
      exact i1
    rw [fX12_nextToken_L85, sr_e, g6, byteM (BM_z hb g5) (by omega), bnd_s, if_pos c, digM _ (hb.2.2 t c).1, show isD (b t) = true from r3 t g2 (by omega), if_neg (show ¬ b2i true = 0 by decide), g7, bnd_s]
    by_cases q : 99999 < numM b p (t - p)
    · rw [if_neg (show ¬ nI (numM b p (t - p)) ≤ 99999 from nI_ge (a := 99999) q (by omega))]
      exact step _ (by rw [e1]; unfold nvM; rw [if_pos q])
    · rw [if_pos (show nI (numM b p (t - p)) ≤ 99999 from nI_le (b := 99999) (by omega) (by decide))]
      refine step _ ?_
      rw [e1]
      unfold nvM
      rw [if_neg q, m10, nI_add, show (48 : Int32) = nI 48 from rfl, sub_nI (by omega)]
      congr 1
      omega
theorem letM_L158 {N n p e : Nat} {b : Nat → Nat} {mm : RS} {x1 : Int32} (hr : RUN (fun t => isL (b t)) n p e) (hb : BM n b mm) : ∀ d t k z, e - t = d → p ≤ t → t ≤ e → d < k → z 4 = mm 0 4 → z 7 = nI t →
    fX12_nextToken_L158 N k x1 (sr mm 0 z) = (bnd (fX12_wordOf N (z 8) (nI e - z 8) (sr mm 0 (upd z 7 (nI e)))) fun r3 => thn (st (sr mm 0 (upd z 7 (nI e))) 0 9 r3) fun mm_4 => if (mm_4 0 9) = 207 then (fX12_nextToken_L225 N (x1 - 97) mm_4) else (fX12_nextToken_L225 N 0 mm_4)) := by
  obtain ⟨r1, r2, r3, r4⟩ := hr
  have hn := hb.1
  intro d
  induction d with
  | zero =>
    intro t k z g1 g2 g3 g4 g5 g6
    obtain ⟨k, rfl⟩ : ∃ j, k = j + 1 := ⟨k - 1, by omega⟩
    have : t = e := by omega
    subst this
    have hz : upd z 7 (nI t) = z := by rw [← g6, upd_self]
    have hl : ∀ {α : Type} (A B : α), (if fX12_isLetterByte (if t < n then nI (b t) else -1) = 0 then A else B) = A := fun A B => by
      by_cases c : t < n
      · rw [if_pos c, letM _ (hb.2.2 t c).1, show isL (b t) = false from r4 c, if_pos (show b2i false = 0 from rfl)]
      · rw [if_neg c, letM1, if_pos rfl]
    rw [fX12_nextToken_L158, sr_e, g6, byteM (BM_z hb g5) (by omega), bnd_s, hl, hz]
  | succ d ih =>
    intro t k z g1 g2 g3 g4 g5 g6
    obtain ⟨k, rfl⟩ : ∃ j, k = j + 1 := ⟨k - 1, by omega⟩
    have c : t < n := by omega
    have uu : upd (upd z 7 (nI (t + 1))) 7 (nI e) = upd z 7 (nI e) := by
      funext j
      by_cases q : j = 7
      · subst q; rw [upd_e, upd_e]
      · rw [upd_n q, upd_n q, upd_n q]
    have i := ih (t + 1) k (upd z 7 (nI (t + 1))) (by omega) (by omega) (by omega) (by omega) (by rw [upd_n (by decide)]; exact g5) (by rw [upd_e])
    rw [uu, upd_n (by decide)] at i
    rw [fX12_nextToken_L158, sr_e, g6, byteM (BM_z hb g5) (by omega), bnd_s, if_pos c, letM _ (hb.2.2 t c).1, show isL (b t) = true from r3 t g2 (by omega), if_neg (show ¬ b2i true = 0 by decide), thn_e, st_sr, j1]
    exact i
/-- one token at a place that isn't blank -/
def TK (N n : Nat) (b : Nat → Nat) (p e k v w : Nat) : Prop :=
  (∀ rr c t kk, BC n b rr → rr 0 7 = nI c → c ≤ 300 → t < 300 → fX8_listTokens_L9 N (kk + 1) (nI p) (nI t) rr = fX8_listTokens_L9 N kk (nI e) (nI (t + 1)) (adT rr c (nI k) (nI v) (nI p))) ∧
  ∀ mm z, BM n b mm → z 4 = mm 0 4 → z 7 = nI p → ∃ z', tkM N mm z = fX12_nextToken_L257 N (sr mm 0 z') ∧ z' 7 = nI e ∧ z' 8 = nI p ∧ z' 9 = nI (km k) ∧ z' 10 = nI w ∧ ∀ j, j ≠ 7 → j ≠ 8 → j ≠ 9 → j ≠ 10 → z' j = z j
theorem L9_at {N n p t c : Nat} {b : Nat → Nat} {rr : RS} {kk : Nat} (hp : p < n) (ht : t < 300) (h : BC n b rr) : fX8_listTokens_L9 N (kk + 1) (nI p) (nI t) rr = (if b2i (isL (b p)) = 0 then (if b2i (isD (b p)) = 0 then (if nI (b p) = 32 then (fX8_listTokens_L120 N (fX8_listTokens_L9 N kk) (nI t) (nI (p + 1)) rr) else (if nI (b p) = 10 then (fX8_listTokens_L120 N (fX8_listTokens_L9 N kk) (nI t) (nI (p + 1)) rr) else (if b2i (isSg (b p)) = 0 then (fX8_listTokens_L115 N (fX8_listTokens_L9 N kk) (nI p) (nI t) (nI (p + 1)) 1 rr) else (fX8_listTokens_L115 N (fX8_listTokens_L9 N kk) (nI p) (nI t) (nI (p + 1)) (nI (b p)) rr)))) else (bnd (fX8_behindDigits N (nI p) rr) fun r7 => bnd (fX8_numberFrom N (nI p) r7 rr) fun r8 => bnd (fX8_addToken N 2 r8 (nI p) rr) fun r9 => fX8_listTokens_L120 N (fX8_listTokens_L9 N kk) (nI t) r7 r9)) else (bnd (fX8_behindLetters N (nI p) rr) fun r10 => bnd (fX8_addWord N (nI p) r10 rr) fun r11 => fX8_listTokens_L120 N (fX8_listTokens_L9 N kk) (nI t) r10 r11)) := by
  obtain ⟨h1, h2, h3⟩ := h
  obtain ⟨q1, q2⟩ := h3 p hp
  rw [fX8_listTokens_L9, if_neg (fun q => absurd ((le_300 (by omega)).mp q) (by omega)), h2, if_neg (nI_ge hp (by omega)), inb_nI (by omega) (by omega), ck_t, cl_nI (by omega), q2, thn_e, thn_e, letC _ q1, digC _ q1, sgnC _ q1, j1]
theorem c32n {k : Nat} (h : k < 256) (hk : ¬ blk k) {α : Type} {A B C : α} : (if nI k = 32 then A else if nI k = 10 then B else C) = C := by
  rw [if_neg (show ¬ nI k = 32 from fun q => hk (Or.inl ((eq_nI (b := 32) (by omega) (by decide)).mp q))), if_neg (show ¬ nI k = 10 from fun q => hk (Or.inr ((eq_nI (b := 10) (by omega) (by decide)).mp q)))]
theorem c32y {k : Nat} (hk : blk k) {α : Type} {A C : α} : (if nI k = 32 then A else if nI k = 10 then A else C) = A := by
  rcases hk with rfl | rfl
  · rw [if_pos (show nI 32 = 32 from rfl)]
  · rw [if_neg (show ¬ nI 10 = 32 by decide), if_pos (show nI 10 = 10 from rfl)]
theorem tk_ex {N n p : Nat} {b : Nat → Nat} (hN : 2000 ≤ N) (hn : n ≤ 300) (hb : ∀ i, i < n → b i < 256) (hp : p < n) (hk : ¬ blk (b p)) : ∃ e k v w, p < e ∧ e ≤ n ∧ KV k v w ∧ TK N n b p e k v w := by
  have q1 := hb p hp
  have tk0 : ∀ mm z, BM n b mm → z 4 = mm 0 4 → z 7 = nI p → tkM N mm z = (if (b2i (isD (b p))) = 0 then (if b2i (isL (b p)) = 0 then (if b2i (isSg (b p)) = 0 then (fX12_nextToken_L244 N 2 (sr mm 0 (upd (upd z 8 (nI p)) 10 0))) else (fX12_nextToken_L244 N (nI (b p)) (sr mm 0 (upd (upd z 8 (nI p)) 10 0)))) else (fX12_nextToken_L158 N N (nI (b p)) (sr mm 0 (upd (upd z 8 (nI p)) 10 0)))) else (fX12_nextToken_L85 N N (sr mm 0 (upd (upd (upd z 8 (nI p)) 10 0) 9 1)))) := by
    intro mm z h4 h5 h6
    unfold tkM
    rw [thn_e, thn_e, st_sr, st_sr, sr_e, upd_n (by decide), upd_n (by decide), h6, byteM (BM_z h4 (by rw [upd_n (by decide), upd_n (by decide)]; exact h5)) (by omega), bnd_s, if_pos hp, if_pos (nI_pos' (by omega)), digM _ q1, letM _ q1, sgnM _ q1, thn_e, st_sr]
  cases cl : isL (b p) with
  | true =>
    have hd : isD (b p) = false := by
      have : ∀ k, k < 256 → isL k = true → isD k = false := by decide +kernel
      exact this _ q1 cl
    obtain ⟨e, hr⟩ := run_ex (fun t => isL (b t)) n (n - p) p rfl (by omega)
    have hpe : p < e := by
      obtain ⟨r1, r2, r3, r4⟩ := hr
      by_cases c : p = e
      · subst c
        have := r4 hp
        rw [show (fun t => isL (b t)) p = isL (b p) from rfl, cl] at this
        cases this
      · omega
    have he := hr.2.1
    by_cases cr : e - p = 1 ∧ 97 ≤ b p ∧ b p ≤ 99
    · refine ⟨e, 3, b p - 97, b p - 97, hpe, he, Or.inr (Or.inl ⟨rfl, by omega, rfl⟩), fun rr c t kk g1 g2 g3 g4 => ?_, fun mm z g1 g2 g3 => ?_⟩
      · have e1 : fX8_behindLetters N (nI p) rr = some (nI e) := behL g1 hr (e - p) p N rfl (Nat.le_refl _) (by omega) (by omega)
        rw [L9_at (c := c) hp g4 g1, cl, if_neg (show ¬ b2i true = 0 by decide), e1, bnd_s]
        unfold fX8_addWord fX8_listTokens_L120
        rw [inb_nI (by omega) (by omega), ck_t, cl_nI (by omega), (g1.2.2 p hp).2, thn_e, sub_nI (by omega), cr.1, if_pos (show nI 1 = 1 from rfl), show nI (b p) - 97 = nI (b p - 97) from sub_nI (b := 97) (by omega), if_neg (nlt_0 (by omega)), if_neg (fun q => absurd ((le_3 (by omega)).mp q) (by omega)), addTok g3 g2, bnd_s, bnd_s, j1]
        rfl
      · rw [tk0 mm z g1 g2 g3, cl, hd, if_pos (show b2i false = 0 from rfl), if_neg (show ¬ b2i true = 0 by decide), letM_L158 hr g1 (e - p) p N _ rfl (Nat.le_refl _) (by omega) (by omega) (by rw [upd_n (by decide), upd_n (by decide)]; exact g2) (by rw [upd_n (by decide), upd_n (by decide)]; exact g3)]
        have u8 : (upd (upd z 8 (nI p)) 10 0) 8 = nI p := by rw [upd_n (by decide), upd_e]
        unfold fX12_wordOf fX12_nextToken_L225
        have hbm : BM n b (sr mm 0 (upd (upd (upd z 8 (nI p)) 10 0) 7 (nI e))) := BM_z g1 (by rw [upd_n (by decide), upd_n (by decide), upd_n (by decide)]; exact g2)
        have hin : fX12_isIn (nI (b p)) 97 99 = 1 := by
          unfold fX12_isIn
          rw [if_neg (show ¬ nI (b p) < 97 from nI_nlt (b := 97) (by omega) (by omega)), if_neg (show ¬ (99 : Int32) < nI (b p) from nI_nlt (a := 99) (by omega) (by decide))]
        rw [u8, sub_nI (by omega), cr.1, if_pos (show nI 1 = 1 from rfl), byteM hbm (by omega), bnd_s, if_pos hp, hin, if_neg (show ¬ (1 : Int32) = 0 by decide), bnd_s, thn_e, st_sr, sr_e, upd_e, if_pos rfl, thn_e, st_sr]
        refine ⟨_, rfl, ?_, ?_, ?_, ?_, fun j a1 a2 a3 a4 => ?_⟩
        · rw [upd_n (by decide), upd_n (by decide), upd_e]
        · rw [upd_n (by decide), upd_n (by decide), upd_n (by decide), upd_n (by decide), upd_e]
        · rw [upd_n (by decide), upd_e]; rfl
        · rw [upd_e]; exact sub_nI (b := 97) (by omega)
        · rw [upd_n a4, upd_n a3, upd_n a1, upd_n a4, upd_n a2]
    · obtain ⟨s, hs⟩ : ∃ s, s = wsel b p e := ⟨_, rfl⟩
      have hs7 : s ≤ 7 := by rw [hs]; unfold wsel; repeat' split <;> try omega
      have kmw : km (wkC s) = wkM s ∧ wkM s ≠ 207 ∧ wkM s < 1000 := by
        have : ∀ s, s ≤ 7 → km (wkC s) = wkM s ∧ wkM s ≠ 207 ∧ wkM s < 1000 := by decide
        exact this s hs7
      have nr : ∀ {α : Type} (A B : α), (if nI (e - p) = 1 then (if nI (b p) - 97 < 0 then A else if 3 ≤ nI (b p) - 97 then A else B) else A) = A := fun A B => by
        by_cases c1 : e - p = 1
        · rw [if_pos (by rw [c1]; rfl)]
          by_cases c2 : b p < 97
          · have : ∀ k, k < 97 → nI k - 97 < 0 := by decide +kernel
            rw [if_pos (this _ c2)]
          · rw [show nI (b p) - 97 = nI (b p - 97) from sub_nI (b := 97) (by omega), if_neg (nlt_0 (by omega)), if_pos ((le_3 (by omega)).mpr (by omega))]
        · rw [if_neg (show ¬ nI (e - p) = 1 from fun q => c1 ((eq_nI (b := 1) (by omega) (by decide)).mp q))]
      have nr2 : ∀ {α : Type} (A B : α), (if nI (e - p) = 1 then (if fX12_isIn (nI (b p)) 97 99 = 0 then A else B) else A) = A := fun A B => by
        by_cases c1 : e - p = 1
        · rw [if_pos (by rw [c1]; rfl)]
          have : fX12_isIn (nI (b p)) 97 99 = 0 := by
            unfold fX12_isIn
            by_cases c2 : b p < 97
            · rw [if_pos (show nI (b p) < 97 from nI_lt (b := 97) c2 (by decide))]
            · rw [if_neg (show ¬ nI (b p) < 97 from nI_nlt (b := 97) (by omega) (by omega)), if_pos (show (99 : Int32) < nI (b p) from nI_lt (a := 99) (by omega) (by omega))]
          rw [this, if_pos rfl]
        · rw [if_neg (show ¬ nI (e - p) = 1 from fun q => c1 ((eq_nI (b := 1) (by omega) (by decide)).mp q))]
      refine ⟨e, wkC s, 0, 0, hpe, he, Or.inr (Or.inr ⟨rfl, rfl, ?_⟩), fun rr c t kk g1 g2 g3 g4 => ?_, fun mm z g1 g2 g3 => ?_⟩
      · unfold wkC
        split
        · exact Or.inr (Or.inl (by omega))
        · exact Or.inl rfl
      · have e1 : fX8_behindLetters N (nI p) rr = some (nI e) := behL g1 hr (e - p) p N rfl (Nat.le_refl _) (by omega) (by omega)
        rw [L9_at (c := c) hp g4 g1, cl, if_neg (show ¬ b2i true = 0 by decide), e1, bnd_s]
        unfold fX8_addWord fX8_listTokens_L120 fX8_addWord_L36
        rw [inb_nI (by omega) (by omega), ck_t, cl_nI (by omega), (g1.2.2 p hp).2, thn_e, sub_nI (by omega), nr, wordC_ok (by omega) g1 (by omega) he, bnd_s, ← hs, addTok g3 g2, bnd_s, bnd_s, j1]
        rfl
      · rw [tk0 mm z g1 g2 g3, cl, hd, if_pos (show b2i false = 0 from rfl), if_neg (show ¬ b2i true = 0 by decide), letM_L158 hr g1 (e - p) p N _ rfl (Nat.le_refl _) (by omega) (by omega) (by rw [upd_n (by decide), upd_n (by decide)]; exact g2) (by rw [upd_n (by decide), upd_n (by decide)]; exact g3)]
        have u8 : (upd (upd z 8 (nI p)) 10 0) 8 = nI p := by rw [upd_n (by decide), upd_e]
        unfold fX12_wordOf fX12_nextToken_L225
        have hbm : BM n b (sr mm 0 (upd (upd (upd z 8 (nI p)) 10 0) 7 (nI e))) := BM_z g1 (by rw [upd_n (by decide), upd_n (by decide), upd_n (by decide)]; exact g2)
        rw [u8, sub_nI (by omega), byteM hbm (by omega), bnd_s, if_pos hp, nr2, wordM_ok hbm (by omega) he, bnd_s, ← hs, thn_e, st_sr, sr_e, upd_e, if_neg (show ¬ nI (wkM s) = 207 from fun q => kmw.2.1 ((eq_nI (b := 207) (by omega) (by decide)).mp q)), thn_e, st_sr]
        refine ⟨_, rfl, ?_, ?_, ?_, ?_, fun j a1 a2 a3 a4 => ?_⟩
        · rw [upd_n (by decide), upd_n (by decide), upd_e]
        · rw [upd_n (by decide), upd_n (by decide), upd_n (by decide), upd_n (by decide), upd_e]
        · rw [upd_n (by decide), upd_e, kmw.1]
        · rw [upd_e]; rfl
        · rw [upd_n a4, upd_n a3, upd_n a1, upd_n a4, upd_n a2]
  | false =>
    cases cd : isD (b p) with
    | true =>
      obtain ⟨e, hr⟩ := run_ex (fun t => isD (b t)) n (n - p) p rfl (by omega)
      have hpe : p < e := by
        obtain ⟨r1, r2, r3, r4⟩ := hr
        by_cases c : p = e
        · subst c
          have := r4 hp
          rw [show (fun t => isD (b t)) p = isD (b p) from rfl, cd] at this
          cases this
        · omega
      have he := hr.2.1
      refine ⟨e, 2, numC b p (e - p), numM b p (e - p), hpe, he, Or.inl ⟨rfl, num_vr (e - p) fun u a c => hr.2.2.1 u a (by omega)⟩, fun rr c t kk g1 g2 g3 g4 => ?_, fun mm z g1 g2 g3 => ?_⟩
      · have e1 : fX8_behindDigits N (nI p) rr = some (nI e) := behD g1 hr (e - p) p N rfl (Nat.le_refl _) (by omega) (by omega)
        have e2 : fX8_numberFrom N (nI p) (nI e) rr = some (nI (numC b p (e - p))) := by
          have := numFrom (N := N) (x1 := nI p) g1 hr (e - p) p N rfl (Nat.le_refl _) (by omega) (by omega)
          rw [Nat.sub_self] at this
          exact this
        unfold fX8_listTokens_L120 at *
        rw [L9_at (c := c) hp g4 g1, cl, if_pos (show b2i false = 0 from rfl), cd, if_neg (show ¬ b2i true = 0 by decide), e1, bnd_s, e2, bnd_s, addTok g3 g2, bnd_s]
        unfold fX8_listTokens_L120
        rw [j1]
        rfl
      · rw [tk0 mm z g1 g2 g3, cd, if_neg (show ¬ b2i true = 0 by decide)]
        obtain ⟨z', i1, i2, i3, i4⟩ := numM_L85 (N := N) hr g1 (e - p) p N (upd (upd (upd z 8 (nI p)) 10 0) 9 1) rfl (Nat.le_refl _) (by omega) (by omega) (by rw [upd_n (by decide), upd_n (by decide), upd_n (by decide)]; exact g2) (by rw [upd_n (by decide), upd_n (by decide), upd_n (by decide)]; exact g3) (by rw [upd_n (by decide), upd_e, Nat.sub_self]; rfl)
        refine ⟨z', i1, i2, ?_, ?_, i3, fun j a1 a2 a3 a4 => ?_⟩
        · rw [i4 8 (by decide) (by decide), upd_n (by decide), upd_n (by decide), upd_e]
        · rw [i4 9 (by decide) (by decide), upd_e]; rfl
        · rw [i4 j a1 a4, upd_n a3, upd_n a4, upd_n a2]
    | false =>
      obtain ⟨k, hkd⟩ : ∃ k, k = if isSg (b p) then b p else 1 := ⟨_, rfl⟩
      have hkm : km k = if isSg (b p) then b p else 2 := by
        have : ∀ c, c < 256 → km (if isSg c then c else 1) = if isSg c then c else 2 := by decide +kernel
        rw [hkd]
        exact this _ q1
      refine ⟨p + 1, k, 0, 0, by omega, by omega, Or.inr (Or.inr ⟨rfl, rfl, ?_⟩), fun rr c t kk g1 g2 g3 g4 => ?_, fun mm z g1 g2 g3 => ?_⟩
      · rw [hkd]
        cases cs : isSg (b p) with
        | true => rw [if_pos rfl]; exact Or.inr (Or.inr cs)
        | false => exact Or.inl rfl
      · rw [L9_at (c := c) hp g4 g1, cl, if_pos (show b2i false = 0 from rfl), cd, if_pos (show b2i false = 0 from rfl), c32n q1 hk]
        unfold fX8_listTokens_L115 fX8_listTokens_L120
        rw [addTok g3 g2, addTok g3 g2, bnd_s, bnd_s, j1, hkd]
        cases cs : isSg (b p) with
        | true => rw [if_neg (show ¬ b2i true = 0 by decide), if_pos rfl]; rfl
        | false => rw [if_pos (show b2i false = 0 from rfl), if_neg (by decide)]; rfl
      · rw [tk0 mm z g1 g2 g3, cd, cl, if_pos (show b2i false = 0 from rfl), if_pos (show b2i false = 0 from rfl)]
        unfold fX12_nextToken_L244
        have fin : ∀ x : Int32, x = nI (km k) → ∃ z', (thn (st (sr mm 0 (upd (upd z 8 (nI p)) 10 0)) 0 9 x) fun mm_1 => thn (st mm_1 0 7 ((mm_1 0 7) + 1)) fun mm_2 => fX12_nextToken_L257 N mm_2) = fX12_nextToken_L257 N (sr mm 0 z') ∧ z' 7 = nI (p + 1) ∧ z' 8 = nI p ∧ z' 9 = nI (km k) ∧ z' 10 = nI 0 ∧ ∀ j, j ≠ 7 → j ≠ 8 → j ≠ 9 → j ≠ 10 → z' j = z j := by
          intro x hx
          rw [thn_e, thn_e, st_sr, st_sr, sr_e, upd_n (by decide), upd_n (by decide), upd_n (by decide), g3, j1]
          refine ⟨_, rfl, ?_, ?_, ?_, ?_, fun j a1 a2 a3 a4 => ?_⟩
          · rw [upd_e]
          · rw [upd_n (by decide), upd_n (by decide), upd_n (by decide), upd_e]
          · rw [upd_n (by decide), upd_e, hx]
          · rw [upd_n (by decide), upd_n (by decide), upd_e]; rfl
          · rw [upd_n a1, upd_n a3, upd_n a4, upd_n a2]
        cases cs : isSg (b p) with
        | true => rw [if_neg (show ¬ b2i true = 0 by decide)]; exact fin _ (by rw [hkm, cs]; rfl)
        | false => rw [if_pos (show b2i false = 0 from rfl)]; exact fin _ (by rw [hkm, cs]; rfl)
