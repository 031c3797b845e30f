/-! ALL TOKENS -/
def cF (k : Nat) (f : Nat → Nat) : Nat → Nat
  | 0 => k
  | i + 1 => f i
/-- what the next token does to the reference's cells -/
def NTP (mm mm' : RS) (X c q e tok w : Nat) : Prop := mm' 0 7 = nI e ∧ mm' 0 8 = nI q ∧ mm' 0 9 = nI tok ∧ mm' 0 10 = nI w ∧ (∀ j, j ≠ 7 → j ≠ 8 → j ≠ 9 → j ≠ 10 → mm' 0 j = mm 0 j) ∧ (∀ d, d ≠ 0 → d ≠ 3 → mm' d = mm d) ∧ mm' 3 X = nI (c + 1) ∧ mm' 3 (X + 1 + 2 * c) = nI tok ∧ mm' 3 (X + 2 + 2 * c) = nI w ∧ ∀ j, j ≠ X → j ≠ X + 1 + 2 * c → j ≠ X + 2 + 2 * c → mm' 3 j = mm 3 j
def RTok (N n : Nat) (b : Nat → Nat) (p q e tok w : Nat) : Prop := ∀ mm X c, BM n b mm → mm 0 7 = nI p → mm 0 11 = nI X → mm 3 X = nI c → X + 2 + 2 * c < 2408 → ∃ mm', fX12_nextToken N mm = some mm' ∧ NTP mm mm' X c q e tok w
def REnd (N n : Nat) (b : Nat → Nat) (p : Nat) : Prop := ∀ mm, BM n b mm → mm 0 7 = nI p → ∃ mm', fX12_nextToken N mm = some mm' ∧ mm' 0 8 = nI n ∧ mm' 0 9 = nI 0 ∧ (∀ j, j ≠ 7 → j ≠ 8 → j ≠ 9 → j ≠ 10 → mm' 0 j = mm 0 j) ∧ ∀ d, d ≠ 0 → mm' d = mm d
theorem L0_at {N n p k : Nat} {b : Nat → Nat} {mm : RS} {z : Nat → Int32} (h : BM n b mm) (h4 : z 4 = mm 0 4) (h7 : z 7 = nI p) (hp : p ≤ n) : fX12_nextToken_L0 N (k + 1) (sr mm 0 z) = if p < n ∧ (b p = 32 ∨ b p = 10) then fX12_nextToken_L0 N k (sr mm 0 (upd z 7 (nI (p + 1)))) else tkM N mm z := by
  have hn := h.1
  have by1 : fX12_byteAt N (sr mm 0 z 0 7) (sr mm 0 z) = some (if p < n then nI (b p) else -1) := by rw [sr_e, h7]; exact byteM (BM_z h h4) (by omega)
  rw [fX12_nextToken_L0, by1, bnd_s, bnd_s]
  unfold fX12_nextToken_L26
  rw [thn_e, st_sr, sr_e, h7, j1]
  by_cases c : p < n
  · have q1 := (h.2.2 p c).1
    rw [if_pos c]
    by_cases d : b p = 32 ∨ b p = 10
    · rw [c32y d, if_pos ⟨c, d⟩]
    · rw [c32n q1 d, if_neg (fun q => d q.2)]
      unfold tkM
      rw [h7]
  · rw [if_neg c, if_neg (by decide), if_neg (by decide), if_neg (fun q => c q.1)]
    unfold tkM
    rw [h7]
theorem L0_run {N n : Nat} {b : Nat → Nat} {mm : RS} (h : BM n b mm) : ∀ d p q k z, q - p = d → p ≤ q → q ≤ n → (∀ t, p ≤ t → t < q → blk (b t)) → ¬ (q < n ∧ (b q = 32 ∨ b q = 10)) → d < k → z 4 = mm 0 4 → z 7 = nI p → fX12_nextToken_L0 N k (sr mm 0 z) = tkM N mm (upd z 7 (nI q)) := by
  intro d
  induction d with
  | zero =>
    intro p q k z h1 h2 h3 h4 h5 h6 h7 h8
    obtain ⟨k, rfl⟩ : ∃ j, k = j + 1 := ⟨k - 1, by omega⟩
    have : p = q := by omega
    subst this
    rw [L0_at h h7 h8 h3, if_neg h5]
    congr 1
    rw [← h8, upd_self]
  | succ d ih =>
    intro p q k z h1 h2 h3 h4 h5 h6 h7 h8
    obtain ⟨k, rfl⟩ : ∃ j, k = j + 1 := ⟨k - 1, by omega⟩
    have uu : upd (upd z 7 (nI (p + 1))) 7 (nI q) = upd z 7 (nI q) := by
      funext j
      by_cases c : j = 7
      · subst c; rw [upd_e, upd_e]
      · rw [upd_n c, upd_n c, upd_n c]
    rw [L0_at h h7 h8 (by omega), if_pos ⟨by omega, h4 p (Nat.le_refl _) (by omega)⟩, ih (p + 1) q k _ (by omega) (by omega) h3 (fun t a c => h4 t (by omega) c) h5 (by omega) (by rw [upd_n (by decide)]; exact h7) (by rw [upd_e]), uu]
theorem L257_ok {N X c tok : Nat} {mm : RS} {z : Nat → Int32} (ht : tok ≠ 0) (ht2 : tok < 1000) (h9 : z 9 = nI tok) (h11 : z 11 = nI X) (h3 : mm 3 X = nI c) (hx : X + 2 + 2 * c < 2408) : fX12_nextToken_L257 N (sr mm 0 z) = some (sr (sr mm 0 z) 3 (upd (upd (upd (mm 3) (X + 1 + 2 * c) (z 9)) (X + 2 + 2 * c) (z 10)) X (nI (c + 1)))) := by
  unfold fX12_nextToken_L257
  have e1 : (sr mm 0 z) 3 = mm 3 := sr_n (by decide)
  have i1 : nI X + 1 + 2 * nI c = nI (X + 1 + 2 * c) := by rw [j1, m2, nI_add]
  rw [sr_e, h9, if_neg (fun q => ht ((eq_0 (by omega)).mp q)), h11, inb_nI (by omega) (by omega), ck_t, cl_nI (n := X) (by omega), e1, h3, i1, thn_e, inb_nI (by omega) (by omega), ck_t, cl_nI (n := X + 1 + 2 * c) (by omega), thn_e, j1, inb_nI (by omega) (by omega), ck_t, cl_nI (n := X + 1 + 2 * c + 1) (by omega), thn_e]
  simp (disch := omega) only [st_d, sr_e, sr_n, sr_sr, h11, h9, h3, inb_nI, ck_t, cl_nI, thn_e, upd_n, j1]
  rw [show X + 1 + 2 * c + 1 = X + 2 + 2 * c from by omega]
theorem RTok_of {N n p q e k v w : Nat} {b : Nat → Nat} (hN : 2000 ≤ N) (hpq : p ≤ q) (hq : q < n) (hbl : ∀ t, p ≤ t → t < q → blk (b t)) (hnb : ¬ blk (b q)) (hK : KV k v w) (ht : TK N n b q e k v w) : RTok N n b p q e (km k) w := by
  intro mm X c hb h7 h11 h3 hx
  have hn := hb.1
  have hk : km k ≠ 0 ∧ km k < 1000 := by
    have : k ≤ 125 ∧ k ≠ 0 := by
      rcases hK with ⟨rfl, -⟩ | ⟨rfl, -⟩ | ⟨-, -, q⟩
      · decide
      · decide
      · rcases q with rfl | q | q
        · decide
        · omega
        · unfold isSg at q
          simp only [Bool.or_eq_true, decide_eq_true_eq] at q
          omega
    unfold km
    split
    · decide
    · split
      · decide
      · split
        · decide
        · split <;> omega
  obtain ⟨z', g1, g2, g3, g4, g5, g6⟩ := ht.2 mm (upd (mm 0) 7 (nI q)) hb (by rw [upd_n (by decide)]) (by rw [upd_e])
  have e0 : fX12_nextToken N mm = fX12_nextToken_L257 N (sr mm 0 z') := by
    unfold fX12_nextToken
    have := L0_run (N := N) hb (q - p) p q N (mm 0) rfl hpq (by omega) hbl (fun a => hnb a.2) (by omega) rfl h7
    rw [sr_self] at this
    rw [this, g1]
  have o : ∀ j, j ≠ 7 → j ≠ 8 → j ≠ 9 → j ≠ 10 → z' j = mm 0 j := fun j a1 a2 a3 a4 => by rw [g6 j a1 a2 a3 a4, upd_n a1]
  rw [e0, L257_ok hk.1 hk.2 g4 (by rw [o 11 (by decide) (by decide) (by decide) (by decide)]; exact h11) h3 hx]
  have s0 : ∀ f : Nat → Int32, (sr (sr mm 0 z') 3 f) 0 = z' := fun f => by rw [sr_n (by decide), sr_e]
  have s3 : ∀ f : Nat → Int32, (sr (sr mm 0 z') 3 f) 3 = f := fun f => sr_e
  refine ⟨_, rfl, by rw [s0]; exact g2, by rw [s0]; exact g3, by rw [s0]; exact g4, by rw [s0]; exact g5, fun j a1 a2 a3 a4 => by rw [s0]; exact o j a1 a2 a3 a4, fun d a1 a2 => by rw [sr_n a2, sr_n a1], ?_, ?_, ?_, fun j a1 a2 a3 => ?_⟩
  · rw [s3, upd_e]
  · rw [s3, upd_n (by omega), upd_n (by omega), upd_e, g4]
  · rw [s3, upd_n (by omega), upd_e, g5]
  · rw [s3, upd_n a1, upd_n a3, upd_n a2]
theorem REnd_of {N n p : Nat} {b : Nat → Nat} (hN : 2000 ≤ N) (hp : p ≤ n) (hbl : ∀ t, p ≤ t → t < n → blk (b t)) : REnd N n b p := by
  intro mm hb h7
  have hn := hb.1
  have e0 : fX12_nextToken N mm = tkM N mm (upd (mm 0) 7 (nI n)) := by
    unfold fX12_nextToken
    have := L0_run (N := N) hb (n - p) p n N (mm 0) rfl hp (Nat.le_refl _) hbl (fun a => Nat.lt_irrefl _ a.1) (by omega) rfl h7
    rw [sr_self] at this
    exact this
  rw [e0]
  unfold tkM
  rw [thn_e, thn_e, st_sr, st_sr, sr_e, upd_n (by decide), upd_n (by decide), upd_e, byteM (BM_z hb (by rw [upd_n (by decide), upd_n (by decide), upd_n (by decide)])) (by omega), bnd_s, if_neg (Nat.lt_irrefl n), if_neg (by decide), thn_e, st_sr]
  unfold fX12_nextToken_L257
  rw [sr_e, upd_e, if_pos rfl]
  refine ⟨_, rfl, ?_, ?_, fun j a1 a2 a3 a4 => ?_, fun d a1 => sr_n a1⟩
  · rw [sr_e, upd_n (by decide), upd_n (by decide), upd_e]
  · rw [sr_e, upd_e]; rfl
  · rw [sr_e, upd_n a3, upd_n a4, upd_n a2, upd_n a1]
/-- what listTokens leaves: m tokens from the c-th on, and the end -/
def LT (N n : Nat) (b : Nat → Nat) (rr rr' : RS) (c m p0 : Nat) (K V P W E : Nat → Nat) : Prop :=
  c + m ≤ n ∧ E 0 = p0 ∧ rr' 0 7 = nI (c + m + 1) ∧ (∀ i, i < m → rr' 2 (c + i) = nI (K i) ∧ rr' 3 (c + i) = nI (V i) ∧ rr' 4 (c + i) = nI (P i) ∧ KV (K i) (V i) (W i) ∧ RTok N n b (E i) (P i) (E (i + 1)) (km (K i)) (W i)) ∧ rr' 2 (c + m) = nI 0 ∧ rr' 4 (c + m) = nI n ∧ REnd N n b (E m) ∧ (∀ j, j < c → rr' 2 j = rr 2 j ∧ rr' 3 j = rr 3 j ∧ rr' 4 j = rr 4 j) ∧ (∀ d, d ≠ 0 → d ≠ 2 → d ≠ 3 → d ≠ 4 → rr' d = rr d) ∧ ∀ j, j ≠ 7 → rr' 0 j = rr 0 j
theorem adT_r {rr : RS} {c : Nat} {k v p : Int32} : adT rr c k v p 2 = upd (rr 2) c k ∧ adT rr c k v p 3 = upd (rr 3) c v ∧ adT rr c k v p 4 = upd (rr 4) c p ∧ adT rr c k v p 0 = upd (rr 0) 7 (nI (c + 1)) ∧ ∀ d, d ≠ 0 → d ≠ 2 → d ≠ 3 → d ≠ 4 → adT rr c k v p d = rr d := by
  unfold adT
  refine ⟨by simp (disch := decide) only [sr_e, sr_n], by simp (disch := decide) only [sr_e, sr_n], by simp (disch := decide) only [sr_e, sr_n], by rw [sr_e], fun d a1 a2 a3 a4 => by rw [sr_n a1, sr_n a4, sr_n a3, sr_n a2]⟩
theorem list_all {N n : Nat} {b : Nat → Nat} (hN : 2000 ≤ N) (hn : n ≤ 300) (hb : ∀ i, i < n → b i < 256) : ∀ d p0 p c t rr kk, n - p = d → p0 ≤ p → p ≤ n → t ≤ p → c ≤ p0 → d < kk → BC n b rr → rr 0 7 = nI c → (∀ j, p0 ≤ j → j < p → blk (b j)) →
    ∃ rr' m K V P W E, fX8_listTokens_L9 N kk (nI p) (nI t) rr = some rr' ∧ LT N n b rr rr' c m p0 K V P W E := by
  intro d
  induction d using Nat.strongRecOn with
  | ind d ih =>
    intro p0 p c t rr kk h1 h2 h3 h4 h5 h6 h7 h8 h9
    obtain ⟨kk, rfl⟩ : ∃ j, kk = j + 1 := ⟨kk - 1, by omega⟩
    by_cases hp : p < n
    · by_cases hk : blk (b p)
      · obtain ⟨rr', m, K, V, P, W, E, i1, i2⟩ := ih (n - (p + 1)) (by omega) p0 (p + 1) c (t + 1) rr kk rfl (by omega) (by omega) (by omega) h5 (by omega) h7 h8 (fun j a1 a2 => by
          by_cases q : j = p
          · subst q; exact hk
          · exact h9 j a1 (by omega))
        refine ⟨rr', m, K, V, P, W, E, ?_, i2⟩
        have nl : isL (b p) = false ∧ isD (b p) = false := by
          rcases hk with q | q
          · rw [q]; decide
          · rw [q]; decide
        rw [L9_at (c := c) hp (by omega) h7, nl.1, nl.2, if_pos (show b2i false = 0 from rfl), if_pos (show b2i false = 0 from rfl), c32y hk]
        unfold fX8_listTokens_L120
        rw [j1]
        exact i1
      · obtain ⟨e, k, v, w, e1, e2, e3, e4⟩ := tk_ex hN hn hb hp hk
        obtain ⟨a2, a3, a4, a0, ad⟩ := @adT_r rr c (nI k) (nI v) (nI p)
        obtain ⟨rr', m, K, V, P, W, E, i1, j1', j2', j3', j4', j5', j6', j7', j8', j9', j10'⟩ := ih (n - e) (by omega) e e (c + 1) (t + 1) (adT rr c (nI k) (nI v) (nI p)) kk rfl (Nat.le_refl _) e2 (by omega) (by omega) (by omega) (adT_BC h7) (by rw [a0, upd_e]) (fun j q1 q2 => by omega)
        refine ⟨rr', m + 1, cF k K, cF v V, cF p P, cF w W, cF p0 E, ?_, by omega, rfl, ?_, fun i hi => ?_, ?_, ?_, j7', fun j hj => ?_, fun d q1 q2 q3 q4 => (j9' d q1 q2 q3 q4).trans (ad d q1 q2 q3 q4), fun j hj => (j10' j hj).trans (by rw [a0, upd_n hj])⟩
        · rw [e4.1 rr c t kk h7 h8 (by omega) (by omega)]
          exact i1
        · rw [j3', show c + 1 + m + 1 = c + (m + 1) + 1 from by omega]
        · cases i with
          | zero =>
            obtain ⟨y2, y3, y4⟩ := j8' c (by omega)
            refine ⟨?_, ?_, ?_, e3, ?_⟩
            · show rr' 2 c = nI k
              rw [y2, a2, upd_e]
            · show rr' 3 c = nI v
              rw [y3, a3, upd_e]
            · show rr' 4 c = nI p
              rw [y4, a4, upd_e]
            · show RTok N n b p0 p (E 0) (km k) w
              rw [j2']
              exact RTok_of hN h2 hp h9 hk e3 e4
          | succ i =>
            have := j4' i (by omega)
            rw [show c + 1 + i = c + (i + 1) from by omega] at this
            exact this
        · rw [show c + (m + 1) = c + 1 + m from by omega]; exact j5'
        · rw [show c + (m + 1) = c + 1 + m from by omega]; exact j6'
        · obtain ⟨y2, y3, y4⟩ := j8' j (by omega)
          exact ⟨by rw [y2, a2, upd_n (by omega)], by rw [y3, a3, upd_n (by omega)], by rw [y4, a4, upd_n (by omega)]⟩
    · have : p = n := by omega
      subst this
      obtain ⟨a2, a3, a4, a0, ad⟩ := @adT_r rr c 0 0 (nI p)
      have fin : fX8_listTokens_L129 N rr = some (adT rr c 0 0 (nI p)) := by
        unfold fX8_listTokens_L129
        rw [h7.2.1, addTok (by omega) h8, bnd_s]
      refine ⟨adT rr c 0 0 (nI p), 0, fun _ => 0, fun _ => 0, fun _ => 0, fun _ => 0, fun _ => p0, ?_, by omega, rfl, by rw [a0, upd_e], fun i hi => absurd hi (by omega), by rw [a2, Nat.add_zero, upd_e]; rfl, by rw [a4, Nat.add_zero, upd_e], REnd_of hN h2 h9, fun j hj => ⟨by rw [a2, upd_n (by omega)], by rw [a3, upd_n (by omega)], by rw [a4, upd_n (by omega)]⟩, ad, fun j hj => by rw [a0, upd_n hj]⟩
      rw [fX8_listTokens_L9, h7.2.1]
      by_cases q : 300 ≤ t
      · rw [if_pos ((le_300 (by omega)).mpr q)]
        exact fin
      · rw [if_neg (fun z => q ((le_300 (by omega)).mp z)), if_pos (nI_le (Nat.le_refl _) (by omega))]
        exact fin
theorem tokens_ok {N n : Nat} {b : Nat → Nat} {rr : RS} (hN : 2000 ≤ N) (h : BC n b rr) : ∃ rr' m K V P W E, fX8_listTokens N rr = some rr' ∧ LT N n b rr rr' 0 m 0 K V P W E := by
  have h0 : BC n b (sr rr 0 (upd (rr 0) 7 0)) := ⟨h.1, by rw [sr_e, upd_n (by decide)]; exact h.2.1, fun i hi => by rw [sr_n (by decide)]; exact h.2.2 i hi⟩
  obtain ⟨rr', m, K, V, P, W, E, i1, j1', j2', j3', j4', j5', j6', j7', j8', j9', j10'⟩ := list_all hN h.1 (fun i hi => (h.2.2 i hi).1) n 0 0 0 0 (sr rr 0 (upd (rr 0) 7 0)) N rfl (by omega) (by omega) (by omega) (by omega) (by have := h.1; omega) h0 (by rw [sr_e, upd_e]; rfl) (fun j a1 a2 => by omega)
  refine ⟨rr', m, K, V, P, W, E, ?_, j1', j2', j3', j4', j5', j6', j7', fun j hj => absurd hj (by omega), fun d q1 q2 q3 q4 => (j9' d q1 q2 q3 q4).trans (sr_n q1), fun j hj => (j10' j hj).trans (by rw [sr_e, upd_n hj])⟩
  unfold fX8_listTokens
  rw [thn_e, st_d]
  exact i1
