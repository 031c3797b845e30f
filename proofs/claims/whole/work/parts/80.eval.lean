/-! PLAYING: tokens, sums -/
theorem upd_upd {f : Nat → Int32} {k : Nat} {x y : Int32} : upd (upd f k x) k y = upd f k y := by
  funext j
  by_cases h : j = k
  · subst h; rw [upd_e, upd_e]
  · rw [upd_n h, upd_n h, upd_n h]
/-- the class's text -/
def CTx (tn : Nat) (K : Nat → Nat) (F : Nat → Int32) (tt : RS) : Prop := tn ≤ 300 ∧ tt 0 0 = nI tn ∧ ∀ j, j < tn → tt 1 j = nI (K j) ∧ tt 2 j = F j
section Y1
variable {N tn X : Nat} {K W : Nat → Nat} {F : Nat → Int32} {tt ww pp yy mm : RS} {c i j : Nat}
theorem kindC (h : CTx tn K F tt) (hj : j < 10000) : fX9_kindAt N tn (nI j) tt = some (nI (kf tn K j)) := by
  obtain ⟨h1, h2, h3⟩ := h
  unfold fX9_kindAt kf
  rw [if_neg (nI_pos (by omega)), h2]
  by_cases q : j < tn
  · rw [if_neg (nI_ge q (by omega)), inb_nI q (by omega), ck_t, cl_nI (by omega), (h3 j q).1, if_pos q]
  · rw [if_pos (nI_le (by omega) (by omega)), if_neg q]
    rfl
theorem valC (h : CTx tn K F tt) (hj : j < tn) : fX9_valueAt N tn (nI j) tt = some (F j) := by
  obtain ⟨h1, h2, h3⟩ := h
  unfold fX9_valueAt
  rw [if_neg (nI_pos (by omega)), h2, if_neg (nI_ge hj (by omega)), inb_nI hj (by omega), ck_t, cl_nI (by omega), (h3 j hj).2]
theorem tokM {m : RS} (h : MTx X tn K W m) (hX : X ≤ 1806) (ht : tn ≤ 300) (h11 : m 0 11 = nI X) (hj : j < 10000) : fX12_tokenAt N (nI j) m = some (nI (if j < tn then km (K j) else 0)) := by
  obtain ⟨h2, h3⟩ := h
  unfold fX12_tokenAt
  rw [h11, inb_nI (by omega) (by decide), ck_t, cl_nI (by omega), h2, j1, m2, nI_add]
  by_cases q : j < tn
  · rw [if_neg (nI_ge q (by omega)), inb_nI (by omega) (by decide), ck_t, cl_nI (by omega), (h3 j q).1, if_pos q]
  · rw [if_pos (nI_le (by omega) (by omega)), if_neg q]
    rfl
theorem nmAt {m : RS} (h : MTx X tn K W m) (hX : X ≤ 1806) (ht : tn ≤ 300) (h11 : m 0 11 = nI X) (hj : j < tn) : fX12_numberAt N (nI j) m = some (nI (W j)) := by
  obtain ⟨h2, h3⟩ := h
  unfold fX12_numberAt
  rw [h11, j2, m2, nI_add, inb_nI (by omega) (by decide), ck_t, cl_nI (by omega), (h3 j hj).2]
def YA (yy : RS) (p : Nat) : RS := sr yy 0 (upd (yy 0) 3 (nI p))
def MA (mm : RS) (p : Nat) : RS := sr mm 0 (upd (mm 0) 17 (nI p))
theorem YA_0 {p : Nat} : YA yy p 0 = upd (yy 0) 3 (nI p) := sr_e
theorem YA_3 {p : Nat} : YA yy p 0 3 = nI p := by rw [YA_0, upd_e]
theorem YA_o {p d : Nat} (h : d ≠ 0) : YA yy p d = yy d := sr_n h
theorem YA_n {p q : Nat} (h : q ≠ 3) : YA yy p 0 q = yy 0 q := by rw [YA_0, upd_n h]
theorem YA_st {p q : Nat} : st (YA yy p) 0 3 (nI q) = YA yy q := by rw [st_d, YA_0, upd_upd]; unfold YA; rw [sr_sr]
theorem YA_id {p : Nat} (h : yy 0 3 = nI p) : YA yy p = yy := by unfold YA; rw [← h, upd_self, sr_self]
theorem MA_0 {p : Nat} : MA mm p 0 = upd (mm 0) 17 (nI p) := sr_e
theorem MA_17 {p : Nat} : MA mm p 0 17 = nI p := by rw [MA_0, upd_e]
theorem MA_o {p d : Nat} (h : d ≠ 0) : MA mm p d = mm d := sr_n h
theorem MA_n {p q : Nat} (h : q ≠ 17) : MA mm p 0 q = mm 0 q := by rw [MA_0, upd_n h]
theorem MA_st {p q : Nat} : st (MA mm p) 0 17 (nI q) = MA mm q := by rw [st_d, MA_0, upd_upd]; unfold MA; rw [sr_sr]
theorem MA_id {p : Nat} (h : mm 0 17 = nI p) : MA mm p = mm := by unfold MA; rw [← h, upd_self, sr_self]
theorem MA_T {p : Nat} (h : MTx X tn K W mm) : MTx X tn K W (MA mm p) := by unfold MTx; rw [MA_o (by decide)]; exact h
/-- what stands around a statement: each loop's round, on both sides -/
def RDs (K : Nat → Nat) (c : Nat) (yy mm : RS) : Prop := dep K c ≤ 3 ∧ ∀ D, D < dep K c → ∃ r, r ≤ 9 ∧ yy 1 D = nI r ∧ (flg K c D = true → mm 9 (lc K c D) = nI r)
theorem one_v (hT : CTx tn K F tt) (hM : MTx X tn K W mm) (hX : X ≤ 1806) (h11 : mm 0 11 = nI X) (hR : RDs K c yy mm) (hj : j < tn) (hK : ∀ j, j < tn → 0 < K j ∧ K j < 126) (h : ONE K W F c j) :
    ∃ v, v ≤ 9999 ∧ fX7_factor N tn (YA yy j) ww pp tt = some (nI v, YA yy (j + 1)) ∧ fX12_goOne N (MA mm j) = some (nI v, MA mm (j + 1)) := by
  have htn := hT.1
  have hkj := hK j hj
  have e47 : ∀ x : Int32, fX7_factor_L47 N tn ww pp tt x (YA yy j) = some (x, YA yy (j + 1)) := fun x => by
    unfold fX7_factor_L47
    rw [YA_3, j1, YA_st, thn_e]
  have e38 : ∀ x : Int32, fX12_goOne_L38 N x (MA mm j) = some (x, MA mm (j + 1)) := fun x => by
    unfold fX12_goOne_L38
    rw [MA_17, j1, MA_st, thn_e]
  have h11' : MA mm j 0 11 = nI X := by rw [MA_n (by decide)]; exact h11
  rcases h with ⟨k2, hF, hv⟩ | ⟨k3, D, d1, d2, d3, d4⟩
  · refine ⟨W j, hv, ?_, ?_⟩
    · unfold fX7_factor
      rw [YA_3, valC hT hj, bnd_s, kindC hT (by omega), bnd_s]
      unfold kf
      rw [if_pos hj, k2, if_neg (by decide), e47, hF]
    · unfold fX12_goOne
      rw [MA_17, tokM (MA_T hM) hX htn h11' (by omega), bnd_s, if_pos hj, k2, if_neg (by decide), nmAt (MA_T hM) hX htn h11' hj, bnd_s, e38]
  · obtain ⟨hd3, hR⟩ := hR
    obtain ⟨r, r1, r2, r3⟩ := hR D d1
    have hW : W j < 3 := by have := lc_le (K := K) (i := c) (d := D); omega
    refine ⟨r, by omega, ?_, ?_⟩
    · unfold fX7_factor
      rw [YA_3, valC hT hj, bnd_s, kindC hT (by omega), bnd_s]
      unfold kf
      rw [if_pos hj, k3, if_pos (by decide), d4, if_neg (nI_pos (by omega)), if_neg (show ¬ (3 : Int32) ≤ nI D from nI_ge (b := 3) (by omega) (by decide)), inb_nI (by omega) (by decide), ck_t, cl_nI (by omega)]
      unfold fX7_factor_L46
      rw [YA_o (by decide), r2, e47]
    · unfold fX12_goOne
      rw [MA_17, tokM (MA_T hM) hX htn h11' (by omega), bnd_s, if_pos hj, k3, if_pos (by decide), nmAt (MA_T hM) hX htn h11' hj, bnd_s, inb_nI hW (by decide), ck_t, cl_nI (by omega), MA_o (by decide), ← d3, r3 d2, e38]
theorem km_op : km 42 = 42 ∧ km 43 = 43 ∧ km 123 = 123 := by decide
theorem prod_le {v w : Nat} (hv : v ≤ 9999) (hw : w ≤ 9999) : v * w ≤ 99980001 := Nat.le_trans (Nat.mul_le_mul hv hw) (by decide)
/-- one behind the other: the product that goes on behind the t-th one -/
theorem prodG {m : Nat} (hT : CTx tn K F tt) (hM : MTx X tn K W mm) (hX : X ≤ 1806) (h11 : mm 0 11 = nI X) (hR : RDs K c yy mm) (hK : ∀ j, j < tn → 0 < K j ∧ K j < 126) (h1 : ∀ t, t ≤ m → i + 2 * t < tn ∧ ONE K W F c (i + 2 * t)) (h2 : ∀ t, t < m → K (i + 2 * t + 1) = 42 ∨ K (i + 2 * t + 1) = 43) (h3 : K (i + 2 * m + 1) ≠ 42) :
    ∀ d t k k2 x v, m - t = d → t ≤ m → x ≤ t → v ≤ 9999 → d < k → d < k2 → ∃ t' v', t ≤ t' ∧ t' ≤ m ∧ v' ≤ 9999 ∧ K (i + 2 * t' + 1) ≠ 42 ∧ fX7_product_L7 N tn ww pp tt k (nI v) (nI x) (YA yy (i + 2 * t + 1)) = some (nI v', YA yy (i + 2 * t' + 1)) ∧ fX12_goProduct_L5 N k2 (nI v) (MA mm (i + 2 * t + 1)) = some (nI v', MA mm (i + 2 * t' + 1)) := by
  have htn := hT.1
  intro d
  induction d with
  | zero =>
    intro t k k2 x v e1 e2 e3 e4 e5 e6
    obtain ⟨k, rfl⟩ : ∃ q, k = q + 1 := ⟨k - 1, by omega⟩
    obtain ⟨k2, rfl⟩ : ∃ q, k2 = q + 1 := ⟨k2 - 1, by omega⟩
    have : t = m := by omega
    subst this
    have hb := (h1 t (Nat.le_refl _)).1
    refine ⟨t, v, Nat.le_refl _, Nat.le_refl _, e4, h3, ?_, ?_⟩
    · rw [fX7_product_L7, if_neg (show ¬ (300 : Int32) ≤ nI x from nI_ge (b := 300) (by omega) (by decide)), YA_3, kindC hT (by omega), bnd_s, if_neg]
      intro z
      have z' : nI (kf tn K (i + 2 * t + 1)) = nI 42 := z
      unfold kf at z'
      split at z'
      · rename_i q
        have := hK _ q
        exact h3 ((eq_nI (by omega) (by omega)).mp z')
      · exact absurd z' (by decide)
    · rw [fX12_goProduct_L5, MA_17, tokM (MA_T hM) hX htn (by rw [MA_n (by decide)]; exact h11) (by omega), bnd_s, if_neg]
      intro z
      have z' : nI (if i + 2 * t + 1 < tn then km (K (i + 2 * t + 1)) else 0) = nI 42 := z
      split at z'
      · rename_i q
        have hk := kmf _ (hK _ q).2
        exact h3 (hk.2.2.2.1.mp ((eq_nI (by have := hk.2.2.2.2.2.2.2.2.2.2.2; omega) (by omega)).mp z'))
      · exact absurd z' (by decide)
  | succ d ih =>
    intro t k k2 x v e1 e2 e3 e4 e5 e6
    obtain ⟨k, rfl⟩ : ∃ q, k = q + 1 := ⟨k - 1, by omega⟩
    obtain ⟨k2, rfl⟩ : ∃ q, k2 = q + 1 := ⟨k2 - 1, by omega⟩
    have hn1 := h1 (t + 1) (by omega)
    have hb : i + 2 * t + 1 < tn := by omega
    have hop := h2 t (by omega)
    have hc : fX7_product_L7 N tn ww pp tt (k + 1) (nI v) (nI x) (YA yy (i + 2 * t + 1)) = if nI (K (i + 2 * t + 1)) = 42 then (bnd (fX7_factor N tn (YA yy (i + 2 * (t + 1))) ww pp tt) fun r3 => fX7_product_L7 N tn ww pp tt k (irem (nI v * r3.1) 10000) (nI (x + 1)) r3.2) else some (nI v, YA yy (i + 2 * t + 1)) := by
      rw [fX7_product_L7, if_neg (show ¬ (300 : Int32) ≤ nI x from nI_ge (b := 300) (by omega) (by decide)), YA_3, kindC hT (by omega), bnd_s, j1, YA_st, thn_e, j1]
      unfold kf
      rw [if_pos hb]
      rfl
    have hm : fX12_goProduct_L5 N (k2 + 1) (nI v) (MA mm (i + 2 * t + 1)) = if nI (km (K (i + 2 * t + 1))) = 42 then (bnd (fX12_goOne N (MA mm (i + 2 * (t + 1)))) fun r3 => fX12_goProduct_L5 N k2 (irem (nI v * r3.1) 10000) r3.2) else some (nI v, MA mm (i + 2 * t + 1)) := by
      rw [fX12_goProduct_L5, MA_17, tokM (MA_T hM) hX htn (by rw [MA_n (by decide)]; exact h11) (by omega), bnd_s, if_pos hb, j1, MA_st, thn_e]
      rfl
    rcases hop with hop | hop
    · obtain ⟨w, w1, w2, w3⟩ := one_v (N := N) (ww := ww) (pp := pp) hT hM hX h11 hR hn1.1 hK hn1.2
      have hp := prod_le e4 w1
      have er : irem (nI v * nI w) 10000 = nI (v * w % 10000) := by rw [mul_nI]; exact r10000 (by omega)
      rw [hop, if_pos (by decide), w2, bnd_s, er] at hc
      rw [hop, km_op.1, if_pos (by decide), w3, bnd_s, er] at hm
      obtain ⟨t', v', a1, a2, a3, a4, a5, a6⟩ := ih (t + 1) k k2 (x + 1) (v * w % 10000) (by omega) (by omega) (by omega) (by omega) (by omega) (by omega)
      exact ⟨t', v', by omega, a2, a3, a4, hc.trans a5, hm.trans a6⟩
    · rw [hop, if_neg (by decide)] at hc
      rw [hop, km_op.2.1, if_neg (by decide)] at hm
      exact ⟨t, v, Nat.le_refl _, by omega, e4, by omega, hc, hm⟩
theorem sumG {m : Nat} (hN : 2000 ≤ N) (hT : CTx tn K F tt) (hM : MTx X tn K W mm) (hX : X ≤ 1806) (h11 : mm 0 11 = nI X) (hR : RDs K c yy mm) (hK : ∀ j, j < tn → 0 < K j ∧ K j < 126) (h1 : ∀ t, t ≤ m → i + 2 * t < tn ∧ ONE K W F c (i + 2 * t)) (h2 : ∀ t, t < m → K (i + 2 * t + 1) = 42 ∨ K (i + 2 * t + 1) = 43) (h3 : K (i + 2 * m + 1) ≠ 42) (h4 : K (i + 2 * m + 1) ≠ 43) (h5 : i + 2 * m + 1 < tn) :
    ∀ d t k k2 x v, m - t = d → t ≤ m → x ≤ t → v ≤ 9999 → d < k → d < k2 → K (i + 2 * t + 1) ≠ 42 → ∃ v', v' ≤ 9999 ∧ fX7_sum_L7 N tn ww pp tt k (nI v) (nI x) (YA yy (i + 2 * t + 1)) = some (nI v', YA yy (i + 2 * m + 2)) ∧ fX12_goSum_L5 N k2 (nI v) (MA mm (i + 2 * t + 1)) = some (nI v', MA mm (if K (i + 2 * m + 1) = 123 then i + 2 * m + 1 else i + 2 * m + 2)) := by
  have htn := hT.1
  intro d
  induction d using Nat.strongRecOn with
  | ind d ih =>
    intro t k k2 x v e1 e2 e3 e4 e5 e6 e7
    obtain ⟨k, rfl⟩ : ∃ q, k = q + 1 := ⟨k - 1, by omega⟩
    obtain ⟨k2, rfl⟩ : ∃ q, k2 = q + 1 := ⟨k2 - 1, by omega⟩
    have hb : i + 2 * t + 1 < tn := by omega
    have hkm := kmf _ (hK _ hb).2
    have hc : fX7_sum_L7 N tn ww pp tt (k + 1) (nI v) (nI x) (YA yy (i + 2 * t + 1)) = if nI (K (i + 2 * t + 1)) = 43 then (bnd (fX7_product N tn (YA yy (i + 2 * (t + 1))) ww pp tt) fun r3 => fX7_sum_L7 N tn ww pp tt k (irem (nI v + r3.1) 10000) (nI (x + 1)) r3.2) else some (nI v, YA yy (i + 2 * t + 2)) := by
      rw [fX7_sum_L7, if_neg (show ¬ (300 : Int32) ≤ nI x from nI_ge (b := 300) (by omega) (by decide)), YA_3, kindC hT (by omega), bnd_s, j1, YA_st, thn_e, j1]
      unfold kf fX7_sum_L57
      rw [if_pos hb, YA_3, j1, YA_st, thn_e]
      rfl
    have hm : fX12_goSum_L5 N (k2 + 1) (nI v) (MA mm (i + 2 * t + 1)) = if nI (km (K (i + 2 * t + 1))) = 43 then (bnd (fX12_goProduct N (MA mm (i + 2 * (t + 1)))) fun r5 => fX12_goSum_L5 N k2 (irem (nI v + r5.1) 10000) r5.2) else (if nI (km (K (i + 2 * t + 1))) = 123 then some (nI v, MA mm (i + 2 * t + 1)) else some (nI v, MA mm (i + 2 * t + 2))) := by
      rw [fX12_goSum_L5, MA_17, tokM (MA_T hM) hX htn (by rw [MA_n (by decide)]; exact h11) (by omega), bnd_s, if_pos hb, j1, MA_st, thn_e, bnd_s, thn_e]
      rfl
    by_cases q : K (i + 2 * t + 1) = 43
    · have htm : t ≠ m := fun z => by subst z; exact h4 q
      have hn1 := h1 (t + 1) (by omega)
      obtain ⟨w, w1, w2, w3⟩ := one_v (N := N) (ww := ww) (pp := pp) hT hM hX h11 hR hn1.1 hK hn1.2
      obtain ⟨t', u, a1, a2, a3, a4, a5, a6⟩ := prodG (N := N) (ww := ww) (pp := pp) hT hM hX h11 hR hK h1 h2 h3 (m - (t + 1)) (t + 1) N N 0 w rfl (by omega) (by omega) w1 (by omega) (by omega)
      have f1 : fX7_product N tn (YA yy (i + 2 * (t + 1))) ww pp tt = some (nI u, YA yy (i + 2 * t' + 1)) := by
        unfold fX7_product
        rw [w2, bnd_s]
        exact a5
      have f2 : fX12_goProduct N (MA mm (i + 2 * (t + 1))) = some (nI u, MA mm (i + 2 * t' + 1)) := by
        unfold fX12_goProduct
        rw [w3, bnd_s]
        exact a6
      have er : irem (nI v + nI u) 10000 = nI ((v + u) % 10000) := by rw [nI_add]; exact r10000 (by omega)
      rw [q, if_pos (by decide), f1, bnd_s, er] at hc
      rw [q, km_op.2.1, if_pos (by decide), f2, bnd_s, er] at hm
      obtain ⟨v', b1, b2, b3⟩ := ih (m - t') (by omega) t' k k2 (x + 1) ((v + u) % 10000) rfl a2 (by omega) (by omega) (by omega) (by omega) a4
      exact ⟨v', b1, hc.trans b2, hm.trans b3⟩
    · have htm : t = m := by
        by_cases z : t = m
        · exact z
        · exfalso
          have := h2 t (by omega)
          omega
      subst htm
      have hlt := hkm.2.2.2.2.2.2.2.2.2.2.2
      have hk := (hK _ hb).2
      rw [if_neg (show ¬ nI (K (i + 2 * t + 1)) = 43 from fun z => q ((eq_nI (b := 43) (by omega) (by decide)).mp z))] at hc
      rw [if_neg (show ¬ nI (km (K (i + 2 * t + 1))) = 43 from fun z => q (hkm.2.2.2.2.1.mp ((eq_nI (b := 43) (by omega) (by decide)).mp z)))] at hm
      refine ⟨v, e4, hc, ?_⟩
      rw [hm]
      by_cases z : K (i + 2 * t + 1) = 123
      · rw [if_pos z, if_pos (by rw [z]; decide)]
      · rw [if_neg z, if_neg (show ¬ nI (km (K (i + 2 * t + 1))) = 123 from fun y => z (hkm.2.2.2.2.2.2.2.2.2.1.mp ((eq_nI (b := 123) (by omega) (by decide)).mp y)))]
/-- a sum, and what is behind it -/
theorem sum_v (hN : 2000 ≤ N) (hT : CTx tn K F tt) (hM : MTx X tn K W mm) (hX : X ≤ 1806) (h11 : mm 0 11 = nI X) (hR : RDs K c yy mm) (hK : ∀ j, j < tn → 0 < K j ∧ K j < 126) (h : SUMV tn K W F c i j) (hj : j < tn) :
    ∃ v, v ≤ 9999 ∧ fX7_sum N tn (YA yy i) ww pp tt = some (nI v, YA yy (j + 1)) ∧ fX12_goSum N (MA mm i) = some (nI v, MA mm (if K j = 123 then j else j + 1)) := by
  have htn := hT.1
  obtain ⟨m, rfl, h1, h2, h3, h4⟩ := h
  have hn0 := h1 0 (Nat.zero_le _)
  obtain ⟨w, w1, w2, w3⟩ := one_v (N := N) (ww := ww) (pp := pp) hT hM hX h11 hR hn0.1 hK hn0.2
  obtain ⟨t', u, a1, a2, a3, a4, a5, a6⟩ := prodG (N := N) (ww := ww) (pp := pp) hT hM hX h11 hR hK h1 h2 h3 m 0 N N 0 w rfl (by omega) (by omega) w1 (by omega) (by omega)
  obtain ⟨v, b1, b2, b3⟩ := sumG (N := N) (ww := ww) (pp := pp) hN hT hM hX h11 hR hK h1 h2 h3 h4 hj (m - t') t' N N 0 u rfl a2 (by omega) a3 (by omega) (by omega) a4
  refine ⟨v, b1, ?_, ?_⟩
  · unfold fX7_sum fX7_product
    rw [show i + 2 * 0 = i from rfl] at w2
    rw [w2, bnd_s]
    show bnd (fX7_product_L7 N tn ww pp tt N (nI w) (nI 0) (YA yy (i + 2 * 0 + 1))) _ = _
    rw [a5, bnd_s]
    exact b2
  · unfold fX12_goSum fX12_goProduct
    rw [show i + 2 * 0 = i from rfl] at w3
    rw [w3, bnd_s]
    show bnd (fX12_goProduct_L5 N N (nI w) (MA mm (i + 2 * 0 + 1))) _ = _
    rw [a6, bnd_s]
    exact b3
end Y1
