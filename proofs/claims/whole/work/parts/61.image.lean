/-! THE IMAGE; ASIDE -/
theorem vc_0 {f g : Nat → Int32} {s d : Nat} : va_cpy f g s d 0 = g := funext fun k => pk_cpy_out (by omega)
theorem vc_s {f g : Nat → Int32} {s d i : Nat} : upd (va_cpy f g s d i) (d + i) (f (s + i)) = va_cpy f g s d (i + 1) := by
  funext k
  by_cases e : k = d + i
  · subst e
    rw [upd_e, pk_cpy_in (by omega) (by omega)]
    congr 1
    omega
  · rw [upd_n e]
    by_cases q : d ≤ k ∧ k < d + i
    · rw [pk_cpy_in q.1 q.2, pk_cpy_in q.1 (by omega)]
    · rw [pk_cpy_out (by omega), pk_cpy_out (by omega)]
theorem le_10760 {k : Nat} (h : k < 2147483648) : (10760 : Int32) ≤ nI k ↔ 10760 ≤ k := le_nI (a := 10760) (by decide) h
theorem copy12_ok {N : Nat} (hN : 10761 ≤ N) {mm : RS} : fX12_copy_12 N mm = some (sr mm 2 (va_cpy (mm 1) (mm 2) 0 0 10760)) := by
  have key : ∀ d i k, 10760 - i = d → i ≤ 10760 → d < k → fX12_copy_12_L2 N k (nI i) (sr mm 2 (va_cpy (mm 1) (mm 2) 0 0 i)) = some (sr mm 2 (va_cpy (mm 1) (mm 2) 0 0 10760)) := by
    intro d
    induction d with
    | zero =>
      intro i k h1 h2 h3
      obtain ⟨k, rfl⟩ : ∃ j, k = j + 1 := ⟨k - 1, by omega⟩
      have : i = 10760 := by omega
      subst this
      rw [fX12_copy_12_L2, if_pos (by decide)]
    | succ d ih =>
      intro i k h1 h2 h3
      obtain ⟨k, rfl⟩ : ∃ j, k = j + 1 := ⟨k - 1, by omega⟩
      have vs := vc_s (f := mm 1) (g := mm 2) (s := 0) (d := 0) (i := i)
      rw [Nat.zero_add] at vs
      rw [fX12_copy_12_L2, if_neg (fun q => absurd ((le_10760 (by omega)).mp q) (by omega)), inb_nI (by omega) (by omega), ck_t, thn_e, cl_nI (by omega), st_sr, sr_n (by decide), vs, j1]
      exact ih (i + 1) k (by omega) (by omega) (by omega)
  have := key 10760 0 N rfl (by omega) (by omega)
  rw [vc_0, sr_self] at this
  exact this
theorem copy21_ok {N : Nat} (hN : 10761 ≤ N) {mm : RS} : fX12_copy_21 N mm = some (sr mm 1 (va_cpy (mm 2) (mm 1) 0 0 10760)) := by
  have key : ∀ d i k, 10760 - i = d → i ≤ 10760 → d < k → fX12_copy_21_L2 N k (nI i) (sr mm 1 (va_cpy (mm 2) (mm 1) 0 0 i)) = some (sr mm 1 (va_cpy (mm 2) (mm 1) 0 0 10760)) := by
    intro d
    induction d with
    | zero =>
      intro i k h1 h2 h3
      obtain ⟨k, rfl⟩ : ∃ j, k = j + 1 := ⟨k - 1, by omega⟩
      have : i = 10760 := by omega
      subst this
      rw [fX12_copy_21_L2, if_pos (by decide)]
    | succ d ih =>
      intro i k h1 h2 h3
      obtain ⟨k, rfl⟩ : ∃ j, k = j + 1 := ⟨k - 1, by omega⟩
      have vs := vc_s (f := mm 2) (g := mm 1) (s := 0) (d := 0) (i := i)
      rw [Nat.zero_add] at vs
      rw [fX12_copy_21_L2, if_neg (fun q => absurd ((le_10760 (by omega)).mp q) (by omega)), inb_nI (by omega) (by omega), ck_t, thn_e, cl_nI (by omega), st_sr, sr_n (by decide), vs, j1]
      exact ih (i + 1) k (by omega) (by omega) (by omega)
  have := key 10760 0 N rfl (by omega) (by omega)
  rw [vc_0, sr_self] at this
  exact this
theorem hcopy_ok {N f s : Nat} (hN : 2000 ≤ N) (hf : f < 30) (hs : s ≤ 30) (hh jj : HS) (h1 : jj 0 0 1 = nI f) (h2 : jj 0 0 2 = nI s) :
    ∃ h', fX4_copyFrom N hh jj = some h' ∧ h' 0 0 1 = nI 0 ∧ h' 0 0 2 = nI s ∧ ∀ i, i < s → EW (jj ((f + i) % 30 + 1)) (h' (i + 1)) := by
  have key : ∀ d i k h, s - i = d → i ≤ s → d < k → h 0 0 1 = nI 0 → h 0 0 2 = nI s → (∀ j, j < i → EW (jj ((f + j) % 30 + 1)) (h (j + 1))) →
      ∃ h', fX4_copyFrom_L15 N jj k (nI i) h = some h' ∧ h' 0 0 1 = nI 0 ∧ h' 0 0 2 = nI s ∧ ∀ i, i < s → EW (jj ((f + i) % 30 + 1)) (h' (i + 1)) := by
    intro d
    induction d with
    | zero =>
      intro i k h g1 g2 g3 g4 g5 g6
      obtain ⟨k, rfl⟩ : ∃ j, k = j + 1 := ⟨k - 1, by omega⟩
      exact ⟨h, by rw [fX4_copyFrom_L15, g5, if_pos (nI_le (by omega) (by omega))], g4, g5, fun j hj => g6 j (by omega)⟩
    | succ d ih =>
      intro i k h g1 g2 g3 g4 g5 g6
      obtain ⟨k, rfl⟩ : ∃ j, k = j + 1 := ⟨k - 1, by omega⟩
      obtain ⟨h', i1, i2⟩ := ih (i + 1) k (hset h (i + 1) (fX10_copyFrom (h (i + 1)) (jj ((f + i) % 30 + 1)))) (by omega) (by omega) (by omega) (by rw [hset_ne _ _ (by omega)]; exact g4) (by rw [hset_ne _ _ (by omega)]; exact g5) (fun j hj => by
        by_cases c : j = i
        · subst c; rw [hset_eq]; exact copy_EW _ _
        · rw [hset_ne _ _ (by omega)]; exact g6 j (by omega))
      refine ⟨h', ?_, i2⟩
      rw [fX4_copyFrom_L15, g5, if_neg (nI_ge (by omega) (by omega)), inb_nI (by omega) (by omega), ck_t, h1, nI_add, r30 (by omega), inb_nI (by omega) (by omega), ck_t, thn_e, thn_e, cl_nI (by omega), cl_nI (by omega), j1]
      exact i1
  unfold fX4_copyFrom
  rw [thn_e, thn_e]
  exact key s 0 N _ rfl (by omega) (by omega) (by rw [hst_0, upd_e]; rfl) (by rw [hst_0, upd_n (by decide), hst_0, upd_e, h2]) (fun j hj => absurd hj (by omega))
theorem RHi_copy {K : Nat} {jj h' : HS} {b b' : Nat → Int32} {f s : Nat} (hr : RHi K jj b) (hb : ∀ k, k < 10760 → b' k = b k) (h1 : jj 0 0 1 = nI f) (hf : f < 30) (h2 : jj 0 0 2 = nI s) (hs : s ≤ 30) (g1 : h' 0 0 1 = nI 0) (g2 : h' 0 0 2 = nI s) (g3 : ∀ i, i < s → EW (jj ((f + i) % 30 + 1)) (h' (i + 1))) : RHi K h' b' := by
  obtain ⟨f2, F, s2, q1, q2, q3, q4, q5, q6, q7, q8⟩ := hr
  have e1 : f2 = f := (eq_nI (by omega) (by omega)).mp (q4.symm.trans h1)
  have e2 : s2 = s := (eq_nI (by omega) (by omega)).mp (q5.symm.trans h2)
  subst e1 e2
  refine ⟨0, F, s2, by decide, q2, q3, g1, g2, (hb 2 (by decide)).trans q6, (hb 1 (by decide)).trans q7, fun i hi => ?_⟩
  rw [show (0 + i) % 30 = i from by omega]
  refine RK_EW (g3 i hi) (fun k k1 k2 => ?_) (q8 i hi)
  unfold stp
  have : (F + i) % 30 < 30 := by omega
  exact hb _ (by omega)
theorem image_ok {N K : Nat} (hN : 10761 ≤ N) {nn ii xx mm : RS} {hh jj : HS} (hn : RK K nn (mm 1)) (hr : RHi K hh (mm 1)) :
    ∃ ii' jj' mm', fX11_image N xx nn ii hh jj = some (nn 1 0, sr xx 0 (upd (xx 0) 10 (xx 0 7)), ii', jj') ∧ fX12_image N mm = some (nn 1 0, mm') ∧ RK K ii' (mm' 2) ∧ RHi K jj' (mm' 2) ∧ mm' 2 0 = mm 1 0 ∧ ∀ c, c ≠ 2 → mm' c = mm c := by
  obtain ⟨f, F, s, q1, q2, q3, q4, q5, -⟩ := id hr
  obtain ⟨jj', g1, g2, g3, g4⟩ := hcopy_ok (N := N) (by omega) q1 q3 jj hh q4 q5
  have hc : ∀ k, k < 10760 → va_cpy (mm 1) (mm 2) 0 0 10760 k = mm 1 k := fun k hk => by
    rw [pk_cpy_in (Nat.zero_le _) (by omega)]
    congr 1
    omega
  refine ⟨fX10_copyFrom ii nn, jj', sr mm 2 (va_cpy (mm 1) (mm 2) 0 0 10760), ?_, ?_, ?_, ?_, ?_, fun c hc => sr_n hc⟩
  · unfold fX11_image
    rw [thn_e, g1, bnd_s, thn_e, st_d]
  · unfold fX12_image
    rw [copy12_ok hN, bnd_s, sr_n (by decide), (row13_iff.mp hn.1.1).1]
  · rw [sr_e]
    exact RK_EW (copy_EW _ _) (fun k k1 k2 => hc k (by omega)) hn
  · rw [sr_e]
    exact RHi_copy hr hc q4 q1 q5 q3 g2 g3 g4
  · rw [sr_e]
    exact hc 0 (by decide)
theorem back_ok {N K : Nat} (hN : 10761 ≤ N) {nn ii xx mm : RS} {hh jj : HS} (hn : RK K ii (mm 2)) (hr : RHi K jj (mm 2)) :
    ∃ nn' hh' mm', fX11_back N xx nn ii hh jj = some (nn' 1 0, sr xx 0 (upd (xx 0) 7 (xx 0 10)), nn', hh') ∧ fX12_back N mm = some (nn' 1 0, mm') ∧ RK K nn' (mm' 1) ∧ RHi K hh' (mm' 1) ∧ mm' 1 0 = mm 2 0 ∧ ∀ c, c ≠ 1 → mm' c = mm c := by
  obtain ⟨f, F, s, q1, q2, q3, q4, q5, -⟩ := id hr
  obtain ⟨hh', g1, g2, g3, g4⟩ := hcopy_ok (N := N) (by omega) q1 q3 hh jj q4 q5
  have hc : ∀ k, k < 10760 → va_cpy (mm 2) (mm 1) 0 0 10760 k = mm 2 k := fun k hk => by
    rw [pk_cpy_in (Nat.zero_le _) (by omega)]
    congr 1
    omega
  have hk : RK K (fX10_copyFrom nn ii) (va_cpy (mm 2) (mm 1) 0 0 10760) := RK_EW (copy_EW _ _) (fun k k1 k2 => hc k (by omega)) hn
  refine ⟨fX10_copyFrom nn ii, hh', sr mm 1 (va_cpy (mm 2) (mm 1) 0 0 10760), ?_, ?_, ?_, ?_, ?_, fun c hc => sr_n hc⟩
  · unfold fX11_back
    rw [thn_e, g1, bnd_s, thn_e, st_d]
  · unfold fX12_back
    rw [copy21_ok hN, bnd_s, sr_e, (row13_iff.mp hk.1.1).1]
  · rw [sr_e]
    exact hk
  · rw [sr_e]
    exact RHi_copy hr hc q4 q1 q5 q3 g2 g3 g4
  · rw [sr_e]
    exact hc 0 (by decide)
/-! aside -/
theorem aside_ok {N : Nat} (hN : 2000 ≤ N) {mm : RS} {a : Nat → Int32} : fX12_putAside N (sr mm 1 a) = some (sr (sr mm 10 (va_cpy a (mm 10) 3 0 347)) 1 a) := by
  have key : ∀ d i k, 347 - i = d → i ≤ 347 → d < k → fX12_putAside_L2 N k (nI i) (sr (sr mm 10 (va_cpy a (mm 10) 3 0 i)) 1 a) = some (sr (sr mm 10 (va_cpy a (mm 10) 3 0 347)) 1 a) := by
    intro d
    induction d with
    | zero =>
      intro i k h1 h2 h3
      obtain ⟨k, rfl⟩ : ∃ j, k = j + 1 := ⟨k - 1, by omega⟩
      have : i = 347 := by omega
      subst this
      rw [fX12_putAside_L2, if_pos (by decide)]
    | succ d ih =>
      intro i k h1 h2 h3
      obtain ⟨k, rfl⟩ : ∃ j, k = j + 1 := ⟨k - 1, by omega⟩
      have vs := vc_s (f := a) (g := mm 10) (s := 3) (d := 0) (i := i)
      rw [Nat.zero_add] at vs
      have e : st (sr (sr mm 10 (va_cpy a (mm 10) 3 0 i)) 1 a) 10 i (a (3 + i)) = sr (sr mm 10 (va_cpy a (mm 10) 3 0 (i + 1))) 1 a := by
        apply rs_ext
        intro r k
        rw [st_d]
        by_cases h1 : r = 1
        · subst h1; simp (disch := omega) only [sr_e, sr_n]
        · by_cases h6 : r = 10
          · subst h6; rw [sr_e, sr_n (by decide), sr_e, sr_n (by decide), sr_e, vs]
          · simp (disch := omega) only [sr_n]
      rw [fX12_putAside_L2, if_neg (fun q => absurd ((le_347 (by omega)).mp q) (by omega)), i3, inb_nI (by omega) (by omega), ck_t, inb_nI (by omega) (by omega), ck_t, thn_e, cl_nI (n := i) (by omega), cl_nI (n := 3 + i) (by omega), sr_e, e, j1]
      exact ih (i + 1) k (by omega) (by omega) (by omega)
  have := key 347 0 N rfl (by omega) (by omega)
  rw [vc_0, sr_self] at this
  exact this
theorem bring_ok {N : Nat} (hN : 2000 ≤ N) {mm : RS} {a b : Nat → Int32} (h10 : ∀ k, k < 347 → mm 10 k = a (3 + k)) (hf : FA a b) : fX12_bringBack N (sr mm 1 b) = some (sr mm 1 a) := by
  have key : ∀ d i k, 347 - i = d → i ≤ 347 → d < k → fX12_bringBack_L2 N k (nI i) (sr mm 1 (va_cpy (mm 10) b 0 3 i)) = some (sr mm 1 (va_cpy (mm 10) b 0 3 347)) := by
    intro d
    induction d with
    | zero =>
      intro i k h1 h2 h3
      obtain ⟨k, rfl⟩ : ∃ j, k = j + 1 := ⟨k - 1, by omega⟩
      have : i = 347 := by omega
      subst this
      rw [fX12_bringBack_L2, if_pos (by decide)]
    | succ d ih =>
      intro i k h1 h2 h3
      obtain ⟨k, rfl⟩ : ∃ j, k = j + 1 := ⟨k - 1, by omega⟩
      have vs := vc_s (f := mm 10) (g := b) (s := 0) (d := 3) (i := i)
      rw [Nat.zero_add] at vs
      rw [fX12_bringBack_L2, if_neg (fun q => absurd ((le_347 (by omega)).mp q) (by omega)), i3, inb_nI (by omega) (by omega), ck_t, inb_nI (by omega) (by omega), ck_t, thn_e, cl_nI (n := i) (by omega), cl_nI (n := 3 + i) (by omega), st_sr, sr_n (by decide), vs, j1]
      exact ih (i + 1) k (by omega) (by omega) (by omega)
  have := key 347 0 N rfl (by omega) (by omega)
  rw [vc_0] at this
  unfold fX12_bringBack
  refine this.trans ?_
  congr 2
  funext k
  by_cases q : 3 ≤ k ∧ k < 350
  · rw [pk_cpy_in q.1 (by omega), h10 _ (by omega)]
    congr 1
    omega
  · rw [pk_cpy_out (by omega)]
    exact hf k (by omega)
