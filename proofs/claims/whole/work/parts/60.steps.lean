/-! STEPS: kept, taken back; the image; aside -/
def stp (a : Nat → Int32) (j : Nat) : Nat → Int32 := fun k => a (347 + 347 * j + k)
/-- n cells from s on, laid from d on -/
def cpA (a : Nat → Int32) (s d n : Nat) : Nat → Int32 := fun k => if d ≤ k ∧ k < d + n then a (s + (k - d)) else a k
theorem cpA_0 {a : Nat → Int32} {s d : Nat} : cpA a s d 0 = a := funext fun k => if_neg (by omega)
theorem cpA_s {a : Nat → Int32} {s d i : Nat} (h : s + i < d ∨ d + i ≤ s + i) : upd (cpA a s d i) (d + i) (cpA a s d i (s + i)) = cpA a s d (i + 1) := by
  funext k
  unfold upd cpA
  by_cases e : k = d + i
  · subst e
    rw [if_pos rfl, if_neg (by omega), if_pos (by omega)]
    congr 1
    omega
  · rw [if_neg e]
    by_cases q : d ≤ k ∧ k < d + i
    · rw [if_pos q, if_pos (by omega)]
    · rw [if_neg q, if_neg (by omega)]
theorem cpA_in {a : Nat → Int32} {s d n k : Nat} (h : d ≤ k) (h2 : k < d + n) : cpA a s d n k = a (s + (k - d)) := if_pos ⟨h, h2⟩
theorem cpA_out {a : Nat → Int32} {s d n k : Nat} (h : k < d ∨ d + n ≤ k) : cpA a s d n k = a k := if_neg (by omega)
theorem le_347 {k : Nat} (h : k < 2147483648) : (347 : Int32) ≤ nI k ↔ 347 ≤ k := le_nI (a := 347) (by decide) h
theorem keep_loop {N X : Nat} (hX : 350 ≤ X) (hX2 : X + 347 ≤ 10760) {mm : RS} {a : Nat → Int32} : ∀ d i k, 347 - i = d → i ≤ 347 → d < k →
    fX12_keep_L56 N k (nI X) (nI i) (sr mm 1 (cpA a 3 X i)) = some (sr mm 1 (upd (cpA a 3 X 347) 1 (a 1 + 1))) := by
  intro d
  induction d with
  | zero =>
    intro i k h1 h2 h3
    obtain ⟨k, rfl⟩ : ∃ j, k = j + 1 := ⟨k - 1, by omega⟩
    have : i = 347 := by omega
    subst this
    rw [fX12_keep_L56, if_pos (by decide), thn_e, st_sr, sr_e, cpA_out (k := 1) (by omega)]
  | succ d ih =>
    intro i k h1 h2 h3
    obtain ⟨k, rfl⟩ : ∃ j, k = j + 1 := ⟨k - 1, by omega⟩
    rw [fX12_keep_L56, if_neg (fun q => absurd ((le_347 (by omega)).mp q) (by omega)), i3, nI_add, inb_nI (by omega) (by omega), ck_t, inb_nI (by omega) (by omega), ck_t, thn_e, cl_nI (by omega), cl_nI (by omega), st_sr, sr_e, cpA_s (by omega), j1]
    exact ih (i + 1) k (by omega) (by omega) (by omega)
theorem undo_loop {N X : Nat} (hX : 350 ≤ X) (hX2 : X + 347 ≤ 10760) {mm : RS} {a : Nat → Int32} : ∀ d i k, 347 - i = d → i ≤ 347 → d < k →
    fX12_undo_L39 N k (nI X) (nI i) (sr mm 1 (cpA a X 3 i)) = some (a 1, sr mm 1 (cpA a X 3 347)) := by
  intro d
  induction d with
  | zero =>
    intro i k h1 h2 h3
    obtain ⟨k, rfl⟩ : ∃ j, k = j + 1 := ⟨k - 1, by omega⟩
    have : i = 347 := by omega
    subst this
    rw [fX12_undo_L39, if_pos (by decide), sr_e, cpA_out (k := 1) (by omega)]
  | succ d ih =>
    intro i k h1 h2 h3
    obtain ⟨k, rfl⟩ : ∃ j, k = j + 1 := ⟨k - 1, by omega⟩
    rw [fX12_undo_L39, if_neg (fun q => absurd ((le_347 (by omega)).mp q) (by omega)), i3, nI_add, inb_nI (by omega) (by omega), ck_t, inb_nI (by omega) (by omega), ck_t, thn_e, cl_nI (by omega), cl_nI (by omega), st_sr, sr_e, cpA_s (by omega), j1]
    exact ih (i + 1) k (by omega) (by omega) (by omega)
theorem stepAt_N {F s : Nat} (hF : F < 30) (hs : s ≤ 30) : fX12_stepAt (nI F) (nI s) = nI (350 + 347 * ((F + s) % 30)) := by
  unfold fX12_stepAt
  rw [nI_add, r30 (by omega), show (347 : Int32) * nI ((F + s) % 30) = nI (347 * ((F + s) % 30)) from mul_nI 347 _]
  exact nI_add 350 _
/-- one World kept -/
def RK (K : Nat) (w : RS) (a : Nat → Int32) : Prop := RW w a ∧ IW w ∧ IK K w
theorem RK_EW {K : Nat} {w w' : RS} {a a' : Nat → Int32} (h : EW w w') (ha : ∀ k, 3 ≤ k → k < 350 → a' k = a k) (hr : RK K w a) : RK K w' a' := ⟨RW_EW h ha hr.1, IW_EW h hr.2.1, IK_EW h hr.2.2⟩
theorem RK_le {K L : Nat} {w : RS} {a : Nat → Int32} (h : RK K w a) (hl : K ≤ L) : RK L w a := ⟨h.1, h.2.1, IK_le h.2.2 hl⟩
/-- all steps that can be taken back -/
def RHi (K : Nat) (h : HS) (a : Nat → Int32) : Prop := ∃ f F s, f < 30 ∧ F < 30 ∧ s ≤ 30 ∧ h 0 0 1 = nI f ∧ h 0 0 2 = nI s ∧ a 2 = nI F ∧ a 1 = nI s ∧ ∀ i, i < s → RK K (h ((f + i) % 30 + 1)) (stp a ((F + i) % 30))
theorem RHi_le {K L : Nat} {h : HS} {a : Nat → Int32} (hr : RHi K h a) (hl : K ≤ L) : RHi L h a := by
  obtain ⟨f, F, s, h1, h2, h3, h4, h5, h6, h7, h8⟩ := hr
  exact ⟨f, F, s, h1, h2, h3, h4, h5, h6, h7, fun i hi => RK_le (h8 i hi) hl⟩
theorem RHi_cg {K : Nat} {h : HS} {a a' : Nat → Int32} (ha : ∀ k, (k = 1 ∨ k = 2 ∨ 350 ≤ k) → a' k = a k) (hr : RHi K h a) : RHi K h a' := by
  obtain ⟨f, F, s, h1, h2, h3, h4, h5, h6, h7, h8⟩ := hr
  exact ⟨f, F, s, h1, h2, h3, h4, h5, (ha 2 (by omega)).trans h6, (ha 1 (by omega)).trans h7, fun i hi => RK_EW EW.rf (fun k k1 k2 => ha _ (by omega)) (h8 i hi)⟩
theorem hst_0 {h : HS} {k : Nat} {x : Int32} : hst h k x 0 0 = upd (h 0 0) k x := by
  unfold hst
  rw [hset_eq, st_e]
theorem hst_n {h : HS} {k i : Nat} {x : Int32} (hi : i ≠ 0) : hst h k x i = h i := hset_ne _ _ hi
theorem le_30 {k : Nat} (h : k < 2147483648) : (30 : Int32) ≤ nI k ↔ 30 ≤ k := le_nI (a := 30) (by decide) h
theorem eq_30 {k : Nat} (h : k < 2147483648) : nI k = (30 : Int32) ↔ k = 30 := eq_nI (b := 30) h (by decide)
theorem push_ok {N K : Nat} (hN : 2000 ≤ N) {w mm : RS} {h : HS} {a : Nat → Int32} (hh : RHi K h a) (hw : RK K w a) :
    ∃ h' a', fX4_push N w h = some h' ∧ fX12_keep N (sr mm 1 a) = some (sr mm 1 a') ∧ RHi K h' a' ∧ ∀ k, k ≠ 1 → k ≠ 2 → k < 350 → a' k = a k := by
  obtain ⟨f, F, s, h1, h2, h3, h4, h5, h6, h7, h8⟩ := hh
  have hadd : nI f + nI s = nI (f + s) := nI_add f s
  have hp : fX4_push N w h = (if 30 ≤ nI s then some (hst (hset h ((f + s) % 30 + 1) (fX10_copyFrom (h ((f + s) % 30 + 1)) w)) 1 (nI ((f + 1) % 30))) else some (hst (hset h ((f + s) % 30 + 1) (fX10_copyFrom (h ((f + s) % 30 + 1)) w)) 2 (nI (s + 1)))) := by
    unfold fX4_push
    rw [h4, h5, hadd, r30 (by omega), inb_nI (by omega) (by omega), ck_t, thn_e, thn_e, cl_nI (by omega), hset_ne _ _ (by omega), h4, h5, j1, j1, thn_e, thn_e, r30 (by omega)]
  have key : ∀ (X : Nat) (b : Nat → Int32), 350 ≤ X → X + 347 ≤ 10760 → fX12_keep_L56 N N (nI X) 0 (sr mm 1 b) = some (sr mm 1 (upd (cpA b 3 X 347) 1 (b 1 + 1))) := fun X b q1 q2 => by
    have := keep_loop (N := N) (mm := mm) (a := b) q1 q2 347 0 N rfl (by omega) (by omega)
    rw [cpA_0] at this
    exact this
  by_cases c : s = 30
  · subst c
    refine ⟨hst (hset h ((f + 30) % 30 + 1) (fX10_copyFrom (h ((f + 30) % 30 + 1)) w)) 1 (nI ((f + 1) % 30)), upd (cpA (upd (upd a 2 (nI ((F + 1) % 30))) 1 (nI 29)) 3 (350 + 347 * F) 347) 1 (nI 29 + 1), ?_, ?_, ?_, ?_⟩
    · rw [hp, if_pos ((le_30 (by omega)).mpr (Nat.le_refl _))]
    · unfold fX12_keep
      rw [sr_e, h7, if_pos ((eq_30 (by omega)).mpr rfl), h6, j1, r30 (by omega), thn_e, thn_e, st_sr, sr_e, st_sr, upd_n (by decide), h7, show nI 30 - 1 = nI 29 from by decide]
      unfold fX12_keep_L38
      rw [sr_e, upd_e, upd_n (by decide), upd_e, thn_e, stepAt_N (by omega) (by omega), show ((F + 1) % 30 + 29) % 30 = F from by omega, key _ _ (by omega) (by omega), upd_e]
    · refine ⟨(f + 1) % 30, (F + 1) % 30, 30, by omega, by omega, Nat.le_refl _, by rw [hst_0, upd_e], by rw [hst_0, upd_n (by decide), hset_ne _ _ (by omega), h5], ?_, by rw [upd_e]; decide, fun i hi => ?_⟩
      · rw [upd_n (by decide), cpA_out (by omega), upd_n (by decide), upd_e]
      · rw [hst_n (by omega)]
        by_cases ci : i = 29
        · subst ci
          rw [show ((f + 1) % 30 + 29) % 30 = (f + 30) % 30 from by omega, hset_eq, show ((F + 1) % 30 + 29) % 30 = F from by omega]
          refine RK_EW (copy_EW _ _) (fun k k1 k2 => ?_) hw
          unfold stp
          rw [upd_n (by omega), cpA_in (by omega) (by omega), show 3 + (347 + 347 * F + k - (350 + 347 * F)) = k from by omega, upd_n (by omega), upd_n (by omega)]
        · rw [hset_ne _ _ (by omega), show ((f + 1) % 30 + i) % 30 = (f + (i + 1)) % 30 from by omega, show ((F + 1) % 30 + i) % 30 = (F + (i + 1)) % 30 from by omega]
          refine RK_EW EW.rf (fun k k1 k2 => ?_) (h8 (i + 1) (by omega))
          unfold stp
          have : (F + (i + 1)) % 30 ≠ F := by omega
          rw [upd_n (by omega), cpA_out (by omega), upd_n (by omega), upd_n (by omega)]
    · intro k k1 k2 k3
      rw [upd_n k1, cpA_out (by omega), upd_n k1, upd_n k2]
  · refine ⟨hst (hset h ((f + s) % 30 + 1) (fX10_copyFrom (h ((f + s) % 30 + 1)) w)) 2 (nI (s + 1)), upd (cpA a 3 (350 + 347 * ((F + s) % 30)) 347) 1 (nI s + 1), ?_, ?_, ?_, ?_⟩
    · rw [hp, if_neg (fun q => absurd ((le_30 (by omega)).mp q) (by omega))]
    · unfold fX12_keep
      rw [sr_e, h7, if_neg (fun q => c ((eq_30 (by omega)).mp q))]
      unfold fX12_keep_L38
      rw [sr_e, h6, h7, thn_e, stepAt_N (by omega) (by omega), key _ _ (by omega) (by omega), h7]
    · refine ⟨f, F, s + 1, h1, h2, by omega, by rw [hst_0, upd_n (by decide), hset_ne _ _ (by omega), h4], by rw [hst_0, upd_e], ?_, by rw [upd_e, j1], fun i hi => ?_⟩
      · rw [upd_n (by decide), cpA_out (by omega), h6]
      · rw [hst_n (by omega)]
        by_cases ci : i = s
        · subst ci
          rw [hset_eq]
          refine RK_EW (copy_EW _ _) (fun k k1 k2 => ?_) hw
          unfold stp
          rw [upd_n (by omega), cpA_in (by omega) (by omega), show 3 + (347 + 347 * ((F + i) % 30) + k - (350 + 347 * ((F + i) % 30))) = k from by omega]
        · rw [hset_ne _ _ (by omega)]
          refine RK_EW EW.rf (fun k k1 k2 => ?_) (h8 i (by omega))
          unfold stp
          have : (F + i) % 30 ≠ (F + s) % 30 := by omega
          rw [upd_n (by omega), cpA_out (by omega)]
    · intro k k1 k2 k3
      rw [upd_n k1, cpA_out (by omega)]
/-- undo -/
theorem undo_ok {N K : Nat} (hN : 2000 ≤ N) {w mm xx : RS} {h : HS} {a : Nat → Int32} (hh : RHi K h a) (hw : RK K w a) :
    ∃ r w' h' a', fX11_undo N xx w h = some (r, w', h') ∧ fX12_undo N (sr mm 1 a) = some (r, sr mm 1 a') ∧ RHi K h' a' ∧ RK K w' a' ∧ a' 0 = a 0 := by
  obtain ⟨f, F, s, h1, h2, h3, h4, h5, h6, h7, h8⟩ := id hh
  unfold fX11_undo fX4_pop fX12_undo
  rw [sr_e, h7, h5]
  by_cases c : s = 0
  · subst c
    rw [if_pos (show nI 0 = 0 by decide), if_pos (show nI 0 = 0 by decide), bnd_s, if_pos rfl]
    exact ⟨_, _, _, _, rfl, rfl, hh, hw, rfl⟩
  · rw [if_neg (fun q => c ((eq_0 (by omega)).mp q)), if_neg (fun q => c ((eq_0 (by omega)).mp q)), thn_e, thn_e, s1 (by omega), thn_e, hst_0, upd_n (by decide), upd_e, h4, nI_add, r30 (by omega), inb_nI (by omega) (by omega), ck_t, thn_e, cl_nI (by omega), bnd_s, if_neg (show ¬ (1 : Int32) = 0 by decide), hst_n (by omega)]
    dsimp only
    rw [hst_0, upd_e, st_sr, sr_e, upd_e, upd_n (by decide), h6, stepAt_N (by omega) (by omega)]
    have key := undo_loop (N := N) (mm := mm) (a := upd a 1 (nI (s - 1))) (X := 350 + 347 * ((F + (s - 1)) % 30)) (by omega) (by omega) 347 0 N rfl (by omega) (by omega)
    rw [cpA_0, upd_e] at key
    refine ⟨_, _, _, _, rfl, key, ⟨f, F, s - 1, h1, h2, by omega, by rw [hst_0, upd_n (by decide), h4], by rw [hst_0, upd_e], ?_, ?_, fun i hi => ?_⟩, ?_, ?_⟩
    · rw [cpA_out (by omega), upd_n (by decide), h6]
    · rw [cpA_out (by omega), upd_e]
    · rw [hst_n (by omega)]
      refine RK_EW EW.rf (fun k k1 k2 => ?_) (h8 i (by omega))
      unfold stp
      rw [cpA_out (by omega), upd_n (by omega)]
    · refine RK_EW (copy_EW _ _) (fun k k1 k2 => ?_) (h8 (s - 1) (by omega))
      unfold stp
      rw [cpA_in (by omega) (by omega), show 350 + 347 * ((F + (s - 1)) % 30) + (k - 3) = 347 + 347 * ((F + (s - 1)) % 30) + k from by omega, upd_n (by omega)]
    · rw [cpA_out (by omega), upd_n (by decide)]
