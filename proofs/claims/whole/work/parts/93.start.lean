/-! THE BEGINNING: what the constructors leave -/
def rd0 : RS := sr (sr (sr zRS 1 (fun j => if j < 23 then nI j else 0)) 3 (fun j => if j < 23 then -1 else 0)) 4 (fun j => if j < 9 then -1 else 0)
theorem sr0 {D : RS} {c : Nat} {f : Nat → Int32} (h : D c = f) : sr D c f = D := by rw [← h, sr_self]
theorem ltup {f : Nat → Int32} {i : Nat} {g : Nat → Int32} (hf : f = fun j => if j < i then g j else 0) : upd f i (g i) = fun j => if j < i + 1 then g j else 0 := by
  subst hf
  funext j
  by_cases q : j = i
  · subst q; rw [upd_e, if_pos (by omega)]
  · rw [upd_n q]
    by_cases q2 : j < i
    · rw [if_pos q2, if_pos (by omega)]
    · rw [if_neg q2, if_neg (by omega)]
theorem le_23' {k : Nat} (h : k < 2147483648) : (23 : Int32) ≤ nI k ↔ 23 ≤ k := le_nI (a := 23) (by decide) h
theorem init1b {N : Nat} {D : RS} : ∀ d i k, 9 - i = d → i ≤ 9 → d < k → fX1_init_L66 N k (nI i) (sr D 4 (fun j => if j < i then -1 else 0)) = some (sr D 4 (fun j => if j < 9 then -1 else 0)) := by
  intro d
  induction d with
  | zero =>
    intro i k h1 h2 h3
    obtain ⟨k, rfl⟩ : ∃ q, k = q + 1 := ⟨k - 1, by omega⟩
    have : i = 9 := by omega
    subst this
    rw [fX1_init_L66, if_pos (by decide)]
  | succ d ih =>
    intro i k h1 h2 h3
    obtain ⟨k, rfl⟩ : ∃ q, k = q + 1 := ⟨k - 1, by omega⟩
    rw [fX1_init_L66, if_neg (show ¬ (9 : Int32) ≤ nI i from nI_ge (b := 9) (by omega) (by decide)), inb_nI (by omega) (by decide), ck_t, thn_e, cl_nI (by omega), st_sr, ltup (g := fun _ => -1) rfl, j1]
    exact ih (i + 1) k (by omega) (by omega) (by omega)
theorem init1a {N : Nat} (hN : 97 ≤ N) : ∀ d i k, 23 - i = d → i ≤ 23 → d < k → fX1_init_L38 N k (nI i) (sr (sr zRS 1 (fun j => if j < i then nI j else 0)) 3 (fun j => if j < i then -1 else 0)) = some rd0 := by
  intro d
  induction d with
  | zero =>
    intro i k h1 h2 h3
    obtain ⟨k, rfl⟩ : ∃ q, k = q + 1 := ⟨k - 1, by omega⟩
    have : i = 23 := by omega
    subst this
    rw [fX1_init_L38, if_pos (by decide)]
    have := init1b (N := N) (D := sr (sr zRS 1 (fun j => if j < 23 then nI j else 0)) 3 (fun j => if j < 23 then -1 else 0)) 9 0 N rfl (by omega) (by omega)
    rw [sr0 (c := 4) (f := fun j => if j < 0 then -1 else 0) rfl] at this
    exact this
  | succ d ih =>
    intro i k h1 h2 h3
    obtain ⟨k, rfl⟩ : ∃ q, k = q + 1 := ⟨k - 1, by omega⟩
    have e1 : st (sr (sr zRS 1 (fun j => if j < i then nI j else 0)) 3 (fun j => if j < i then -1 else 0)) 1 i (nI i) = sr (sr zRS 1 (fun j => if j < i + 1 then nI j else 0)) 3 (fun j => if j < i then -1 else 0) := by
      rw [sr_cm (by decide), st_sr, sr_cm (by decide), ltup (g := nI) rfl]
    rw [fX1_init_L38, if_neg (show ¬ (23 : Int32) ≤ nI i from nI_ge (b := 23) (by omega) (by decide)), inb_nI (by omega) (by decide), ck_t, cl_nI (by omega), thn_e, thn_e, e1, st_sr, ltup (g := fun _ => -1) rfl, j1]
    exact ih (i + 1) k (by omega) (by omega) (by omega)
theorem init1 {N : Nat} (hN : 97 ≤ N) : fX1_init N zX1_init = some rd0 := by
  have := init1a (N := N) hN 23 0 N rfl (by omega) (by omega)
  rw [sr0 (c := 1) (f := fun j => if j < 0 then nI j else 0) rfl, sr0 (c := 3) (f := fun j => if j < 0 then -1 else 0) rfl] at this
  exact this
def w00 : RS := st (st (st (st (zX10_init rd0) 1 1 409) 1 4 3) 1 5 6) 1 6 4
theorem init10 {N : Nat} : fX10_init N (zX10_init rd0) = some w00 := rfl
def aB : Nat → Int32 := upd (upd (upd (upd (fun _ => 0) 4 409) 7 3) 8 6) 9 4
def aA (i : Nat) : Nat → Int32 := fun k => if 139 ≤ k ∧ k < 139 + i then -1 else if 162 ≤ k ∧ k < 162 + i then nI (k - 162) else aB k
theorem aA_s {i : Nat} (hi : i < 23) : upd (upd (aA i) (139 + i) (-1)) (162 + i) (nI i) = aA (i + 1) := by
  funext k
  unfold aA
  by_cases q : k = 162 + i
  · subst q
    rw [upd_e, if_neg (by omega), if_pos (by omega), show 162 + i - 162 = i from by omega]
  · rw [upd_n q]
    by_cases q2 : k = 139 + i
    · subst q2
      rw [upd_e, if_pos (by omega)]
    · rw [upd_n q2]
      by_cases c1 : 139 ≤ k ∧ k < 139 + i
      · rw [if_pos c1, if_pos (by omega)]
      · rw [if_neg c1, if_neg (show ¬ (139 ≤ k ∧ k < 139 + (i + 1)) from by omega)]
        by_cases c2 : 162 ≤ k ∧ k < 162 + i
        · rw [if_pos c2, if_pos (by omega)]
        · rw [if_neg c2, if_neg (show ¬ (162 ≤ k ∧ k < 162 + (i + 1)) from by omega)]
theorem aA_0 : aA 0 = aB := by
  funext k
  unfold aA
  rw [if_neg (by omega), if_neg (by omega)]
def m00 : RS := sr (sr zX12_init 1 (aA 23)) 2 (va_cpy (aA 23) (zX12_init 2) 0 0 10760)
theorem init12 {N : Nat} (hN : 300000 ≤ N) : fX12_init N zX12_init = some m00 := by
  have key : ∀ d i k, 23 - i = d → i ≤ 23 → d < k → fX12_init_L131 N k (nI i) (sr zX12_init 1 (aA i)) = some m00 := by
    intro d
    induction d with
    | zero =>
      intro i k h1 h2 h3
      obtain ⟨k, rfl⟩ : ∃ q, k = q + 1 := ⟨k - 1, by omega⟩
      have : i = 23 := by omega
      subst this
      rw [fX12_init_L131, if_pos (by decide), copy12_ok (by omega), bnd_s, sr_e, sr_n (by decide)]
      rfl
    | succ d ih =>
      intro i k h1 h2 h3
      obtain ⟨k, rfl⟩ : ∃ q, k = q + 1 := ⟨k - 1, by omega⟩
      rw [fX12_init_L131, if_neg (show ¬ (23 : Int32) ≤ nI i from nI_ge (b := 23) (by omega) (by decide)), i139, inb_nI (by omega) (by decide), ck_t, thn_e, cl_nI (by omega), i162, inb_nI (by omega) (by decide), ck_t, thn_e, cl_nI (by omega), st_sr, st_sr, aA_s (by omega), j1]
      exact ih (i + 1) k (by omega) (by omega) (by omega)
  have e : fX12_init N zX12_init = fX12_init_L131 N N (nI 0) (sr zX12_init 1 (aA 0)) := by
    unfold fX12_init
    rw [aA_0, thn_e, thn_e, thn_e, thn_e]
    congr 1
    rw [show st zX12_init 1 4 409 = sr zX12_init 1 (upd (fun _ => 0) 4 409) from rfl, st_sr, st_sr, st_sr]
    rfl
  rw [e]
  exact key 23 0 N rfl (by omega) (by omega)
set_option maxRecDepth 100000 in
theorem w00_z : ∀ c, c < 15 → 3 ≤ c → ∀ e, e < 10 → w00 c e = 0 := by decide +kernel
set_option maxRecDepth 100000 in
theorem w00_18 : ∀ q, q < 23 → w00 18 q = -1 := by decide +kernel
set_option maxRecDepth 100000 in
theorem w00_19 : ∀ q, q < 9 → w00 19 q = -1 := by decide +kernel
theorem w00_RW : RW w00 (aA 23) := by
  have hx : ∀ e, e < 10 → w00 3 e = 0 := fun e he => w00_z 3 (by decide) (by decide) e he
  refine ⟨?_, ⟨?_, ?_, ?_, ?_, ?_, ?_, ?_, ?_, ?_, ?_, ?_⟩, ⟨?_, ?_, ?_⟩, ?_, ⟨0, by decide, by decide +kernel, by decide +kernel, fun i hi => absurd hi (Nat.not_lt_zero _), fun i hi => absurd hi (Nat.not_lt_zero _)⟩, ⟨0, by decide, by decide +kernel, by decide +kernel, fun i hi => absurd hi (Nat.not_lt_zero _), fun i hi => absurd hi (Nat.not_lt_zero _), fun i hi => absurd hi (Nat.not_lt_zero _), fun i hi => absurd hi (Nat.not_lt_zero _)⟩, ⟨0, by decide, by decide +kernel, by decide +kernel, fun i hi => absurd hi (by omega)⟩⟩
  · show ∀ i, i < 13 → aA 23 (3 + i) = w00 1 i; decide +kernel
  · show ∀ i, i < 10 → aA 23 (109 + i) = w00 3 i; decide +kernel
  · show ∀ i, i < 10 → aA 23 (69 + i) = w00 4 i; decide +kernel
  · show ∀ i, i < 10 → aA 23 (59 + i) = w00 5 i; decide +kernel
  · show ∀ i, i < 10 → aA 23 (79 + i) = w00 6 i; decide +kernel
  · show ∀ i, i < 10 → aA 23 (340 + i) = w00 7 i; decide +kernel
  · show ∀ i, i < 10 → aA 23 (19 + i) = w00 9 i; decide +kernel
  · show ∀ i, i < 10 → aA 23 (29 + i) = w00 10 i; decide +kernel
  · show ∀ i, i < 10 → aA 23 (39 + i) = w00 11 i; decide +kernel
  · show ∀ i, i < 10 → aA 23 (49 + i) = w00 12 i; decide +kernel
  · show ∀ i, i < 10 → aA 23 (89 + i) = w00 13 i; decide +kernel
  · show ∀ i, i < 10 → aA 23 (99 + i) = w00 14 i; decide +kernel
  · show ∀ i, i < 23 → aA 23 (162 + i) = w00 16 i; decide +kernel
  · show ∀ i, i < 23 → aA 23 (139 + i) = w00 18 i; decide +kernel
  · show ∀ i, i < 9 → aA 23 (185 + i) = w00 17 i; decide +kernel
  · intro e he h
    rw [hx e he] at h
    exact absurd h (by decide)
theorem w00_IW : IW w00 := by
  have z := w00_z
  have u0 : ∀ n x, x = (0 : Int32) → upto n x := fun n x h => ⟨0, Nat.zero_le _, h⟩
  refine ⟨⟨fun e he => Or.inl (z 3 (by decide) (by decide) e he), fun e he => u0 _ _ (z 4 (by decide) (by decide) e he), fun e he => u0 _ _ (z 6 (by decide) (by decide) e he), fun e he _ => z 6 (by decide) (by decide) e he, fun e he => u0 _ _ (z 9 (by decide) (by decide) e he), fun e he => u0 _ _ (z 10 (by decide) (by decide) e he), fun e he => u0 _ _ (z 13 (by decide) (by decide) e he), fun e he => u0 _ _ (z 14 (by decide) (by decide) e he)⟩, ⟨fun q hq => Or.inl (w00_18 q hq), fun q hq => Or.inl (w00_19 q hq)⟩, ⟨0, by decide, by decide +kernel, fun i hi => absurd hi (Nat.not_lt_zero _)⟩, ⟨0, by decide, by decide +kernel, fun i hi => absurd hi (Nat.not_lt_zero _), fun i hi => absurd hi (Nat.not_lt_zero _)⟩, ?_, ⟨409, by decide, by decide +kernel⟩, ⟨3, by decide, by decide +kernel⟩, ⟨6, by decide, by decide +kernel⟩, ⟨4, by decide, by decide +kernel⟩⟩
  intro e he b hb
  constructor
  · intro h
    exact absurd (w00_18 _ (stN_lt he hb)) h
  · rintro (h | ⟨m, i, hm, h23, hi, -⟩)
    · rw [z 3 (by decide) (by decide) e he] at h
      exact absurd h (by decide)
    · have e0 : w00 23 0 = nI 0 := by decide +kernel
      have : m = 0 := (eq_nI (by omega) (by decide)).mp (h23.symm.trans e0)
      omega
theorem w00_RK : RK 0 w00 (aA 23) := ⟨w00_RW, w00_IW, ⟨0, by decide, by decide +kernel⟩, 0, 0, by decide, by decide, by decide +kernel, by decide +kernel⟩
theorem INV_0 : INV 0 zRS w00 w00 zX8_init (hZ w00) (hZ w00) (fun _ => none) m00 := by
  have e1 : m00 1 = aA 23 := by unfold m00; rw [sr_n (by decide), sr_e]
  have e2 : m00 2 = va_cpy (aA 23) (zX12_init 2) 0 0 10760 := by unfold m00; rw [sr_e]
  have e0 : m00 0 = zX12_init 0 := by unfold m00; rw [sr_n (by decide), sr_n (by decide)]
  have c2 : ∀ k, k < 10760 → m00 2 k = aA 23 k := fun k hk => by rw [e2, pk_cpy_in (Nat.zero_le _) (by omega), Nat.zero_add, Nat.sub_zero]
  have hH : ∀ a : Nat → Int32, a 2 = 0 → a 1 = 0 → RHi 0 (hZ w00) a := fun a h2 h1 => ⟨0, 0, 0, by decide, by decide, by decide, rfl, rfl, h2, h1, fun i hi => absurd hi (Nat.not_lt_zero _)⟩
  refine ⟨⟨0, by decide, rfl, ⟨0, by decide, rfl, ?_⟩, ?_, ⟨0, by decide, rfl, ?_, fun i hi => absurd hi (Nat.not_lt_zero _)⟩, ?_, ?_, fun j hj => absurd hj (Nat.not_lt_zero _)⟩, ?_, ?_, ?_, ?_⟩
  · rw [c2 0 (by decide)]; decide +kernel
  · rw [e1]; decide +kernel
  · rw [e0]; decide +kernel
  · rw [e0]; decide +kernel
  · rw [e0]; decide +kernel
  · rw [e1]; exact w00_RK
  · rw [e1]; exact hH _ (by decide +kernel) (by decide +kernel)
  · exact RK_EW EW.rf (fun k k1 k2 => c2 k (by omega)) w00_RK
  · exact hH _ (by rw [c2 2 (by decide)]; decide +kernel) (by rw [c2 1 (by decide)]; decide +kernel)
