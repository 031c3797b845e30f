/-! THE WHOLE STATE of both; a call on both -/
def TXok (tx : TXS) (mm : RS) (j : Nat) : Prop := ∃ tn K W F tt, tx j = some (tn, tt) ∧ CTx tn K F tt ∧ TSH tn K W F ∧ MTx (602 * j) tn K W mm
def CIv (t : Nat) (xx rr : RS) (tx : TXS) (mm : RS) : Prop := t ≤ 4 ∧ xx 0 7 = nI t ∧ (∃ u, u ≤ t ∧ xx 0 10 = nI u ∧ mm 2 0 = nI u) ∧ mm 1 0 = nI t ∧ (∃ n, TP n rr mm) ∧ rr 0 2 = mm 0 5 ∧ rr 0 3 = mm 0 6 ∧ ∀ j, j < t → TXok tx mm j
def INV (K : Nat) (xx nn ii rr : RS) (hh jj : HS) (tx : TXS) (mm : RS) : Prop := (∃ t, CIv t xx rr tx mm) ∧ RK K nn (mm 1) ∧ RHi K hh (mm 1) ∧ RK K ii (mm 2) ∧ RHi K jj (mm 2)
section W2
variable {N K L : Nat} {xx nn ii rr ss pp yy mm mm' nn' : RS} {hh jj hh' : HS} {tx : TXS} {a' : Nat → Int32}
theorem CIv_mm {t : Nat} (h : CIv t xx rr tx mm) (h1 : mm' 1 0 = mm 1 0) (h2 : mm' 2 = mm 2) (h3 : mm' 3 = mm 3) (h4 : mm' 4 = mm 4) (g4 : mm' 0 4 = mm 0 4) (g5 : mm' 0 5 = mm 0 5) (g6 : mm' 0 6 = mm 0 6) : CIv t xx rr tx mm' := by
  obtain ⟨a1, a2, ⟨u, u1, u2, u3⟩, a4, ⟨n, n1, n2, n3, n4⟩, a6, a7, a8⟩ := h
  refine ⟨a1, a2, ⟨u, u1, u2, by rw [h2]; exact u3⟩, h1.trans a4, ⟨n, n1, n2, g4.trans n3, fun i hi => by rw [h4]; exact n4 i hi⟩, a6.trans g5.symm, a7.trans g6.symm, fun j hj => ?_⟩
  obtain ⟨tn, K, W, F, tt, b1, b2, b3, b4⟩ := a8 j hj
  exact ⟨tn, K, W, F, tt, b1, b2, b3, by unfold MTx; rw [h3]; exact b4⟩
theorem INV.to (h : INV K xx nn ii rr hh jj tx mm) (hK : K ≤ L) (hr : RK L nn' (mm' 1)) (hh1 : RHi L hh' (mm' 1)) (h1 : mm' 1 0 = mm 1 0) (h2 : mm' 2 = mm 2) (h3 : mm' 3 = mm 3) (h4 : mm' 4 = mm 4) (g4 : mm' 0 4 = mm 0 4) (g5 : mm' 0 5 = mm 0 5) (g6 : mm' 0 6 = mm 0 6) : INV L xx nn' ii rr hh' jj tx mm' := by
  obtain ⟨⟨t, hc⟩, -, -, h5, h6⟩ := h
  exact ⟨⟨t, CIv_mm hc h1 h2 h3 h4 g4 g5 g6⟩, hr, hh1, by rw [h2]; exact RK_le h5 hK, by rw [h2]; exact RHi_le h6 hK⟩
theorem INV.le (h : INV K xx nn ii rr hh jj tx mm) (hK : K ≤ L) : INV L xx nn ii rr hh jj tx mm := h.to hK (RK_le h.2.1 hK) (RHi_le h.2.2.1 hK) rfl rfl rfl rfl rfl rfl rfl
theorem INV.fr (h : INV K xx nn ii rr hh jj tx mm) (hK : K ≤ L) (hA : AC L nn' hh' (mm 1) a') {m2 : RS} (hf : ∀ c, c = 0 ∨ c = 2 ∨ c = 3 ∨ c = 4 → m2 c = mm c) : INV L xx nn' ii rr hh' jj tx (sr m2 1 a') := by
  have e0 : sr m2 1 a' 0 = mm 0 := (sr_n (by decide)).trans (hf 0 (by omega))
  refine h.to hK (by rw [sr_e]; exact hA.1) (by rw [sr_e]; exact hA.2.1) (by rw [sr_e]; exact hA.2.2) ((sr_n (by decide)).trans (hf 2 (by omega))) ((sr_n (by decide)).trans (hf 3 (by omega))) ((sr_n (by decide)).trans (hf 4 (by omega))) (by rw [e0]) (by rw [e0]) (by rw [e0])
theorem INV.ac (h : INV K xx nn ii rr hh jj tx mm) (hK : K ≤ L) (hA : AC L nn' hh' (mm 1) a') : INV L xx nn' ii rr hh' jj tx (sr mm 1 a') := h.fr hK hA fun _ _ => rfl
theorem INV.zz (h : INV K xx nn ii rr hh jj tx mm) {z : Nat → Int32} (hz : ∀ k, k < 23 → z k = mm 0 k) : INV K xx nn ii rr hh jj tx (ZZ mm z (mm 1)) := by
  have e : ∀ c, c ≠ 0 → ZZ mm z (mm 1) c = mm c := fun c hc => by
    by_cases q : c = 1
    · subst q; exact ZZ_1
    · unfold ZZ; rw [sr_n q, sr_n hc]
  exact h.to (Nat.le_refl _) (by rw [e 1 (by decide)]; exact h.2.1) (by rw [e 1 (by decide)]; exact h.2.2.1) (by rw [e 1 (by decide)]) (e 2 (by decide)) (e 3 (by decide)) (e 4 (by decide)) (by rw [ZZ_0]; exact hz 4 (by decide)) (by rw [ZZ_0]; exact hz 5 (by decide)) (by rw [ZZ_0]; exact hz 6 (by decide))
theorem T_is (hN : 300000 ≤ N) (h : INV K xx nn ii rr hh jj tx mm) (x1 : Int32) : ∃ r, fX11_is N x1 xx nn = some r ∧ fX12_is N x1 mm = some r := by
  have q : ∃ r, fX11_is N x1 xx nn = some r ∧ fX12_is N x1 (sr mm 1 (mm 1)) = some r := q_is h.2.1.1 x1
  rwa [sr_self] at q
theorem T_where (hN : 300000 ≤ N) (h : INV K xx nn ii rr hh jj tx mm) (x1 : Int32) : ∃ r, fX11_where N x1 xx nn = some r ∧ fX12_where N x1 mm = some r := by
  have q : ∃ r, fX11_where N x1 xx nn = some r ∧ fX12_where N x1 (sr mm 1 (mm 1)) = some r := q_where h.2.1.1 x1
  rwa [sr_self] at q
theorem T_heat (hN : 300000 ≤ N) (h : INV K xx nn ii rr hh jj tx mm) (x1 : Int32) : ∃ r, fX11_heat N x1 xx nn = some r ∧ fX12_heat N x1 mm = some r := by
  have q : ∃ r, fX11_heat N x1 xx nn = some r ∧ fX12_heat N x1 (sr mm 1 (mm 1)) = some r := q_heat h.2.1.1 x1
  rwa [sr_self] at q
theorem T_slot (hN : 300000 ≤ N) (h : INV K xx nn ii rr hh jj tx mm) (x1 x2 : Int32) : ∃ r, fX11_slot N x1 x2 xx nn = some r ∧ fX12_slot N x1 x2 mm = some r := by
  have q : ∃ r, fX11_slot N x1 x2 xx nn = some r ∧ fX12_slot N x1 x2 (sr mm 1 (mm 1)) = some r := q_slot h.2.1.1 h.2.1.2.1 x1 x2
  rwa [sr_self] at q
theorem T_on (hN : 300000 ≤ N) (h : INV K xx nn ii rr hh jj tx mm) (x1 x2 : Int32) : ∃ r, fX11_on N x1 x2 xx nn = some r ∧ fX12_on N x1 x2 mm = some r := by
  have q : ∃ r, fX11_on N x1 x2 xx nn = some r ∧ fX12_on N x1 x2 (sr mm 1 (mm 1)) = some r := q_on h.2.1.1 x1 x2
  rwa [sr_self] at q
theorem T_holder (hN : 300000 ≤ N) (h : INV K xx nn ii rr hh jj tx mm) (x1 : Int32) : ∃ r, fX11_holder N x1 xx nn = some r ∧ fX12_holder N x1 mm = some r := by
  have q : ∃ r, fX11_holder N x1 xx nn = some r ∧ fX12_holder N x1 (sr mm 1 (mm 1)) = some r := q_holder (by omega) h.2.1.1 h.2.1.2.1 x1
  rwa [sr_self] at q
theorem T_free (hN : 300000 ≤ N) (h : INV K xx nn ii rr hh jj tx mm) (x1 : Int32) : ∃ r, fX11_free N x1 xx nn = some r ∧ fX12_free N x1 mm = some r := by
  have q : ∃ r, fX11_free N x1 xx nn = some r ∧ fX12_free N x1 (sr mm 1 (mm 1)) = some r := q_free (by omega) h.2.1.1 h.2.1.2.1 x1
  rwa [sr_self] at q
theorem T_of (hN : 300000 ≤ N) (h : INV K xx nn ii rr hh jj tx mm) (x1 x2 : Int32) : ∃ r, fX11_of N x1 x2 xx nn = some r ∧ fX12_of N x1 x2 mm = some r := by
  have q : ∃ r, fX11_of N x1 x2 xx nn = some r ∧ fX12_of N x1 x2 (sr mm 1 (mm 1)) = some r := q_of h.2.1.1 x1 x2
  rwa [sr_self] at q
theorem T_head (hN : 300000 ≤ N) (h : INV K xx nn ii rr hh jj tx mm) (x1 x2 : Int32) : ∃ r, fX11_head N x1 x2 xx nn = some r ∧ fX12_head N x1 x2 mm = some r := by
  have q : ∃ r, fX11_head N x1 x2 xx nn = some r ∧ fX12_head N x1 x2 (sr mm 1 (mm 1)) = some r := q_head h.2.1.1 x1 x2
  rwa [sr_self] at q
theorem T_move (hN : 300000 ≤ N) (h : INV K xx nn ii rr hh jj tx mm) (x1 x2 : Int32) : ∃ r, fX11_move N x1 x2 xx nn = some r ∧ fX12_move N x1 x2 mm = some r := by
  have q : ∃ r, fX11_move N x1 x2 xx nn = some r ∧ fX12_move N x1 x2 (sr mm 1 (mm 1)) = some r := q_move (by omega) h.2.1.1 h.2.1.2.1 x1 x2
  rwa [sr_self] at q
theorem T_moveOf (hN : 300000 ≤ N) (h : INV K xx nn ii rr hh jj tx mm) (x1 : Int32) : ∃ r, fX11_moveOf N x1 xx nn = some r ∧ fX12_moveOf N x1 mm = some r := by
  have q : ∃ r, fX11_moveOf N x1 xx nn = some r ∧ fX12_moveOf N x1 (sr mm 1 (mm 1)) = some r := q_moveOf (by omega) h.2.1.1 h.2.1.2.1 x1
  rwa [sr_self] at q
theorem T_book (hN : 300000 ≤ N) (h : INV K xx nn ii rr hh jj tx mm) (x1 x2 : Int32) : ∃ r, fX11_book N x1 x2 xx nn = some r ∧ fX12_book N x1 x2 mm = some r := by
  have q : ∃ r, fX11_book N x1 x2 xx nn = some r ∧ fX12_book N x1 x2 (sr mm 1 (mm 1)) = some r := q_book h.2.1.1 x1 x2
  rwa [sr_self] at q
theorem T_ledger (hN : 300000 ≤ N) (h : INV K xx nn ii rr hh jj tx mm) (x1 : Int32) : ∃ r, fX11_ledger N x1 xx nn = some r ∧ fX12_ledger N x1 mm = some r := by
  have q : ∃ r, fX11_ledger N x1 xx nn = some r ∧ fX12_ledger N x1 (sr mm 1 (mm 1)) = some r := q_ledger (by omega) h.2.1.1 x1
  rwa [sr_self] at q
theorem T_gained (hN : 300000 ≤ N) (h : INV K xx nn ii rr hh jj tx mm) (x1 : Int32) : ∃ r, fX11_gained N x1 xx nn = some r ∧ fX12_gained N x1 mm = some r := by
  have q : ∃ r, fX11_gained N x1 xx nn = some r ∧ fX12_gained N x1 (sr mm 1 (mm 1)) = some r := q_gained h.2.1.1 h.2.1.2.1 x1
  rwa [sr_self] at q
theorem T_rank (hN : 300000 ≤ N) (h : INV K xx nn ii rr hh jj tx mm) (x1 : Int32) : ∃ r, fX11_rank N x1 xx nn = some r ∧ fX12_rank N x1 mm = some r := by
  have q : ∃ r, fX11_rank N x1 xx nn = some r ∧ fX12_rank N x1 (sr mm 1 (mm 1)) = some r := q_rank (by omega) h.2.1.1 x1
  rwa [sr_self] at q
theorem T_coldest (hN : 300000 ≤ N) (h : INV K xx nn ii rr hh jj tx mm) (x1 : Int32) : ∃ r, fX11_coldest N x1 xx nn = some r ∧ fX12_coldest N x1 mm = some r := by
  have q : ∃ r, fX11_coldest N x1 xx nn = some r ∧ fX12_coldest N x1 (sr mm 1 (mm 1)) = some r := q_coldest (by omega) h.2.1.1 h.2.1.2.1 x1
  rwa [sr_self] at q
theorem T_warmth (hN : 300000 ≤ N) (h : INV K xx nn ii rr hh jj tx mm) (x1 : Int32) : ∃ r, fX11_warmth N x1 xx nn = some r ∧ fX12_warmth N x1 mm = some r := by
  have q : ∃ r, fX11_warmth N x1 xx nn = some r ∧ fX12_warmth N x1 (sr mm 1 (mm 1)) = some r := q_warmth (by omega) h.2.1.1 x1
  rwa [sr_self] at q
theorem T_cools (hN : 300000 ≤ N) (h : INV K xx nn ii rr hh jj tx mm) (x1 : Int32) : ∃ r, fX11_cools N x1 xx nn = some r ∧ fX12_cools N x1 mm = some r := by
  have q : ∃ r, fX11_cools N x1 xx nn = some r ∧ fX12_cools N x1 (sr mm 1 (mm 1)) = some r := q_cools (by omega) h.2.1.1 h.2.1.2.1 x1
  rwa [sr_self] at q
theorem T_plan (hN : 300000 ≤ N) (h : INV K xx nn ii rr hh jj tx mm) : ∃ r p', fX11_plan N xx nn pp = some (r, p') ∧ fX12_plan N mm = some r := by
  have q : ∃ r p', fX11_plan N xx nn pp = some (r, p') ∧ fX12_plan N (sr mm 1 (mm 1)) = some r := q_plan (by omega) h.2.1.1 h.2.1.2.1
  rwa [sr_self] at q
theorem T_worth (hN : 300000 ≤ N) (h : INV K xx nn ii rr hh jj tx mm) (x1 : Int32) : ∃ r p', fX11_worth N x1 xx nn pp = some (r, p') ∧ fX12_worth N x1 mm = some r := by
  have q : ∃ r p', fX11_worth N x1 xx nn pp = some (r, p') ∧ fX12_worth N x1 (sr mm 1 (mm 1)) = some r := q_worth (by omega) h.2.1.1 h.2.1.2.1 x1
  rwa [sr_self] at q
theorem T_value (hN : 300000 ≤ N) (h : INV K xx nn ii rr hh jj tx mm) (x1 : Int32) : ∃ r p', fX11_value N x1 xx nn pp = some (r, p') ∧ fX12_value N x1 mm = some r := by
  have q : ∃ r p', fX11_value N x1 xx nn pp = some (r, p') ∧ fX12_value N x1 (sr mm 1 (mm 1)) = some r := q_value (by omega) h.2.1.1 h.2.1.2.1 x1
  rwa [sr_self] at q
theorem T_needs (hN : 300000 ≤ N) (h : INV K xx nn ii rr hh jj tx mm) (x1 : Int32) : ∃ r p', fX11_needs N x1 xx nn pp = some (r, p') ∧ fX12_needs N x1 mm = some r := by
  have q : ∃ r p', fX11_needs N x1 xx nn pp = some (r, p') ∧ fX12_needs N x1 (sr mm 1 (mm 1)) = some r := q_needs (by omega) h.2.1.1 h.2.1.2.1 x1
  rwa [sr_self] at q
theorem T_enough (hN : 300000 ≤ N) (h : INV K xx nn ii rr hh jj tx mm) : ∃ r p', fX11_enough N xx nn pp = some (r, p') ∧ fX12_enough N mm = some r := by
  have q : ∃ r p', fX11_enough N xx nn pp = some (r, p') ∧ fX12_enough N (sr mm 1 (mm 1)) = some r := q_enough (by omega) h.2.1.1 h.2.1.2.1
  rwa [sr_self] at q
theorem T_read (hN : 300000 ≤ N) (h : INV K xx nn ii rr hh jj tx mm) (x1 x2 : Int32) : ∃ r n1 h1 m1, fX11_read N x1 x2 xx nn hh = some (r, n1, h1) ∧ fX12_read N x1 x2 mm = some (r, m1) ∧ INV (K + 16200) xx n1 ii rr h1 jj tx m1 := by
  obtain ⟨r, n1, h1, a1, e1, e2, hA⟩ := t_read (N := N) (K := K) (nn := nn) (xx := xx) (mm := mm) (hh := hh) (a := mm 1) (by omega) h.2.1 h.2.2.1 x1 x2
  rw [sr_self] at e2
  exact ⟨r, n1, h1, _, e1, e2, (h.ac (by omega) hA).le (by omega)⟩
theorem T_write (hN : 300000 ≤ N) (h : INV K xx nn ii rr hh jj tx mm) (x1 x2 x3 : Int32) : ∃ r n1 h1 m1, fX11_write N x1 x2 x3 xx nn hh = some (r, n1, h1) ∧ fX12_write N x1 x2 x3 mm = some (r, m1) ∧ INV (K + 16200) xx n1 ii rr h1 jj tx m1 := by
  obtain ⟨r, n1, h1, a1, e1, e2, hA⟩ := t_write (N := N) (K := K) (nn := nn) (xx := xx) (mm := mm) (hh := hh) (a := mm 1) (by omega) h.2.1 h.2.2.1 x1 x2 x3
  rw [sr_self] at e2
  exact ⟨r, n1, h1, _, e1, e2, (h.ac (by omega) hA).le (by omega)⟩
theorem T_scan (hN : 300000 ≤ N) (h : INV K xx nn ii rr hh jj tx mm) (x1 x2 : Int32) : ∃ r n1 h1 m1, fX11_scan N x1 x2 xx nn hh = some (r, n1, h1) ∧ fX12_scan N x1 x2 mm = some (r, m1) ∧ INV (K + 16200) xx n1 ii rr h1 jj tx m1 := by
  obtain ⟨r, n1, h1, a1, e1, e2, hA⟩ := t_scan (N := N) (K := K) (nn := nn) (xx := xx) (mm := mm) (hh := hh) (a := mm 1) (by omega) h.2.1 h.2.2.1 x1 x2
  rw [sr_self] at e2
  exact ⟨r, n1, h1, _, e1, e2, (h.ac (by omega) hA).le (by omega)⟩
theorem T_pin (hN : 300000 ≤ N) (h : INV K xx nn ii rr hh jj tx mm) (x1 x2 : Int32) : ∃ r n1 h1 m1, fX11_pin N x1 x2 xx nn hh = some (r, n1, h1) ∧ fX12_pin N x1 x2 mm = some (r, m1) ∧ INV (K + 16200) xx n1 ii rr h1 jj tx m1 := by
  obtain ⟨r, n1, h1, a1, e1, e2, hA⟩ := t_pin (N := N) (K := K) (nn := nn) (xx := xx) (mm := mm) (hh := hh) (a := mm 1) (by omega) h.2.1 h.2.2.1 x1 x2
  rw [sr_self] at e2
  exact ⟨r, n1, h1, _, e1, e2, (h.ac (by omega) hA).le (by omega)⟩
theorem T_tell (hN : 300000 ≤ N) (h : INV K xx nn ii rr hh jj tx mm) (x1 x2 : Int32) : ∃ r n1 h1 m1, fX11_tell N x1 x2 xx nn hh = some (r, n1, h1) ∧ fX12_tell N x1 x2 mm = some (r, m1) ∧ INV (K + 16200) xx n1 ii rr h1 jj tx m1 := by
  obtain ⟨r, n1, h1, a1, e1, e2, hA⟩ := t_tell (N := N) (K := K) (nn := nn) (xx := xx) (mm := mm) (hh := hh) (a := mm 1) (by omega) h.2.1 h.2.2.1 x1 x2
  rw [sr_self] at e2
  exact ⟨r, n1, h1, _, e1, e2, (h.ac (by omega) hA).le (by omega)⟩
theorem T_ask (hN : 300000 ≤ N) (h : INV K xx nn ii rr hh jj tx mm) (x1 : Int32) : ∃ r n1 h1 m1, fX11_ask N x1 xx nn hh = some (r, n1, h1) ∧ fX12_ask N x1 mm = some (r, m1) ∧ INV (K + 16200) xx n1 ii rr h1 jj tx m1 := by
  obtain ⟨r, n1, h1, a1, e1, e2, hA⟩ := t_ask (N := N) (K := K) (nn := nn) (xx := xx) (mm := mm) (hh := hh) (a := mm 1) (by omega) h.2.1 h.2.2.1 x1
  rw [sr_self] at e2
  exact ⟨r, n1, h1, _, e1, e2, (h.ac (by omega) hA).le (by omega)⟩
theorem T_drop (hN : 300000 ≤ N) (h : INV K xx nn ii rr hh jj tx mm) (x1 : Int32) : ∃ r n1 h1 m1, fX11_drop N x1 xx nn hh = some (r, n1, h1) ∧ fX12_drop N x1 mm = some (r, m1) ∧ INV (K + 16200) xx n1 ii rr h1 jj tx m1 := by
  obtain ⟨r, n1, h1, a1, e1, e2, hA⟩ := t_drop (N := N) (K := K) (nn := nn) (xx := xx) (mm := mm) (hh := hh) (a := mm 1) (by omega) h.2.1 h.2.2.1 x1
  rw [sr_self] at e2
  exact ⟨r, n1, h1, _, e1, e2, (h.ac (by omega) hA).le (by omega)⟩
theorem T_crash (hN : 300000 ≤ N) (h : INV K xx nn ii rr hh jj tx mm) : ∃ r n1 h1 m1, fX11_crash N xx nn hh = some (r, n1, h1) ∧ fX12_crash N mm = some (r, m1) ∧ INV (K + 16200) xx n1 ii rr h1 jj tx m1 := by
  obtain ⟨r, n1, h1, a1, e1, e2, hA⟩ := t_crash (N := N) (K := K) (nn := nn) (xx := xx) (mm := mm) (hh := hh) (a := mm 1) (by omega) h.2.1 h.2.2.1
  rw [sr_self] at e2
  exact ⟨r, n1, h1, _, e1, e2, (h.ac (by omega) hA).le (by omega)⟩
theorem T_day (hN : 300000 ≤ N) (h : INV K xx nn ii rr hh jj tx mm) (x1 : Int32) : ∃ r n1 p1 h1 m1, fX11_day N x1 xx nn pp hh = some (r, n1, p1, h1) ∧ fX12_day N x1 mm = some (r, m1) ∧ INV (K + 16200) xx n1 ii rr h1 jj tx m1 := by
  obtain ⟨r, n1, p1, h1, m2, a1, e1, e2, hA, hf⟩ := t_day (N := N) (K := K) (nn := nn) (xx := xx) (mm := mm) (pp := pp) (hh := hh) (a := mm 1) (by omega) h.2.1 h.2.2.1 x1
  rw [sr_self] at e2
  exact ⟨r, n1, p1, h1, _, e1, e2, (h.fr (by omega) hA (fun c hc => hf c (by omega))).le (by omega)⟩
theorem T_years (hN : 300000 ≤ N) (h : INV K xx nn ii rr hh jj tx mm) (x1 x2 : Int32) : ∃ r n1 p1 h1 m1, fX11_years N x1 x2 xx nn pp hh = some (r, n1, p1, h1) ∧ fX12_years N x1 x2 mm = some (r, m1) ∧ INV (K + 16200) xx n1 ii rr h1 jj tx m1 := by
  obtain ⟨r, n1, p1, h1, m2, a1, e1, e2, hA, hf⟩ := t_years (N := N) (K := K) (nn := nn) (xx := xx) (mm := mm) (pp := pp) (hh := hh) (a := mm 1) (by omega) h.2.1 h.2.2.1 x1 x2
  rw [sr_self] at e2
  exact ⟨r, n1, p1, h1, _, e1, e2, (h.fr (by omega) hA (fun c hc => hf c (by omega))).le (by omega)⟩
theorem T_foretold (hN : 300000 ≤ N) (h : INV K xx nn ii rr hh jj tx mm) (x1 x2 : Int32) : ∃ r s1 p1 m1, fX11_foretold N x1 x2 xx nn ss pp = some (r, s1, p1) ∧ fX12_foretold N x1 x2 mm = some (r, m1) ∧ INV (K + 16200) xx nn ii rr hh jj tx m1 := by
  obtain ⟨r, s1, p1, m2, e1, e2, hf⟩ : ∃ r s1 p1 m2, fX11_foretold N x1 x2 xx nn ss pp = some (r, s1, p1) ∧ fX12_foretold N x1 x2 (sr mm 1 (mm 1)) = some (r, sr m2 1 (mm 1)) ∧ ∀ c, c ≠ 6 → c ≠ 10 → m2 c = mm c := q_foretold (by omega) h.2.1.1 h.2.1.2.1 x1 x2
  rw [sr_self] at e2
  exact ⟨r, s1, p1, _, e1, e2, h.fr (by omega) (AC.same h.2.1 h.2.2.1 (by omega)) (fun c hc => hf c (by omega) (by omega))⟩
theorem T_copies (hN : 300000 ≤ N) (h : INV K xx nn ii rr hh jj tx mm) (x1 : Int32) : ∃ r s1 p1 m1, fX11_copies N x1 xx nn ss pp = some (r, s1, p1) ∧ fX12_copies N x1 mm = some (r, m1) ∧ INV (K + 16200) xx nn ii rr hh jj tx m1 := by
  obtain ⟨r, s1, p1, m2, e1, e2, hf⟩ : ∃ r s1 p1 m2, fX11_copies N x1 xx nn ss pp = some (r, s1, p1) ∧ fX12_copies N x1 (sr mm 1 (mm 1)) = some (r, sr m2 1 (mm 1)) ∧ ∀ c, c ≠ 6 → c ≠ 10 → m2 c = mm c := q_copies (by omega) h.2.1.1 h.2.1.2.1 x1
  rw [sr_self] at e2
  exact ⟨r, s1, p1, _, e1, e2, h.fr (by omega) (AC.same h.2.1 h.2.2.1 (by omega)) (fun c hc => hf c (by omega) (by omega))⟩
theorem T_threshold (hN : 300000 ≤ N) (h : INV K xx nn ii rr hh jj tx mm) (x1 : Int32) : ∃ r p1 m1, fX11_threshold N x1 xx nn pp = some (r, p1) ∧ fX12_threshold N x1 mm = some (r, m1) ∧ INV (K + 16200) xx nn ii rr hh jj tx m1 := by
  obtain ⟨r, p1, z, e1, e2, hz⟩ : ∃ r p1 z, fX11_threshold N x1 xx nn pp = some (r, p1) ∧ fX12_threshold N x1 (sr mm 1 (mm 1)) = some (r, ZZ mm z (mm 1)) ∧ ∀ k, k < 23 → z k = mm 0 k := q_threshold (by omega) h.2.1.1 h.2.1.2.1 x1
  rw [sr_self] at e2
  exact ⟨r, p1, _, e1, e2, (h.zz hz).le (by omega)⟩
theorem T_displaced (hN : 300000 ≤ N) (h : INV K xx nn ii rr hh jj tx mm) (x1 : Int32) : ∃ r p1 m1, fX11_displaced N x1 xx nn pp = some (r, p1) ∧ fX12_displaced N x1 mm = some (r, m1) ∧ INV (K + 16200) xx nn ii rr hh jj tx m1 := by
  obtain ⟨r, p1, z, e1, e2, hz⟩ : ∃ r p1 z, fX11_displaced N x1 xx nn pp = some (r, p1) ∧ fX12_displaced N x1 (sr mm 1 (mm 1)) = some (r, ZZ mm z (mm 1)) ∧ ∀ k, k < 23 → z k = mm 0 k := q_displaced (by omega) h.2.1.1 h.2.1.2.1 x1
  rw [sr_self] at e2
  exact ⟨r, p1, _, e1, e2, (h.zz hz).le (by omega)⟩
theorem T_position (x1 x2 : Int32) : fX11_position N x1 x2 xx = some (fX12_position x1 x2 mm) := q_position x1 x2
theorem T_may (hN : 300000 ≤ N) (h : INV K xx nn ii rr hh jj tx mm) (x1 : Int32) (c0 : Bool) : ∃ r p', fX11_may N x1 (b2i c0) xx nn pp = some (r, p') ∧ fX12_may N x1 (b2i c0) mm = some r := by
  have q : ∃ r p', fX11_may N x1 (b2i c0) xx nn pp = some (r, p') ∧ fX12_may N x1 (b2i c0) (sr mm 1 (mm 1)) = some r := q_may (by omega) h.2.1.1 h.2.1.2.1 x1 c0
  rwa [sr_self] at q
theorem T_next (hN : 300000 ≤ N) (h : INV K xx nn ii rr hh jj tx mm) (x1 : Int32) : ∃ r p1 m1, fX11_next N x1 xx nn pp = some (r, p1) ∧ fX12_next N x1 mm = some (r, m1) ∧ INV (K + 16200) xx nn ii rr hh jj tx m1 := by
  obtain ⟨r, p1, F, e1, e2⟩ : ∃ r p' F, fX11_next N x1 xx nn pp = some (r, p') ∧ fX12_next N x1 (sr mm 1 (mm 1)) = some (r, MM mm F (mm 1)) := q_next (by omega) h.2.1.1 h.2.1.2.1 x1
  rw [sr_self] at e2
  exact ⟨r, p1, _, e1, e2, h.fr (by omega) (AC.same h.2.1 h.2.2.1 (by omega)) (m2 := sr mm 6 F) (fun c hc => sr_n (by omega))⟩
theorem T_undo (hN : 300000 ≤ N) (h : INV K xx nn ii rr hh jj tx mm) : ∃ r n1 h1 m1, fX11_undo N xx nn hh = some (r, n1, h1) ∧ fX12_undo N mm = some (r, m1) ∧ INV (K + 16200) xx n1 ii rr h1 jj tx m1 := by
  obtain ⟨r, n1, h1, a1, e1, e2, g1, g2, g3⟩ := undo_ok (N := N) (K := K) (w := nn) (mm := mm) (xx := xx) (h := hh) (a := mm 1) (by omega) h.2.2.1 h.2.1
  rw [sr_self] at e2
  exact ⟨r, n1, h1, _, e1, e2, (h.ac (L := K) (Nat.le_refl _) ⟨g2, g1, g3⟩).le (by omega)⟩
theorem T_feed (hN : 300000 ≤ N) (h : INV K xx nn ii rr hh jj tx mm) (x1 x2 x3 x4 x5 : Int32) : ∃ r r1 m1, fX11_feed N x1 x2 x3 x4 x5 xx rr = some (r, r1) ∧ fX12_feed N x1 x2 x3 x4 x5 mm = some (r, m1) ∧ INV (K + 16200) xx nn ii r1 hh jj tx m1 := by
  obtain ⟨⟨t, a1, a2, a3, a4, a5, a6, a7, a8⟩, h2, h3, h4, h5⟩ := h
  obtain ⟨r, r1, m1, e1, e2, g1, f1, f2, f3, f4⟩ := t_feed (N := N) (xx := xx) (by omega) a5 x1 x2 x3 x4 x5
  refine ⟨r, r1, m1, e1, e2, ⟨t, a1, a2, ?_, ?_, g1, ?_, ?_, fun j hj => ?_⟩, ?_, ?_, ?_, ?_⟩
  · rw [f3 2 (by decide) (by decide)]; exact a3
  · rw [f3 1 (by decide) (by decide)]; exact a4
  · rw [f2 2 (by decide), f4 5 (by decide)]; exact a6
  · rw [f2 3 (by decide), f4 6 (by decide)]; exact a7
  · obtain ⟨tn, K, W, F, tt, b1, b2, b3, b4⟩ := a8 j hj
    exact ⟨tn, K, W, F, tt, b1, b2, b3, by unfold MTx; rw [f3 3 (by decide) (by decide)]; exact b4⟩
  · rw [f3 1 (by decide) (by decide)]; exact RK_le h2 (by omega)
  · rw [f3 1 (by decide) (by decide)]; exact RHi_le h3 (by omega)
  · rw [f3 2 (by decide) (by decide)]; exact RK_le h4 (by omega)
  · rw [f3 2 (by decide) (by decide)]; exact RHi_le h5 (by omega)
theorem T_end (h : INV K xx nn ii rr hh jj tx mm) (x1 : Int32) : ∃ r r1 m1, fX11_end x1 xx rr = (r, r1) ∧ fX12_end x1 mm = (r, m1) ∧ INV (K + 16200) xx nn ii r1 hh jj tx m1 := by
  obtain ⟨⟨t, a1, a2, a3, a4, a5, a6, a7, a8⟩, h2, h3, h4, h5⟩ := h
  obtain ⟨r, r1, m1, e1, e2, g1, f1, f2, f3, f4⟩ := t_end (xx := xx) a5 x1
  refine ⟨r, r1, m1, e1, e2, ⟨t, a1, a2, ?_, ?_, g1, ?_, ?_, fun j hj => ?_⟩, ?_, ?_, ?_, ?_⟩
  · rw [f3 2 (by decide) (by decide)]; exact a3
  · rw [f3 1 (by decide) (by decide)]; exact a4
  · rw [f2 2 (by decide), f4 5 (by decide)]; exact a6
  · rw [f2 3 (by decide), f4 6 (by decide)]; exact a7
  · obtain ⟨tn, K, W, F, tt, b1, b2, b3, b4⟩ := a8 j hj
    exact ⟨tn, K, W, F, tt, b1, b2, b3, by unfold MTx; rw [f3 3 (by decide) (by decide)]; exact b4⟩
  · rw [f3 1 (by decide) (by decide)]; exact RK_le h2 (by omega)
  · rw [f3 1 (by decide) (by decide)]; exact RHi_le h3 (by omega)
  · rw [f3 2 (by decide) (by decide)]; exact RK_le h4 (by omega)
  · rw [f3 2 (by decide) (by decide)]; exact RHi_le h5 (by omega)
theorem T_fault (h : INV K xx nn ii rr hh jj tx mm) (x1 : Int32) : fX11_fault x1 xx rr = fX12_fault x1 mm := by
  obtain ⟨⟨t, a1, a2, a3, a4, a5, a6, a7, a8⟩, -⟩ := h
  exact t_fault a6 a7 x1
theorem T_about (h : INV K xx nn ii rr hh jj tx mm) (x1 : Int32) : fX11_about x1 xx rr hh = fX12_about x1 mm := by
  obtain ⟨⟨t, a1, a2, a3, a4, ⟨n, n1, n2, n3, n4⟩, a6, a7, a8⟩, -, ⟨f, F, s, -, -, -, -, q5, -, q7, -⟩, -⟩ := h
  exact t_about (a2.trans a4.symm) (q5.trans q7.symm) (n2.trans n3.symm) x1
theorem T_image (hN : 300000 ≤ N) (h : INV K xx nn ii rr hh jj tx mm) : ∃ r x1 i1 j1 m1, fX11_image N xx nn ii hh jj = some (r, x1, i1, j1) ∧ fX12_image N mm = some (r, m1) ∧ INV (K + 16200) x1 nn i1 rr hh j1 tx m1 := by
  obtain ⟨⟨t, a1, a2, a3, a4, a5, a6, a7, a8⟩, h2, h3, h4, h5⟩ := h
  obtain ⟨i1, j1, m1, e1, e2, g1, g2, g3, g4⟩ := image_ok (N := N) (K := K) (nn := nn) (ii := ii) (xx := xx) (mm := mm) (hh := hh) (jj := jj) (by omega) h2 h3
  refine ⟨_, _, i1, j1, m1, e1, e2, ⟨t, a1, ?_, ⟨t, Nat.le_refl _, ?_, ?_⟩, ?_, ?_, ?_, ?_, fun j hj => ?_⟩, ?_, ?_, RK_le g1 (by omega), RHi_le g2 (by omega)⟩
  · rw [sr_e, upd_n (by decide)]; exact a2
  · rw [sr_e, upd_e]; exact a2
  · rw [g3]; exact a4
  · rw [g4 1 (by decide)]; exact a4
  · obtain ⟨n, n1, n2, n3, n4⟩ := a5
    exact ⟨n, n1, n2, by rw [g4 0 (by decide)]; exact n3, by rw [g4 4 (by decide)]; exact n4⟩
  · rw [g4 0 (by decide)]; exact a6
  · rw [g4 0 (by decide)]; exact a7
  · obtain ⟨tn, K, W, F, tt, b1, b2, b3, b4⟩ := a8 j hj
    exact ⟨tn, K, W, F, tt, b1, b2, b3, by unfold MTx; rw [g4 3 (by decide)]; exact b4⟩
  · rw [g4 1 (by decide)]; exact RK_le h2 (by omega)
  · rw [g4 1 (by decide)]; exact RHi_le h3 (by omega)
theorem T_back (hN : 300000 ≤ N) (h : INV K xx nn ii rr hh jj tx mm) : ∃ r x1 n1 h1 m1, fX11_back N xx nn ii hh jj = some (r, x1, n1, h1) ∧ fX12_back N mm = some (r, m1) ∧ INV (K + 16200) x1 n1 ii rr h1 jj tx m1 := by
  obtain ⟨⟨t, a1, a2, ⟨u, u1, u2, u3⟩, a4, a5, a6, a7, a8⟩, h2, h3, h4, h5⟩ := h
  obtain ⟨n1, h1, m1, e1, e2, g1, g2, g3, g4⟩ := back_ok (N := N) (K := K) (nn := nn) (ii := ii) (xx := xx) (mm := mm) (hh := hh) (jj := jj) (by omega) h4 h5
  refine ⟨_, _, n1, h1, m1, e1, e2, ⟨u, by omega, ?_, ⟨u, Nat.le_refl _, ?_, ?_⟩, ?_, ?_, ?_, ?_, fun j hj => ?_⟩, RK_le g1 (by omega), RHi_le g2 (by omega), ?_, ?_⟩
  · rw [sr_e, upd_e]; exact u2
  · rw [sr_e, upd_n (by decide)]; exact u2
  · rw [g4 2 (by decide)]; exact u3
  · rw [g3]; exact u3
  · obtain ⟨n, n1, n2, n3, n4⟩ := a5
    exact ⟨n, n1, n2, by rw [g4 0 (by decide)]; exact n3, by rw [g4 4 (by decide)]; exact n4⟩
  · rw [g4 0 (by decide)]; exact a6
  · rw [g4 0 (by decide)]; exact a7
  · obtain ⟨tn, K, W, F, tt, b1, b2, b3, b4⟩ := a8 j (by omega)
    exact ⟨tn, K, W, F, tt, b1, b2, b3, by unfold MTx; rw [g4 3 (by decide)]; exact b4⟩
  · rw [g4 2 (by decide)]; exact RK_le h4 (by omega)
  · rw [g4 2 (by decide)]; exact RHi_le h5 (by omega)
/-! texts -/
theorem textAt_c (h : INV K xx nn ii rr hh jj tx mm) (ta : Nat → Nat → Nat) (x1 : Int32) : (fX11_textAt x1 (tfOf ta tx) xx = some none ∧ fX12_isIn x1 0 ((mm 1 0) - 1) = 0) ∨ ∃ j, j < 4 ∧ x1 = nI j ∧ fX12_isIn x1 0 ((mm 1 0) - 1) = 1 ∧ ∃ tn K W F tt, tx j = some (tn, tt) ∧ fX11_textAt x1 (tfOf ta tx) xx = some (some (ta j 0)) ∧ CTx tn K F tt ∧ TSH tn K W F ∧ MTx (602 * j) tn K W mm := by
  obtain ⟨⟨t, a1, a2, a3, a4, a5, a6, a7, a8⟩, -⟩ := h
  rw [a4]
  rcases isIn1 x1 (h := t) (by omega) with ⟨g1, g2⟩ | ⟨j, hj, rfl, g1⟩
  · refine Or.inl ⟨?_, g1⟩
    unfold fX11_textAt
    rcases g2 with g2 | ⟨g2, g3⟩
    · rw [if_pos g2]
    · rw [if_neg g2, a2, if_pos g3]
  · obtain ⟨tn, K, W, F, tt, b1, b2, b3, b4⟩ := a8 j hj
    refine Or.inr ⟨j, by omega, rfl, g1, tn, K, W, F, tt, b1, ?_, b2, b3, b4⟩
    have e := textAt_yes (ta := ta) (tx := tx) (x := nI j) (xx := xx) (q := (tn, tt)) (inb_nI (by omega) (by decide)) (by rw [a2]; exact nI_ge hj (by omega)) (by rw [cl_nI (by omega)]; exact b1)
    rw [cl_nI (by omega)] at e
    exact e
theorem frP_k {m1 m2 : RS} (hf : frP m1 m2) : m2 2 = m1 2 ∧ m2 3 = m1 3 ∧ m2 4 = m1 4 ∧ m2 10 = m1 10 ∧ m2 0 4 = m1 0 4 ∧ m2 0 5 = m1 0 5 ∧ m2 0 6 = m1 0 6 := ⟨hf.1 2 (by decide) (by decide) (by decide) (by decide) (by decide) (by decide), hf.1 3 (by decide) (by decide) (by decide) (by decide) (by decide) (by decide), hf.1 4 (by decide) (by decide) (by decide) (by decide) (by decide) (by decide), hf.1 10 (by decide) (by decide) (by decide) (by decide) (by decide) (by decide), hf.2 4 (by decide) (by decide) (by decide) (by decide) (by decide), hf.2 5 (by decide) (by decide) (by decide) (by decide) (by decide), hf.2 6 (by decide) (by decide) (by decide) (by decide) (by decide)⟩
theorem T_played (hN : 300000 ≤ N) (h : INV K xx nn ii rr hh jj tx mm) (ta : Nat → Nat → Nat) (x1 : Int32) : (fX11_textAt x1 (tfOf ta tx) xx = some none ∧ fX12_played N x1 mm = some ((-1), mm)) ∨ ∃ j q r y1 n1 p1 h1 m1, j < 4 ∧ tx j = some q ∧ fX11_textAt x1 (tfOf ta tx) xx = some (some (ta j 0)) ∧ fX4_push N nn hh = some h1 ∧ fX7_play N q.1 yy nn pp q.2 = some (r, y1, n1, p1) ∧ fX12_played N x1 mm = some (r, m1) ∧ INV (K + 16200) xx n1 ii rr h1 jj tx m1 := by
  rcases textAt_c h ta x1 with ⟨g1, g2⟩ | ⟨j, hj, rfl, g2, tn, KK, W, F, tt, b1, b2, b3, b4, b5⟩
  · refine Or.inl ⟨g1, ?_⟩
    unfold fX12_played
    rw [g2, if_pos rfl]
  · obtain ⟨h1, a1, k1, k2, k3, k4, k5⟩ := ahead (N := N) (K := K) (nn := nn) (mm := mm) (hh := hh) (a := mm 1) (by omega) h.2.1 h.2.2.1
    rw [sr_self] at k2
    have hM : MTx (602 * j) tn KK W (sr mm 1 a1) := by unfold MTx; rw [sr_n (by decide)]; exact b5
    obtain ⟨q, y1, n1, p1, m1, s1, s2, s3, s4, s5⟩ := play_ok (N := N) (ww := nn) (pp := pp) (yy := yy) (tt := tt) (mm := sr mm 1 a1) hN hj b3 b4 hM (by rw [sr_e]; exact k5) h.2.1.2.1
    rw [sr_e] at s4
    obtain ⟨f2, f3, f4, -, g4, g5, g6⟩ := frP_k s5
    have hA : AC (K + 16200) n1 h1 (mm 1) (m1 1) := AC.fin h.2.1.2.2 k3 k4 s4 (Nat.le_refl _)
    refine Or.inr ⟨j, (tn, tt), nI q, y1, n1, p1, h1, m1, hj, b1, b2, k1, s1, ?_, ?_⟩
    · unfold fX12_played
      rw [g2, if_neg (by decide), k2, bnd_s, s2, bnd_s]
    · exact h.to (by omega) hA.1 hA.2.1 hA.2.2 (by rw [f2, sr_n (by decide)]) (by rw [f3, sr_n (by decide)]) (by rw [f4, sr_n (by decide)]) (by rw [g4, sr_n (by decide)]) (by rw [g5, sr_n (by decide)]) (by rw [g6, sr_n (by decide)])
theorem would_ok (hN : 300000 ≤ N) (h : INV K xx nn ii rr hh jj tx mm) {j tn : Nat} {KK W : Nat → Nat} {F : Nat → Int32} {tt s1 : RS} (hj : j < 4) (hs : s1 = fX10_copyFrom ss nn) (g2 : fX12_isIn (nI j) 0 ((mm 1 0) - 1) = 1) (b3 : CTx tn KK F tt) (b4 : TSH tn KK W F) (b5 : MTx (602 * j) tn KK W mm) : ∃ r y1 w1 p1 m1, fX7_play N tn yy s1 pp tt = some (r, y1, w1, p1) ∧ fX12_would N (nI j) mm = some ((w1 1 3) - (nn 1 3), m1) ∧ upto (K + 16200) (w1 1 3) ∧ INV K xx nn ii rr hh jj tx m1 := by
  have hr2 : RW s1 (mm 1) := by rw [hs]; exact RW_EW (copy_EW ss nn) (fun _ _ _ => rfl) h.2.1.1
  have hi2 : IW s1 := by rw [hs]; exact IW_EW (copy_EW ss nn) h.2.1.2.1
  obtain ⟨mA, emA⟩ : ∃ mA, mA = sr (sr mm 10 (va_cpy (mm 1) (mm 10) 3 0 347)) 1 (mm 1) := ⟨_, rfl⟩
  have hput : fX12_putAside N mm = some mA := by
    have := aside_ok (N := N) (mm := mm) (a := mm 1) (by omega)
    rw [sr_self] at this
    rw [emA]
    exact this
  have mA1 : mA 1 = mm 1 := by rw [emA, sr_e]
  have mA10 : mA 10 = va_cpy (mm 1) (mm 10) 3 0 347 := by rw [emA, sr_n (by decide), sr_e]
  have mAo : ∀ c, c ≠ 1 → c ≠ 10 → mA c = mm c := fun c c1 c2 => by rw [emA, sr_n c1, sr_n c2]
  have hM : MTx (602 * j) tn KK W mA := by unfold MTx; rw [mAo 3 (by decide) (by decide)]; exact b5
  obtain ⟨q, y1, w1, p1, m1, k1, k2, k3, k4, k5⟩ := play_ok (N := N) (ww := s1) (pp := pp) (yy := yy) (tt := tt) (mm := mA) hN hj b3 b4 hM (by rw [mA1]; exact hr2) hi2
  rw [mA1] at k4
  obtain ⟨f2, f3, f4, f10, g4, g5, g6⟩ := frP_k k5
  have hb : fX12_bringBack N m1 = some (sr m1 1 (mm 1)) := by
    have := bring_ok (N := N) (mm := m1) (a := mm 1) (b := m1 1) (by omega) (fun k hk => by rw [f10, mA10, pk_cpy_in (Nat.zero_le _) (by omega)]; congr 1) k4.2.2.1
    rw [sr_self] at this
    exact this
  have c6 : mm 1 6 = nn 1 3 := (row13_iff.mp h.2.1.1.1).2.2.2.1
  have d6 : m1 1 6 = w1 1 3 := (row13_iff.mp k4.1.1).2.2.2.1
  refine ⟨nI q, y1, w1, p1, sr m1 1 (mm 1), k1, ?_, (k4.2.2.2 K (by rw [hs]; exact IK_EW (copy_EW ss nn) h.2.1.2.2)).1, ?_⟩
  · unfold fX12_would
    rw [g2, if_neg (by decide), hput, bnd_s, thn_e, k2, bnd_s, thn_e, hb, bnd_s, mA1, c6]
    show some (m1 1 6 - nn 1 3, sr m1 1 (mm 1)) = _
    rw [d6]
  · refine h.to (Nat.le_refl _) (by rw [sr_e]; exact h.2.1) (by rw [sr_e]; exact h.2.2.1) (by rw [sr_e]) ?_ ?_ ?_ ?_ ?_ ?_
    · rw [sr_n (by decide), f2, mAo 2 (by decide) (by decide)]
    · rw [sr_n (by decide), f3, mAo 3 (by decide) (by decide)]
    · rw [sr_n (by decide), f4, mAo 4 (by decide) (by decide)]
    · rw [sr_n (by decide), g4, mAo 0 (by decide) (by decide)]
    · rw [sr_n (by decide), g5, mAo 0 (by decide) (by decide)]
    · rw [sr_n (by decide), g6, mAo 0 (by decide) (by decide)]
theorem T_would (hN : 300000 ≤ N) (h : INV K xx nn ii rr hh jj tx mm) (ta : Nat → Nat → Nat) (x1 : Int32) : (fX11_textAt x1 (tfOf ta tx) xx = some none ∧ fX12_would N x1 mm = some ((-1), mm)) ∨ ∃ j q r y1 s1 w1 p1 m1, j < 4 ∧ tx j = some q ∧ fX11_textAt x1 (tfOf ta tx) xx = some (some (ta j 0)) ∧ fX10_copyFrom ss nn = s1 ∧ fX7_play N q.1 yy s1 pp q.2 = some (r, y1, w1, p1) ∧ fX12_would N x1 mm = some ((w1 1 3) - (nn 1 3), m1) ∧ INV (K + 16200) xx nn ii rr hh jj tx m1 := by
  rcases textAt_c h ta x1 with ⟨g1, g2⟩ | ⟨j, hj, rfl, g2, tn, KK, W, F, tt, b1, b2, b3, b4, b5⟩
  · refine Or.inl ⟨g1, ?_⟩
    unfold fX12_would
    rw [g2, if_pos rfl]
  · obtain ⟨r, y1, w1, p1, m1, k1, k2, -, k3⟩ := would_ok (ss := ss) (pp := pp) (yy := yy) hN h hj rfl g2 b3 b4 b5
    exact Or.inr ⟨j, (tn, tt), r, y1, _, w1, p1, m1, hj, b1, b2, rfl, k1, k2, k3.le (by omega)⟩
theorem subcmp {A B C : Nat} (hA : A < 100000000) (hB : B < 100000000) (hC : C < 100000000) : nI C - nI B < nI A - nI B ↔ C < A := by
  have e : ∀ X : Nat, X < 100000000 → (nI X - nI B).toInt = (X : Int) - (B : Int) := fun X hX => by
    have h1 := nI_toInt (n := X) (by omega)
    have h2 := nI_toInt (n := B) (by omega)
    rw [xsub (by rw [h1, h2]; omega) (by rw [h1, h2]; omega), h1, h2]
  rw [Int32.lt_iff_toInt_lt, e C hC, e A hA]
  omega
theorem T_cheapest (hN : 300000 ≤ N) (h : INV K xx nn ii rr hh jj tx mm) (hK : K < 2 ^ 24) : ∃ r y1 s1 p1 m1, fX11_cheapest_L6 N tx xx nn N (-1) 0 0 yy ss pp = some (r, y1, s1, p1) ∧ fX12_cheapest N mm = some (r, m1) ∧ INV (K + 16200) xx nn ii rr hh jj tx m1 := by
  obtain ⟨t, ht, e7⟩ : ∃ t, t ≤ 4 ∧ xx 0 7 = nI t := ⟨h.1.choose, h.1.choose_spec.1, h.1.choose_spec.2.1⟩
  obtain ⟨B, hB, eB⟩ := h.2.1.2.2.1
  have key : ∀ (d i k k2 : Nat) (x1 x2 x3 : Int32) (yy ss pp mm : RS), t - i = d → i ≤ t → d < k → d < k2 → INV K xx nn ii rr hh jj tx mm → (x1 = -1 ∨ (x1 ≠ -1 ∧ ∃ A, A ≤ K + 16200 ∧ x2 = nI A ∧ x3 = nI A - nI B)) →
      ∃ r y1 s1 p1 m1, fX11_cheapest_L6 N tx xx nn k x1 x2 (nI i) yy ss pp = some (r, y1, s1, p1) ∧ fX12_cheapest_L6 N k2 x1 x3 (nI i) mm = some (r, m1) ∧ INV K xx nn ii rr hh jj tx m1 := by
    intro d
    induction d with
    | zero =>
      intro i k k2 x1 x2 x3 yy ss pp mm h1 h2 h3 h4 hI hx
      obtain ⟨k, rfl⟩ : ∃ q, k = q + 1 := ⟨k - 1, by omega⟩
      obtain ⟨k2, rfl⟩ : ∃ q, k2 = q + 1 := ⟨k2 - 1, by omega⟩
      have : i = t := by omega
      subst this
      obtain ⟨t', c1, c2, c3, c4, -⟩ := hI.1
      have e : mm 1 0 = nI i := c4.trans (c2.symm.trans e7)
      exact ⟨x1, yy, ss, pp, mm, by rw [fX11_cheapest_L6, e7, if_pos (Int32.le_refl _)], by rw [fX12_cheapest_L6, e, if_pos (Int32.le_refl _)], hI⟩
    | succ d ih =>
      intro i k k2 x1 x2 x3 yy ss pp mm h1 h2 h3 h4 hI hx
      obtain ⟨k, rfl⟩ : ∃ q, k = q + 1 := ⟨k - 1, by omega⟩
      obtain ⟨k2, rfl⟩ : ∃ q, k2 = q + 1 := ⟨k2 - 1, by omega⟩
      obtain ⟨t', c1, c2, c3, c4, c5, c6, c7, c8⟩ := id hI.1
      have e : mm 1 0 = nI t := c4.trans (c2.symm.trans e7)
      have et : t' = t := (eq_nI (by omega) (by omega)).mp (c2.symm.trans e7)
      have hlt : ¬ nI t ≤ nI i := nI_ge (by omega) (by omega)
      obtain ⟨tn, KK, W, F, tt, b1, b2, b3, b4⟩ := c8 i (by omega)
      have g2 : fX12_isIn (nI i) 0 ((mm 1 0) - 1) = 1 := by
        rw [e]
        rcases isIn1 (nI i) (h := t) (by omega) with ⟨-, g | ⟨-, g⟩⟩ | ⟨j, hj, e2, g⟩
        · exact absurd g (nI_pos (by omega))
        · exact absurd g hlt
        · exact g
      obtain ⟨r, y1, w1, p1, m1, k1, k3, ⟨C, hC, eC⟩, k4⟩ := would_ok (ss := ss) (pp := pp) (yy := yy) hN hI (by omega) rfl g2 b2 b3 b4
      have hc : fX11_cheapest_L6 N tx xx nn (k + 1) x1 x2 (nI i) yy ss pp = if x1 = (-1) then (fX11_cheapest_L6 N tx xx nn k (nI i) (nI C) (nI (i + 1)) y1 w1 p1) else (if x2 ≤ nI C then (fX11_cheapest_L6 N tx xx nn k x1 x2 (nI (i + 1)) y1 w1 p1) else (fX11_cheapest_L6 N tx xx nn k (nI i) (nI C) (nI (i + 1)) y1 w1 p1)) := by
        rw [fX11_cheapest_L6, e7, if_neg hlt, inb_nI (by omega) (by decide), ck_t, cl_nI (by omega), b1, bnd_s, thn_e, k1, bnd_s, j1]
        simp only [eC]
      have hm : fX12_cheapest_L6 N (k2 + 1) x1 x3 (nI i) mm = if x1 = (-1) then (fX12_cheapest_L6 N k2 (nI i) (nI C - nI B) (nI (i + 1)) m1) else (if nI C - nI B < x3 then (fX12_cheapest_L6 N k2 (nI i) (nI C - nI B) (nI (i + 1)) m1) else (fX12_cheapest_L6 N k2 x1 x3 (nI (i + 1)) m1)) := by
        rw [fX12_cheapest_L6, e, if_neg hlt, k3, bnd_s, eC, eB]
        unfold fX12_cheapest_L37 fX12_cheapest_L42
        rw [j1]
      have hi1 : nI i ≠ -1 := ne_m1 (by omega)
      rw [hc, hm]
      rcases hx with rfl | ⟨q1, A, hA, rfl, rfl⟩
      · rw [if_pos rfl, if_pos rfl]
        exact ih (i + 1) k k2 _ _ _ y1 w1 p1 m1 (by omega) (by omega) (by omega) (by omega) k4 (Or.inr ⟨hi1, C, hC, rfl, rfl⟩)
      · rw [if_neg q1, if_neg q1]
        by_cases q : A ≤ C
        · rw [if_pos ((le_nI (by omega) (by omega)).mpr q), if_neg (fun z => by have := (subcmp (by omega) (by omega) (by omega)).mp z; omega)]
          exact ih (i + 1) k k2 _ _ _ y1 w1 p1 m1 (by omega) (by omega) (by omega) (by omega) k4 (Or.inr ⟨q1, A, hA, rfl, rfl⟩)
        · rw [if_neg (fun z => q ((le_nI (by omega) (by omega)).mp z)), if_pos ((subcmp (by omega) (by omega) (by omega)).mpr (by omega))]
          exact ih (i + 1) k k2 _ _ _ y1 w1 p1 m1 (by omega) (by omega) (by omega) (by omega) k4 (Or.inr ⟨hi1, C, hC, rfl, rfl⟩)
  obtain ⟨r, y1, s1, p1, m1, k1, k2, k3⟩ := key t 0 N N (-1) 0 0 yy ss pp mm rfl (by omega) (by omega) (by omega) h (Or.inl rfl)
  exact ⟨r, y1, s1, p1, m1, k1, k2, k3.le (by omega)⟩
/-- a text read -/
theorem T_text (hN : 300000 ≤ N) (h : INV K xx nn ii rr hh jj tx mm) : (¬ (xx 0 7) < 4 ∧ fX12_text N mm = some ((-1), mm)) ∨ (∃ r1 m1, (xx 0 7) < 4 ∧ fX8_parse N rr = some r1 ∧ r1 0 2 ≠ 0 ∧ fX12_text N mm = some ((-1), m1) ∧ INV (K + 16200) xx nn ii r1 hh jj tx m1) ∨ ∃ t n r1 m1, t < 4 ∧ n ≤ 300 ∧ xx 0 7 = nI t ∧ fX8_parse N rr = some r1 ∧ r1 0 2 = 0 ∧ r1 0 7 = nI (n + 1) ∧ fX12_text N mm = some (nI t, m1) ∧ INV (K + 16200) (st xx 0 7 (nI (t + 1))) nn ii r1 hh jj (fun i => if i = t then some (n, tRS r1 n) else tx i) m1 := by
  obtain ⟨⟨t, a1, a2, a3, a4, ⟨n0, hT⟩, a6, a7, a8⟩, h2, h3, h4, h5⟩ := id h
  by_cases c4 : t = 4
  · subst c4
    refine Or.inl ⟨by rw [a2]; decide, ?_⟩
    unfold fX12_text
    rw [a4, if_pos (show nI 4 = 4 from rfl)]
  · have ht : t < 4 := by omega
    have hne : ¬ nI t = 4 := fun q => c4 ((eq_4 (by omega)).mp q)
    rcases parse_ok (N := N) (by omega) hT ht a4 with ⟨tn, KK, W, r1, m1, p0, p1, p2, ⟨f1, f2, f3⟩, p4, p5, p6, p7, p8, p9, p10⟩ | ⟨f, r1, m1, p1, p2, ⟨f1, f2, f3⟩, p3, p3', p4, p5, p6⟩
    · right; right
      obtain ⟨m5, em5⟩ : ∃ m5, m5 = sr m1 0 (upd (upd (upd (m1 0) 5 0) 6 (-1)) 4 0) := ⟨_, rfl⟩
      have e1 : m1 1 = mm 1 := f2 1 (by decide) (by decide) (by decide)
      have e2 : m1 2 = mm 2 := f2 2 (by decide) (by decide) (by decide)
      have s1' : m5 1 = mm 1 := by rw [em5, sr_n (by decide), e1]
      have hx : fX12_text N mm = some (nI t, sr m5 1 (upd (mm 1) 0 (nI (t + 1)))) := by
        unfold fX12_text
        rw [a4, if_neg hne, p2, bnd_s, thn_e, st_e, upd_e, if_pos rfl]
        unfold fX12_text_L36
        have e5 : st (st (st m1 0 5 0) 0 6 (-1)) 0 4 0 = m5 := by rw [em5, st_d, st_d, st_d, sr_e, sr_e, sr_sr, sr_sr]
        rw [thn_e, thn_e, e5, show m5 0 5 = 0 from by rw [em5, sr_e, upd_n (by decide), upd_n (by decide), upd_e], if_pos rfl, thn_e, s1', a4, j1, st_d, s1', sr_e, upd_e]
        exact congrArg (fun v => some (v, sr m5 1 (upd (mm 1) 0 (nI (t + 1))))) (s1 (k := t + 1) (by omega))
      have hRK : ∀ (L : Nat) (w : RS), RK L w (mm 1) → RK L w (upd (mm 1) 0 (nI (t + 1))) := fun L w hw => RK_EW EW.rf (fun k k1 k2 => upd_n (by omega)) hw
      have hRH : ∀ (L : Nat) (w : HS), RHi L w (mm 1) → RHi L w (upd (mm 1) 0 (nI (t + 1))) := fun L w hw => RHi_cg (fun k hk => upd_n (by omega)) hw
      have o2 : sr m5 1 (upd (mm 1) 0 (nI (t + 1))) 2 = mm 2 := by rw [sr_n (by decide), em5, sr_n (by decide), e2]
      have o3 : sr m5 1 (upd (mm 1) 0 (nI (t + 1))) 3 = m1 3 := by rw [sr_n (by decide), em5, sr_n (by decide)]
      have o0 : sr m5 1 (upd (mm 1) 0 (nI (t + 1))) 0 = upd (upd (upd (m1 0) 5 0) 6 (-1)) 4 0 := by rw [sr_n (by decide), em5, sr_e]
      refine ⟨t, tn, r1, _, ht, p0, a2, p1, p5, p7, hx, ⟨t + 1, by omega, by rw [st_e, upd_e], ?_, by rw [sr_e, upd_e], ⟨0, by omega, p4, by rw [o0, upd_e]; rfl, fun i hi => absurd hi (Nat.not_lt_zero _)⟩, ?_, ?_, fun j hj => ?_⟩, ?_, ?_, ?_, ?_⟩
      · obtain ⟨u, u1, u2, u3⟩ := a3
        exact ⟨u, by omega, by rw [st_e, upd_n (by decide)]; exact u2, by rw [o2]; exact u3⟩
      · rw [p5, o0, upd_n (by decide), upd_n (by decide), upd_e]
      · rw [p6, o0, upd_n (by decide), upd_e]
      · by_cases q : j = t
        · subst q
          refine ⟨tn, KK, W, r1 3, tRS r1 tn, if_pos rfl, ⟨p0, ?_, fun i hi => ⟨?_, ?_⟩⟩, p9, ?_⟩
          · unfold tRS; rw [sr_n (by decide), sr_n (by decide), sr_e]
          · unfold tRS; rw [sr_n (by decide), sr_e, pk_cpy_in (Nat.zero_le _) (by omega), Nat.zero_add, Nat.sub_zero]; exact p8 i hi
          · unfold tRS; rw [sr_e, pk_cpy_in (Nat.zero_le _) (by omega), Nat.zero_add, Nat.sub_zero]
          · unfold MTx; rw [o3]; exact p10
        · obtain ⟨tn', K', W', F', tt', b1, b2, b3, b4⟩ := a8 j (by omega)
          have hb2 := b2.1
          refine ⟨tn', K', W', F', tt', (if_neg q).trans b1, b2, b3, ?_⟩
          unfold MTx at b4 ⊢
          rw [o3]
          refine ⟨(f3 _ (Or.inl (by omega))).trans b4.1, fun i hi => ⟨(f3 _ (Or.inl (by omega))).trans (b4.2 i hi).1, (f3 _ (Or.inl (by omega))).trans (b4.2 i hi).2⟩⟩
      · rw [sr_e]; exact hRK _ _ (RK_le h2 (by omega))
      · rw [sr_e]; exact hRH _ _ (RHi_le h3 (by omega))
      · rw [o2]; exact RK_le h4 (by omega)
      · rw [o2]; exact RHi_le h5 (by omega)
    · right; left
      have hf0 : ¬ nI f = 0 := nI_ne0 (by omega) (by omega)
      obtain ⟨m5, em5⟩ : ∃ m5, m5 = sr m1 0 (upd (upd (upd (m1 0) 5 (nI f)) 6 (m1 0 8)) 4 0) := ⟨_, rfl⟩
      have hx : fX12_text N mm = some ((-1), m5) := by
        unfold fX12_text
        rw [a4, if_neg hne, p2, bnd_s, thn_e, st_e, upd_e, if_neg hf0]
        unfold fX12_text_L36
        have e5 : st (st (st m1 0 5 (nI f)) 0 6 (m1 0 8)) 0 4 0 = m5 := by
          rw [em5]
          simp only [st_d, sr_e, sr_sr]
        rw [upd_n (by decide), thn_e, thn_e, e5, show m5 0 5 = nI f from by rw [em5, sr_e, upd_n (by decide), upd_n (by decide), upd_e], if_neg hf0]
      refine ⟨r1, m5, by rw [a2]; exact nI_lt (b := 4) ht (by decide), p1, by rw [p5]; exact hf0, hx, ⟨t, a1, a2, ?_, ?_, ⟨0, by omega, p4, by rw [em5, sr_e, upd_e]; rfl, fun i hi => absurd hi (Nat.not_lt_zero _)⟩, ?_, ?_, fun j hj => ?_⟩, ?_, ?_, ?_, ?_⟩
      · rw [em5, sr_n (by decide), f2 2 (by decide) (by decide) (by decide)]; exact a3
      · rw [em5, sr_n (by decide), f2 1 (by decide) (by decide) (by decide)]; exact a4
      · rw [p5, em5, sr_e, upd_n (by decide), upd_n (by decide), upd_e]
      · rw [p6, em5, sr_e, upd_n (by decide), upd_e]
      · obtain ⟨tn', K', W', F', tt', b1, b2, b3, b4⟩ := a8 j hj
        have hb2 := b2.1
        refine ⟨tn', K', W', F', tt', b1, b2, b3, ?_⟩
        unfold MTx at b4 ⊢
        rw [em5, sr_n (by decide)]
        refine ⟨(f3 _ (Or.inl (by omega))).trans b4.1, fun i hi => ⟨(f3 _ (Or.inl (by omega))).trans (b4.2 i hi).1, (f3 _ (Or.inl (by omega))).trans (b4.2 i hi).2⟩⟩
      · rw [em5, sr_n (by decide), f2 1 (by decide) (by decide) (by decide)]; exact RK_le h2 (by omega)
      · rw [em5, sr_n (by decide), f2 1 (by decide) (by decide) (by decide)]; exact RHi_le h3 (by omega)
      · rw [em5, sr_n (by decide), f2 2 (by decide) (by decide) (by decide)]; exact RK_le h4 (by omega)
      · rw [em5, sr_n (by decide), f2 2 (by decide) (by decide) (by decide)]; exact RHi_le h5 (by omega)
end W2
