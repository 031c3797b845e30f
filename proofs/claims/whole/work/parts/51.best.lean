/-! THE PLANNER: the class's search -/
def SG (y : Nat → Bool → Bool) (g : Nat → Bool → Nat) (v : Nat → Bool → Int32) (p : RS) : Prop := ∀ e, e < 10 → p 1 e = b2i (y e true) ∧ p 2 e = b2i (y e false) ∧ p 6 e = nI (g e true) ∧ p 7 e = nI (g e false) ∧ p 4 e = v e true ∧ p 5 e = v e false
def BS (t : Bool × Nat × Int32) (p : RS) : Prop := p 0 8 = b2i t.1 ∧ p 0 9 = nI t.2.1 ∧ p 0 10 = t.2.2
def onlyB (p p' : RS) : Prop := (∀ c, c ≠ 0 → p' c = p c) ∧ ∀ k, k ≠ 8 → k ≠ 9 → k ≠ 10 → p' 0 k = p 0 k
theorem onlyB.rf {p : RS} : onlyB p p := ⟨fun _ _ => rfl, fun _ _ _ _ => rfl⟩
theorem onlyB.tr {p q r : RS} (h1 : onlyB p q) (h2 : onlyB q r) : onlyB p r := ⟨fun c hc => (h2.1 c hc).trans (h1.1 c hc), fun k k1 k2 k3 => (h2.2 k k1 k2 k3).trans (h1.2 k k1 k2 k3)⟩
theorem onlyB.sg {y : Nat → Bool → Bool} {g : Nat → Bool → Nat} {v : Nat → Bool → Int32} {p q : RS} (h : onlyB p q) (hs : SG y g v p) : SG y g v q := fun e he => by
  rw [h.1 1 (by decide), h.1 2 (by decide), h.1 6 (by decide), h.1 7 (by decide), h.1 4 (by decide), h.1 5 (by decide)]
  exact hs e he
def sIn (k l : Nat) (x2 x3 x4 x5 : Int32) (q : RS) : Option RS := if q 1 l = 0 then some q else if x3 - q 6 l < 0 then some q else if x2 - sizeT l < 0 then some q else fX6_search k (nI l - 1) (x2 - sizeT l) (x3 - q 6 l) (x4 + q 4 l) (x5 ||| (1 <<< ((nI l : Int32) &&& 31))) q
theorem search_s {k l : Nat} {x2 x3 x4 x5 : Int32} {p : RS} (hl : l < 10) : fX6_search (k + 1) (nI l) x2 x3 x4 x5 p = bnd (if p 2 l = 0 then some p else if x3 - p 7 l < 0 then some p else fX6_search k (nI l - 1) x2 (x3 - p 7 l) (x4 + p 5 l) x5 p) (sIn k l x2 x3 x4 x5) := by
  unfold sIn
  rw [fX6_search, if_pos (nI_pos' (by omega)), inb_nI hl (by omega), ck_t]
  simp only [thn_e, bnd_id]
  rw [cl_nI (by omega)]
  by_cases c1 : p 2 l = 0
  · rw [if_pos c1, if_pos c1, bnd_s]
  · rw [if_neg c1, if_neg c1]
    by_cases c2 : x3 - p 7 l < 0
    · rw [if_pos c2, if_pos c2, bnd_s]
    · rw [if_neg c2, if_neg c2]
theorem prune {y : Nat → Bool → Bool} {g : Nat → Bool → Nat} {v : Nat → Bool → Int32} {bu s l j : Nat} (hj : l + (j + 1) = 10) (hs : s % 2 ^ l = 0)
    (h : y l (bitS s l) = false ∨ bu < hS (j + 1) (fun e => g e (bitS s e)) ∨ 9 < hS (j + 1) (fun e => if bitS s e then szN e else 0)) : bst (als y g bu) (wos v) (s + 2 ^ l) = bst (als y g bu) (wos v) s := by
  refine bst_skip _ fun n h1 h2 => ?_
  have hb : ∀ e, l ≤ e → bitS n e = bitS s e := fun e he => by
    rw [show n = s + (n - s) from by omega]
    exact bit_hi hs he (by omega)
  cases q : als y g bu n with
  | false => rfl
  | true =>
    exfalso
    obtain ⟨q1, q2, q3⟩ := als_iff.mp q
    rcases h with h | h | h
    · have := q1 l (by omega)
      rw [hb l (Nat.le_refl _), h] at this
      cases this
    · unfold nds at q3
      rw [← hS_sN _ (j + 1) (by omega), hS_cg (g := fun e => g e (bitS s e)) (j + 1) (by omega) (fun e h3 _ => by rw [hb e (by omega)])] at q3
      omega
    · unfold szs at q2
      rw [← hS_sN _ (j + 1) (by omega), hS_cg (g := fun e => if bitS s e then szN e else 0) (j + 1) (by omega) (fun e h3 _ => by rw [hb e (by omega)])] at q2
      omega
theorem search_ok {y : Nat → Bool → Bool} {g : Nat → Bool → Nat} {v : Nat → Bool → Int32} {bu : Nat} (hbu : bu < 1000) (hg : ∀ e c, g e c ≤ 8) :
    ∀ L j s k p, L + j = 10 → s % 2 ^ L = 0 → s + 2 ^ L ≤ 1024 → L < k → SG y g v p → BS (bst (als y g bu) (wos v) s) p → (∀ e, L ≤ e → e < 10 → y e (bitS s e) = true) → hS j (fun e => if bitS s e then szN e else 0) ≤ 9 → hS j (fun e => g e (bitS s e)) ≤ bu →
      ∃ p', fX6_search k (nI L - 1) (nI (9 - hS j (fun e => if bitS s e then szN e else 0))) (nI (bu - hS j (fun e => g e (bitS s e)))) (hI j (fun e => v e (bitS s e))) (nI s) p = some p' ∧ BS (bst (als y g bu) (wos v) (s + 2 ^ L)) p' ∧ onlyB p p' := by
  intro L
  induction L with
  | zero =>
    intro j s k p h1 h2 h3 h4 hsg hbs hy hu hc
    obtain ⟨k, rfl⟩ : ∃ q, k = q + 1 := ⟨k - 1, by omega⟩
    have hj : j = 10 := by omega
    subst hj
    have e1 := hS_sN (fun e => if bitS s e then szN e else 0) 10 (by omega)
    have e2 := hS_sN (fun e => g e (bitS s e)) 10 (by omega)
    have e3 := hI_iN (fun e => v e (bitS s e)) 10 (by omega)
    have e1' : hS 10 (fun e => if bitS s e then szN e else 0) = szs s 10 := e1
    have e2' : hS 10 (fun e => g e (bitS s e)) = nds g s 10 := e2
    have e3' : hI 10 (fun e => v e (bitS s e)) = wos v s := by
      unfold wos
      rw [← e3]
      exact (Int32.add_zero _).symm
    have hal : als y g bu s = true := als_iff.mpr ⟨fun e he => hy e (by omega) he, by rw [← e1']; exact hu, by rw [← e2']; exact hc⟩
    rw [e3']
    have hsr : ∀ x2 x3 x4, fX6_search (k + 1) (nI 0 - 1) x2 x3 x4 (nI s) p = (if p 0 8 = 0 then some (sr p 0 (upd (upd (upd (p 0) 8 1) 9 (nI s)) 10 x4)) else if x4 ≤ p 0 10 then some p else some (sr p 0 (upd (upd (upd (p 0) 8 1) 9 (nI s)) 10 x4))) := by
      intro x2 x3 x4
      rw [fX6_search, if_neg (show ¬ (0 : Int32) ≤ nI 0 - 1 from by decide)]
      simp only [thn_e, st_d, sr_e, sr_sr]
    rw [hsr]
    obtain ⟨b1, b2, b3⟩ := hbs
    have hst : bst (als y g bu) (wos v) (s + 2 ^ 0) = (if als y g bu s = true ∧ ((bst (als y g bu) (wos v) s).1 = false ∨ ¬ wos v s ≤ (bst (als y g bu) (wos v) s).2.2) then (true, s, wos v s) else bst (als y g bu) (wos v) s) := rfl
    rw [hst]
    generalize bst (als y g bu) (wos v) s = t at *
    have new : ∃ p', some (sr p 0 (upd (upd (upd (p 0) 8 1) 9 (nI s)) 10 (wos v s))) = some p' ∧ BS (true, s, wos v s) p' ∧ onlyB p p' := by
      refine ⟨_, rfl, ⟨?_, ?_, ?_⟩, fun c hc => sr_n hc, fun q q1 q2 q3 => ?_⟩
      · rw [sr_e, upd_n (by decide), upd_n (by decide), upd_e]; rfl
      · rw [sr_e, upd_n (by decide), upd_e]
      · rw [sr_e, upd_e]
      · rw [sr_e, upd_n q3, upd_n q2, upd_n q1]
    cases cf : t.1 with
    | false =>
      rw [if_pos (by rw [b1, cf]; rfl), if_pos ⟨hal, Or.inl rfl⟩]
      exact new
    | true =>
      rw [if_neg (by rw [b1, cf]; decide), b3]
      by_cases cw : wos v s ≤ t.2.2
      · rw [if_pos cw, if_neg (fun q => q.2.elim (fun z => by cases z) (fun z => z cw))]
        exact ⟨p, rfl, ⟨b1, b2, b3⟩, onlyB.rf⟩
      · rw [if_neg cw, if_pos ⟨hal, Or.inr cw⟩]
        exact new
  | succ l ih =>
    intro j s k p h1 h2 h3 h4 hsg hbs hy hu hc
    obtain ⟨k, rfl⟩ : ∃ q, k = q + 1 := ⟨k - 1, by omega⟩
    have hl : l < 10 := by omega
    have hz := szN_le l
    have hpow : 2 ^ (l + 1) = 2 ^ l + 2 ^ l := by rw [Nat.pow_succ]; omega
    have hp0 : 0 < 2 ^ l := Nat.two_pow_pos l
    obtain ⟨bl0, bl1⟩ := bit_lo h2
    have hs0 : s % 2 ^ l = 0 := by
      have : s = 2 ^ (l + 1) * (s / 2 ^ (l + 1)) := by have := Nat.div_add_mod s (2 ^ (l + 1)); omega
      rw [this, Nat.pow_succ, Nat.mul_assoc]
      exact Nat.mul_mod_right _ _
    have hs1 : (s + 2 ^ l) % 2 ^ l = 0 := by rw [Nat.add_mod_right]; exact hs0
    have h9 : 9 - j = l := by omega
    have bh : ∀ e, l + 1 ≤ e → bitS (s + 2 ^ l) e = bitS s e := fun e he => bit_hi h2 he (by omega)
    generalize hU : hS j (fun e => if bitS s e then szN e else 0) = U at *
    generalize hCC : hS j (fun e => g e (bitS s e)) = C at *
    generalize hV : hI j (fun e => v e (bitS s e)) = V at *
    have u0 : hS (j + 1) (fun e => if bitS s e then szN e else 0) = U := by
      show hS j _ + _ = U
      rw [hU, h9]
      show U + (if bitS s l = true then szN l else 0) = U
      rw [bl0]
      rfl
    have c0 : hS (j + 1) (fun e => g e (bitS s e)) = C + g l false := by
      show hS j _ + _ = _
      rw [hCC, h9]
      show C + g l (bitS s l) = _
      rw [bl0]
    have v0 : hI (j + 1) (fun e => v e (bitS s e)) = V + v l false := by
      show hI j _ + _ = _
      rw [hV, h9]
      show V + v l (bitS s l) = _
      rw [bl0]
    have u1 : hS (j + 1) (fun e => if bitS (s + 2 ^ l) e then szN e else 0) = U + szN l := by
      show hS j _ + _ = _
      rw [h9, hS_cg (g := fun e => if bitS s e then szN e else 0) j (by omega) (fun e he _ => by rw [bh e (by omega)]), hU]
      show U + (if bitS (s + 2 ^ l) l = true then szN l else 0) = _
      rw [bl1]
      rfl
    have c1 : hS (j + 1) (fun e => g e (bitS (s + 2 ^ l) e)) = C + g l true := by
      show hS j _ + _ = _
      rw [h9, hS_cg (g := fun e => g e (bitS s e)) j (by omega) (fun e he _ => by rw [bh e (by omega)]), hCC]
      show C + g l (bitS (s + 2 ^ l) l) = _
      rw [bl1]
    have v1 : hI (j + 1) (fun e => v e (bitS (s + 2 ^ l) e)) = V + v l true := by
      show hI j _ + _ = _
      rw [h9, hI_cg (g := fun e => v e (bitS s e)) j (by omega) (fun e he _ => by rw [bh e (by omega)]), hV]
      show V + v l (bitS (s + 2 ^ l) l) = _
      rw [bl1]
    rw [s1 (by omega), Nat.add_sub_cancel, search_s hl]
    obtain ⟨s1', s2', s6, s7, s4, s5⟩ := hsg l hl
    -- without it
    obtain ⟨p1, a1, a2, a3⟩ : ∃ p1, (if p 2 l = 0 then some p else if nI (bu - C) - p 7 l < 0 then some p else fX6_search k (nI l - 1) (nI (9 - U)) (nI (bu - C) - p 7 l) (V + p 5 l) (nI s) p) = some p1 ∧ BS (bst (als y g bu) (wos v) (s + 2 ^ l)) p1 ∧ onlyB p p1 := by
      rw [s2', s7, s5]
      cases cy : y l false with
      | false =>
        rw [if_pos (show b2i false = 0 from rfl), prune (j := j) (by omega) hs0 (Or.inl (by rw [bl0]; exact cy))]
        exact ⟨p, rfl, hbs, onlyB.rf⟩
      | true =>
        rw [if_neg (show ¬ b2i true = 0 by decide)]
        have gb := hg l false
        by_cases cc : bu - C < g l false
        · rw [if_pos ((sub_neg (by omega) (by omega)).mpr cc), prune (j := j) (by omega) hs0 (Or.inr (Or.inl (by rw [c0]; omega)))]
          exact ⟨p, rfl, hbs, onlyB.rf⟩
        · rw [if_neg (fun q => cc ((sub_neg (by omega) (by omega)).mp q)), sub_nI (by omega)]
          have := ih (j + 1) s k p (by omega) hs0 (by omega) (by omega) hsg hbs (fun e he he2 => by
            by_cases q : e = l
            · subst q; rw [bl0]; exact cy
            · exact hy e (by omega) he2) (by rw [u0]; exact hu) (by rw [c0]; omega)
          rw [u0, c0, v0, show bu - (C + g l false) = bu - C - g l false from by omega] at this
          exact this
    rw [a1, bnd_s]
    -- with it
    unfold sIn
    obtain ⟨t1', t2', t6, t7, t4, t5⟩ := a3.sg hsg l hl
    rw [t1', t6, t4, sizeT_N l hl, show s + 2 ^ (l + 1) = s + 2 ^ l + 2 ^ l from by omega]
    cases cy : y l true with
    | false =>
      rw [if_pos (show b2i false = 0 from rfl), prune (j := j) (by omega) hs1 (Or.inl (by rw [bl1]; exact cy))]
      exact ⟨p1, rfl, a2, a3⟩
    | true =>
      rw [if_neg (show ¬ b2i true = 0 by decide)]
      have gb := hg l true
      by_cases cc : bu - C < g l true
      · rw [if_pos ((sub_neg (by omega) (by omega)).mpr cc), prune (j := j) (by omega) hs1 (Or.inr (Or.inl (by rw [c1]; omega)))]
        exact ⟨p1, rfl, a2, a3⟩
      · rw [if_neg (fun q => cc ((sub_neg (by omega) (by omega)).mp q)), sub_nI (a := bu - C) (b := g l true) (by omega)]
        by_cases cu : 9 - U < szN l
        · rw [if_pos ((sub_neg (by omega) (by omega)).mpr cu), prune (j := j) (by omega) hs1 (Or.inr (Or.inr (by rw [u1]; omega)))]
          exact ⟨p1, rfl, a2, a3⟩
        · rw [if_neg (fun q => cu ((sub_neg (by omega) (by omega)).mp q)), sub_nI (by omega), orbit l hl s (by omega) h2]
          obtain ⟨p', i1, i2, i3⟩ := ih (j + 1) (s + 2 ^ l) k p1 (by omega) hs1 (by omega) (by omega) (a3.sg hsg) a2 (fun e he he2 => by
            by_cases q : e = l
            · subst q; rw [bl1]; exact cy
            · rw [bh e (by omega)]; exact hy e (by omega) he2) (by rw [u1]; omega) (by rw [c1]; omega)
          rw [u1, c1, v1, show bu - (C + g l true) = bu - C - g l true from by omega, show 9 - (U + szN l) = 9 - U - szN l from by omega] at i1
          exact ⟨p', i1, i2, a3.tr i3⟩
/-- the class's choice -/
theorem choose_ok {N : Nat} {y : Nat → Bool → Bool} {g : Nat → Bool → Nat} {v : Nat → Bool → Int32} {bu : Nat} (hbu : bu < 1000) (hg : ∀ e c, g e c ≤ 8) {p : RS} (hs : SG y g v p) (h7 : p 0 7 = nI bu) :
    ∃ p', fX6_choose N p = some (b2i (bst (als y g bu) (wos v) 1024).1, p') ∧ BS (bst (als y g bu) (wos v) 1024) p' ∧ onlyB p p' := by
  have hb0 : onlyB p (sr p 0 (upd (upd (upd (p 0) 8 0) 9 0) 10 (-2147483648))) := ⟨fun c hc => sr_n hc, fun k k1 k2 k3 => by rw [sr_e, upd_n k3, upd_n k2, upd_n k1]⟩
  obtain ⟨p', g1, g2, g3⟩ := search_ok (v := v) hbu hg 10 0 0 12 (sr p 0 (upd (upd (upd (p 0) 8 0) 9 0) 10 (-2147483648))) rfl (by decide) (by decide) (by decide) (hb0.sg hs) ⟨by rw [sr_e, upd_n (by decide), upd_n (by decide), upd_e]; rfl, by rw [sr_e, upd_n (by decide), upd_e]; rfl, by rw [sr_e, upd_e]; rfl⟩ (fun e he he2 => absurd he (by omega)) (Nat.zero_le _) (Nat.zero_le _)
  rw [show 0 + 2 ^ 10 = 1024 from rfl] at g2
  refine ⟨p', ?_, g2, hb0.tr g3⟩
  have g1' : fX6_search 12 9 9 (nI bu) 0 0 (sr p 0 (upd (upd (upd (p 0) 8 0) 9 0) 10 (-2147483648))) = some p' := g1
  unfold fX6_choose
  simp (disch := omega) only [thn_e, st_d, sr_e, sr_sr, upd_n, h7]
  rw [g1', bnd_s, g2.1, isB_b2i, ck_t]
