/-! PLAYING: where statements begin; blocks around them; how long it can go on -/
def Sok (tn : Nat) (K W : Nat → Nat) (F : Nat → Int32) (S : Nat → Prop) : Prop := S 0 ∧ ∀ j, S j → j ≤ tn ∧ dep K j ≤ 3 ∧ (j < tn → ∃ j', okS tn K W F j j' ∧ S j')
theorem S_cover {tn : Nat} {K W : Nat → Nat} {F : Nat → Int32} {S : Nat → Prop} (h : Sok tn K W F S) : ∀ t, t < tn → ∃ s s', S s ∧ S s' ∧ okS tn K W F s s' ∧ s ≤ t ∧ t < s' := by
  intro t
  induction t with
  | zero =>
    intro ht
    obtain ⟨s', h1, h2⟩ := (h.2 0 h.1).2.2 ht
    exact ⟨0, s', h.1, h2, h1, Nat.le_refl _, h1.1⟩
  | succ t ih =>
    intro ht
    obtain ⟨s, s', a1, a2, a3, a4, a5⟩ := ih (by omega)
    by_cases q : t + 1 < s'
    · exact ⟨s, s', a1, a2, a3, by omega, q⟩
    · have : s' = t + 1 := by omega
      subst this
      obtain ⟨s2, h1, h2⟩ := (h.2 _ a2).2.2 ht
      exact ⟨t + 1, s2, a2, h2, h1, Nat.le_refl _, h1.1⟩
theorem okS_125 {tn : Nat} {K W : Nat → Nat} {F : Nat → Int32} {i j : Nat} (h : okS tn K W F i j) (hK : K i = 125) : j = i + 1 ∧ 0 < dep K i := by
  obtain ⟨-, -, y⟩ := h
  rcases y with ⟨-, y1, y2⟩ | ⟨y, -⟩ | ⟨y, -⟩ | ⟨y, -⟩ | ⟨y, -⟩ | ⟨y, -⟩
  · exact ⟨y1, y2⟩
  · omega
  · omega
  · omega
  · omega
  · omega
theorem S_close {tn : Nat} {K W : Nat → Nat} {F : Nat → Int32} {S : Nat → Prop} (h : Sok tn K W F S) {t : Nat} (ht : t < tn) (hK : K t = 125) : S t ∧ S (t + 1) := by
  obtain ⟨s, s', a1, a2, a3, a4, a5⟩ := S_cover h t ht
  by_cases q : K s = 125
  · have := (okS_125 a3 q).1
    have e : t = s := by omega
    subst e
    rw [this] at a2
    exact ⟨a1, a2⟩
  · exact absurd hK (okS_in a3 q t a4 a5).1
theorem S_open {tn : Nat} {K W : Nat → Nat} {F : Nat → Int32} {S : Nat → Prop} (h : Sok tn K W F S) {t : Nat} (ht : t < tn) (hK : K t = 123) : S (t + 1) := by
  obtain ⟨s, s', a1, a2, a3, a4, a5⟩ := S_cover h t ht
  by_cases q : K s = 125
  · have := (okS_125 a3 q).1
    have e : t = s := by omega
    subst e
    omega
  · rw [(okS_in a3 q t a4 a5).2 hK] at a2
    exact a2
theorem dep_cl {K : Nat → Nat} {F : Nat → Int32} {o e : Nat} (h : clo K F o e) : dep K (e + 1) = dep K o := by
  show (if K e = 123 then dep K e + 1 else if K e = 125 then dep K e - 1 else dep K e) = _
  rw [if_neg (by rw [h.2.2.1]; decide), if_pos h.2.2.1, h.2.2.2.1]
  omega
theorem dep_op {K : Nat → Nat} {o : Nat} (h : K o = 123) : dep K (o + 1) = dep K o + 1 := if_pos h
theorem flg_nc {K : Nat → Nat} {c d : Nat} (h : ¬ (K c = 123 ∧ d = dep K c)) : flg K (c + 1) d = flg K c d := if_neg h
/-- loops around stay so as long as their blocks are open -/
theorem flg_in {K : Nat → Nat} {o : Nat} {d : Nat} : ∀ n c, c - (o + 1) = n → o + 1 ≤ c → (∀ t, o < t → t < c → d < dep K t) → flg K c d = flg K (o + 1) d := by
  intro n
  induction n with
  | zero =>
    intro c h1 h2 _
    have : c = o + 1 := by omega
    subst this
    rfl
  | succ n ih =>
    intro c h1 h2 h3
    obtain ⟨c, rfl⟩ : ∃ q, c = q + 1 := ⟨c - 1, by omega⟩
    rw [flg_nc (fun z => by have := h3 c (by omega) (by omega); omega)]
    exact ih c (by omega) (by omega) (fun t t1 t2 => h3 t t1 (by omega))
theorem lc_in {K : Nat → Nat} {o d : Nat} {c : Nat} (hc : o + 1 ≤ c) (h : ∀ t, o < t → t < c → d ≤ dep K t) : lc K c d = lc K (o + 1) d := lc_cg fun x hx => flg_in _ c rfl hc (fun t t1 t2 => by have := h t t1 t2; omega)
/-! the potential -/
def PZ (K : Nat → Nat) (D b : Nat) : Int := ((sN b fun u => 9 ^ (min 3 (dep K u) - D) : Nat) : Int)
theorem PZ_s {K : Nat → Nat} {D b : Nat} : PZ K D (b + 1) = PZ K D b + ((9 ^ (min 3 (dep K b) - D) : Nat) : Int) := by
  unfold PZ
  rw [show sN (b + 1) (fun u => 9 ^ (min 3 (dep K u) - D)) = sN b (fun u => 9 ^ (min 3 (dep K u) - D)) + 9 ^ (min 3 (dep K b) - D) from rfl]
  omega
theorem PZ_lt {K : Nat → Nat} {D : Nat} : ∀ n a b, b - a = n → a ≤ b → PZ K D a + (b - a : Nat) ≤ PZ K D b := by
  intro n
  induction n with
  | zero =>
    intro a b h1 h2
    have : b = a := by omega
    subst this
    omega
  | succ n ih =>
    intro a b h1 h2
    obtain ⟨b, rfl⟩ : ∃ q, b = q + 1 := ⟨b - 1, by omega⟩
    have := ih a b (by omega) (by omega)
    rw [PZ_s]
    have : 0 < 9 ^ (min 3 (dep K b) - D) := Nat.pow_pos (by decide)
    omega
theorem PZ_9 {K : Nat → Nat} {D : Nat} (hD : D < 3) : ∀ n a b, b - a = n → a ≤ b → (∀ u, a ≤ u → u < b → D < dep K u) → 9 * (PZ K (D + 1) b - PZ K (D + 1) a) = PZ K D b - PZ K D a := by
  intro n
  induction n with
  | zero =>
    intro a b h1 h2 _
    have : b = a := by omega
    subst this
    omega
  | succ n ih =>
    intro a b h1 h2 h3
    obtain ⟨b, rfl⟩ : ∃ q, b = q + 1 := ⟨b - 1, by omega⟩
    have h4 := ih a b (by omega) (by omega) (fun u u1 u2 => h3 u u1 (by omega))
    have h5 := h3 b (by omega) (by omega)
    rw [PZ_s, PZ_s]
    have e : min 3 (dep K b) - D = (min 3 (dep K b) - (D + 1)) + 1 := by omega
    rw [e, Nat.pow_succ]
    omega
theorem PZ_top {K : Nat → Nat} {tn : Nat} (h : tn ≤ 300) : PZ K 0 tn ≤ 218700 := by
  unfold PZ
  have h1 : sN tn (fun u => 9 ^ (min 3 (dep K u) - 0)) ≤ tn * 729 := sN_bound fun u => Nat.le_trans (Nat.pow_le_pow_right (by decide) (show min 3 (dep K u) - 0 ≤ 3 by omega)) (by decide)
  omega
theorem PZ_0 {K : Nat → Nat} {D : Nat} : PZ K D 0 = 0 := rfl
def sB (o : Nat → Nat) : Nat → Nat
  | 0 => 0
  | D + 1 => o D + 1
def bsZ (K o e r : Nat → Nat) : Nat → Int
  | 0 => 0
  | D + 1 => bsZ K o e r D + (PZ K D (o D + 1) - PZ K D (sB o D)) + (r D : Int) * (PZ K (D + 1) (e D + 1) - PZ K (D + 1) (o D + 1))
def phi (K o e r : Nat → Nat) (c : Nat) : Int := bsZ K o e r (dep K c) + (PZ K (dep K c) c - PZ K (dep K c) (sB o (dep K c)))
theorem sB_cg {o o' : Nat → Nat} {D : Nat} (h : ∀ x, x < D → o' x = o x) : sB o' D = sB o D := by
  cases D with
  | zero => rfl
  | succ D => show o' D + 1 = o D + 1; rw [h D (by omega)]
theorem bsZ_cg {K o e r o' e' r' : Nat → Nat} : ∀ D, (∀ x, x < D → o' x = o x ∧ e' x = e x ∧ r' x = r x) → bsZ K o' e' r' D = bsZ K o e r D := by
  intro D
  induction D with
  | zero => intro _; rfl
  | succ D ih =>
    intro h
    show bsZ K o' e' r' D + (PZ K D (o' D + 1) - PZ K D (sB o' D)) + (r' D : Int) * (PZ K (D + 1) (e' D + 1) - PZ K (D + 1) (o' D + 1)) = _
    obtain ⟨a1, a2, a3⟩ := h D (by omega)
    rw [ih (fun x hx => h x (by omega)), sB_cg (fun x hx => (h x (by omega)).1), a1, a2, a3]
    rfl
/-- the blocks around c -/
def BLK (tn : Nat) (K : Nat → Nat) (F : Nat → Int32) (o e r : Nat → Nat) (c : Nat) : Prop := dep K c ≤ 3 ∧ c ≤ tn ∧ ∀ D, D < dep K c → clo K F (o D) (e D) ∧ dep K (o D) = D ∧ o D < c ∧ c ≤ e D ∧ e D < tn ∧ r D < 9
theorem mul9 {x L : Int} (h : x ≤ 9) (hL : 0 ≤ L) : x * L ≤ 9 * L := Int.mul_le_mul_of_nonneg_right h hL
theorem phi_le {tn : Nat} {K : Nat → Nat} {F : Nat → Int32} {o e r : Nat → Nat} {c : Nat} (h : BLK tn K F o e r c) : phi K o e r c ≤ PZ K 0 tn - ((tn - c : Nat) : Int) ∨ (phi K o e r c < PZ K 0 tn ∧ 0 < dep K c) := by
  obtain ⟨h1, h2, h3⟩ := h
  have key : ∀ D, D ≤ dep K c → bsZ K o e r D + (PZ K D (if D = 0 then tn else e (D - 1) + 1) - PZ K D (sB o D)) ≤ PZ K 0 tn := by
    intro D
    induction D with
    | zero =>
      intro _
      rw [if_pos rfl]
      show (0 : Int) + (PZ K 0 tn - PZ K 0 0) ≤ _
      rw [PZ_0]
      omega
    | succ D ih =>
      intro hD
      have ih' := ih (by omega)
      obtain ⟨⟨c1, c2, c3, c4, c5, c6, c7⟩, a2, a3, a4, a5, a6⟩ := h3 D (by omega)
      rw [if_neg (by omega), show D + 1 - 1 = D from rfl]
      show bsZ K o e r D + (PZ K D (o D + 1) - PZ K D (sB o D)) + (r D : Int) * (PZ K (D + 1) (e D + 1) - PZ K (D + 1) (o D + 1)) + (PZ K (D + 1) (e D + 1) - PZ K (D + 1) (o D + 1)) ≤ _
      have h9 := PZ_9 (K := K) (D := D) (by omega) _ (o D + 1) (e D + 1) rfl (by omega) (fun u u1 u2 => by have := c5 u (by omega) (by omega); omega)
      have hp := PZ_lt (K := K) (D := D + 1) _ (o D + 1) (e D + 1) rfl (by omega)
      have hm := mul9 (x := (r D : Int) + 1) (L := PZ K (D + 1) (e D + 1) - PZ K (D + 1) (o D + 1)) (by omega) (by omega)
      rw [Int.add_mul, Int.one_mul] at hm
      have he : PZ K D (e D + 1) ≤ PZ K D (if D = 0 then tn else e (D - 1) + 1) := by
        by_cases q : D = 0
        · rw [if_pos q]
          have := PZ_lt (K := K) (D := D) _ (e D + 1) tn rfl (by omega)
          omega
        · rw [if_neg q]
          obtain ⟨⟨b1, b2, b3, b4, b5, b6, b7⟩, g2, g3, g4, g5, g6⟩ := h3 (D - 1) (by omega)
          have : e D ≤ e (D - 1) := by
            by_cases z : e D ≤ e (D - 1)
            · exact z
            · exfalso
              have := c5 (e (D - 1)) (by omega) (by omega)
              omega
          have := PZ_lt (K := K) (D := D) _ (e D + 1) (e (D - 1) + 1) rfl (by omega)
          omega
      omega
  have hk := key (dep K c) (Nat.le_refl _)
  by_cases q : dep K c = 0
  · left
    unfold phi
    rw [q]
    show (0 : Int) + (PZ K 0 c - PZ K 0 0) ≤ _
    rw [PZ_0]
    have := PZ_lt (K := K) (D := 0) _ c tn rfl h2
    omega
  · right
    rw [if_neg q] at hk
    obtain ⟨-, a2, a3, a4, a5, a6⟩ := h3 (dep K c - 1) (by omega)
    have := PZ_lt (K := K) (D := dep K c) _ c (e (dep K c - 1) + 1) rfl (by omega)
    unfold phi
    constructor <;> omega
theorem phi_top {tn : Nat} {K : Nat → Nat} {F : Nat → Int32} {o e r : Nat → Nat} {c : Nat} (ht : tn ≤ 300) (h : BLK tn K F o e r c) (hc : c < tn) : phi K o e r c < 218700 := by
  have := PZ_top (K := K) ht
  rcases phi_le h with q | q <;> omega
/-- straight on -/
theorem phi_on {K o e r : Nat → Nat} {c c' : Nat} (hd : dep K c' = dep K c) (h : c < c') : phi K o e r c < phi K o e r c' := by
  unfold phi
  rw [hd]
  have := PZ_lt (K := K) (D := dep K c) _ c c' rfl (by omega)
  omega
/-- into a block, whose { is at s -/
theorem phi_in {K o e r o' e' r' : Nat → Nat} {c s : Nat} (hs : c ≤ s) (hd : dep K (s + 1) = dep K c + 1) (h : ∀ x, x < dep K c → o' x = o x ∧ e' x = e x ∧ r' x = r x) (ho : o' (dep K c) = s) (hr : r' (dep K c) = 0) : phi K o e r c < phi K o' e' r' (s + 1) := by
  unfold phi
  rw [hd]
  show _ < bsZ K o' e' r' (dep K c) + (PZ K (dep K c) (o' (dep K c) + 1) - PZ K (dep K c) (sB o' (dep K c))) + (r' (dep K c) : Int) * (PZ K (dep K c + 1) (e' (dep K c) + 1) - PZ K (dep K c + 1) (o' (dep K c) + 1)) + (PZ K (dep K c + 1) (s + 1) - PZ K (dep K c + 1) (o' (dep K c) + 1))
  rw [bsZ_cg _ h, sB_cg (fun x hx => (h x hx).1), ho, hr]
  have := PZ_lt (K := K) (D := dep K c) _ c (s + 1) rfl (by omega)
  have e0 : ((0 : Nat) : Int) * (PZ K (dep K c + 1) (e' (dep K c) + 1) - PZ K (dep K c + 1) (s + 1)) = 0 := Int.zero_mul _
  omega
/-- around once more -/
theorem phi_ar {K o e r r' : Nat → Nat} {D : Nat} (hd : dep K (e D) = D + 1) (ho : dep K (o D + 1) = D + 1) (h : ∀ x, x < D → r' x = r x) (hr : r' D = r D + 1) : phi K o e r (e D) < phi K o e r' (o D + 1) := by
  unfold phi
  rw [hd, ho]
  show bsZ K o e r D + (PZ K D (o D + 1) - PZ K D (sB o D)) + (r D : Int) * (PZ K (D + 1) (e D + 1) - PZ K (D + 1) (o D + 1)) + (PZ K (D + 1) (e D) - PZ K (D + 1) (o D + 1)) < bsZ K o e r' D + (PZ K D (o D + 1) - PZ K D (sB o D)) + (r' D : Int) * (PZ K (D + 1) (e D + 1) - PZ K (D + 1) (o D + 1)) + (PZ K (D + 1) (o D + 1) - PZ K (D + 1) (o D + 1))
  rw [bsZ_cg (K := K) (o := o) (e := e) (r := r) (o' := o) (e' := e) (r' := r') D (fun x hx => ⟨rfl, rfl, h x hx⟩), hr]
  have hp := PZ_lt (K := K) (D := D + 1) _ (e D) (e D + 1) rfl (by omega)
  have : ((r D + 1 : Nat) : Int) * (PZ K (D + 1) (e D + 1) - PZ K (D + 1) (o D + 1)) = (r D : Int) * (PZ K (D + 1) (e D + 1) - PZ K (D + 1) (o D + 1)) + (PZ K (D + 1) (e D + 1) - PZ K (D + 1) (o D + 1)) := by
    rw [show ((r D + 1 : Nat) : Int) = (r D : Int) + 1 from by omega, Int.add_mul, Int.one_mul]
  omega
/-- out of a block -/
theorem phi_ou {K o e r : Nat → Nat} {D : Nat} (hD : D < 3) (hd : dep K (e D) = D + 1) (hd2 : dep K (e D + 1) = D) (hoe : o D < e D) (hin : ∀ t, o D < t → t ≤ e D → D < dep K t) (hr : r D < 9) : phi K o e r (e D) < phi K o e r (e D + 1) := by
  unfold phi
  rw [hd, hd2]
  show bsZ K o e r D + (PZ K D (o D + 1) - PZ K D (sB o D)) + (r D : Int) * (PZ K (D + 1) (e D + 1) - PZ K (D + 1) (o D + 1)) + (PZ K (D + 1) (e D) - PZ K (D + 1) (o D + 1)) < _
  have h9 := PZ_9 (K := K) (D := D) hD _ (o D + 1) (e D + 1) rfl (by omega) (fun u u1 u2 => hin u (by omega) (by omega))
  have hp := PZ_lt (K := K) (D := D + 1) _ (o D + 1) (e D + 1) rfl (by omega)
  have hq := PZ_lt (K := K) (D := D + 1) _ (e D) (e D + 1) rfl (by omega)
  have hm := mul9 (x := (r D : Int) + 1) (L := PZ K (D + 1) (e D + 1) - PZ K (D + 1) (o D + 1)) (by omega) (by omega)
  rw [Int.add_mul, Int.one_mul] at hm
  omega
