/-! the class's own world: its object, the steps, the image's steps -/
abbrev HS : Type := Nat → RS
def hset (h : HS) (j : Nat) (w : RS) : HS := fun i => cond (Nat.beq i j) w (h i)
def hst (h : HS) (k : Nat) (x : Int32) : HS := hset h 0 (st (h 0) 0 k x)
def rX (E : GE) (ax an asx ay ap ar ai : Nat → Nat) (ah aj : Nat → Nat → Nat) (tf : Nat → Option Nat) (w : RS) : va_W := [(ax 0, .inr (11, [.ref (an 0), .ref (asx 0), .ref (ah 0 0), .ref (ap 0), .ref (ay 0), .ref (ar 0), .ref (ax 1), .int (w 0 7), .ref (ai 0), .ref (aj 0 0), .int (w 0 10)])), (ax 1, .inl (E.2.1 2, 4, .inr (.inr (.inr (.inr tf)))))]
def rHw (E : GE) (ah : Nat → Nat → Nat) (h : HS) (l : List Nat) : va_W := l.flatMap (fun i => rW E (ah (i + 1)) (h (i + 1)))
def rH (E : GE) (ah : Nat → Nat → Nat) (h : HS) : va_W := (ah 0 0, .inr (4, [.ref (ah 0 1), .int (h 0 0 1), .int (h 0 0 2)])) :: (ah 0 1, .inl (E.2.1 3, 30, .inr (.inr (.inr (.inr (fun i => some (ah (i + 1) 0))))))) :: rHw E ah h (List.range 30)
def rHr (E : GE) (ah : Nat → Nat → Nat) (h : HS) (j : Nat) : va_W := (ah 0 0, .inr (4, [.ref (ah 0 1), .int (h 0 0 1), .int (h 0 0 2)])) :: (ah 0 1, .inl (E.2.1 3, 30, .inr (.inr (.inr (.inr (fun i => some (ah (i + 1) 0))))))) :: rHw E ah h ((List.range 30).erase j)
theorem hset_eq (h : HS) (j : Nat) (w : RS) : hset h j w j = w := by simp [hset]
theorem hset_ne (h : HS) {i j : Nat} (w : RS) (hn : i ≠ j) : hset h j w i = h i := by
  unfold hset
  have : Nat.beq i j = false := by
    cases q : Nat.beq i j with
    | false => rfl
    | true => exact absurd (Nat.eq_of_beq_eq_true q) hn
  rw [this]
  rfl
theorem rHw_set (E : GE) (ah : Nat → Nat → Nat) (h : HS) (j : Nat) (w : RS) (l : List Nat) (hj : j ∉ l) : rHw E ah (hset h (j + 1) w) l = rHw E ah h l := by
  unfold rHw
  induction l with
  | nil => rfl
  | cons a l ih =>
    have hne : a + 1 ≠ j + 1 := fun q => hj (List.mem_cons.mpr (Or.inl (by omega)))
    rw [List.flatMap_cons, List.flatMap_cons, ih (fun q => hj (List.mem_cons_of_mem _ q)), hset_ne h w hne]
theorem rHr_set (E : GE) (ah : Nat → Nat → Nat) (h : HS) (j : Nat) (w : RS) : rHr E ah (hset h (j + 1) w) j = rHr E ah h j := by
  unfold rHr
  rw [rHw_set E ah h j w _ (by rw [List.Nodup.mem_erase_iff List.nodup_range]; simp), hset_ne h w (by omega)]
theorem rH_perm {E : GE} {ah : Nat → Nat → Nat} {h : HS} {j : Nat} (hj : j < 30) : (rH E ah h).Perm (rW E (ah (j + 1)) (h (j + 1)) ++ rHr E ah h j) := by
  have h1 : (rHw E ah h (List.range 30)).Perm (rW E (ah (j + 1)) (h (j + 1)) ++ rHw E ah h ((List.range 30).erase j)) := by
    have := (List.perm_cons_erase (List.mem_range.mpr hj)).flatMap_right (fun i => rW E (ah (i + 1)) (h (i + 1)))
    rw [List.flatMap_cons] at this
    exact this
  unfold rH rHr
  refine ((h1.cons _).cons _).trans ?_
  exact (((List.perm_middle (l₁ := rW E (ah (j + 1)) (h (j + 1)))).symm).cons _).trans (List.perm_middle (l₁ := rW E (ah (j + 1)) (h (j + 1)))).symm
theorem inb_lt {i : Int32} {n : Nat} (h : inb i n = true) : i.toNatClampNeg < n := Nat.not_le.mp fun q => inb_in h (Or.inr q)
theorem pA1 {a h w r : va_W} (hp : h.Perm (w ++ r)) : (a ++ (h ++ [])).Perm ((w ++ (a ++ [])) ++ r) := by
  rw [List.append_nil, List.append_nil]
  refine (hp.append_left a).trans ?_
  rw [← List.append_assoc]
  exact List.perm_append_comm.append_right r
theorem pA2 {a h w r : va_W} (hp : h.Perm (w ++ r)) : (a ++ (h ++ [])).Perm ((a ++ (w ++ [])) ++ r) := by
  rw [List.append_nil, List.append_nil, List.append_assoc]
  exact hp.append_left a
theorem pA3 {h1 h2 w1 w2 r1 r2 : va_W} (p1 : h1.Perm (w1 ++ r1)) (p2 : h2.Perm (w2 ++ r2)) : (h1 ++ (h2 ++ [])).Perm ((w1 ++ (w2 ++ [])) ++ (r1 ++ r2)) := by
  rw [List.append_nil, List.append_nil]
  refine (p1.append p2).trans ?_
  rw [List.append_assoc, List.append_assoc]
  refine List.Perm.append_left w1 ?_
  rw [← List.append_assoc, ← List.append_assoc]
  exact List.perm_append_comm.append_right r2
theorem ph1 {E : GE} {aw : Nat → Nat} {w : RS} {ah : Nat → Nat → Nat} {h : HS} {j : Nat} (hj : j < 30) : (rW E aw w ++ (rH E ah h ++ [])).Perm ((rW E (ah (j + 1)) (h (j + 1)) ++ (rW E aw w ++ [])) ++ rHr E ah h j) := pA1 (rH_perm hj)
theorem ph1b {E : GE} {aw : Nat → Nat} {w r : RS} {ah : Nat → Nat → Nat} {h : HS} {j : Nat} (hj : j < 30) : ((rW E (ah (j + 1)) r ++ (rW E aw w ++ [])) ++ rHr E ah h j).Perm (rW E aw w ++ (rH E ah (hset h (j + 1) r) ++ [])) := by
  have := (ph1 (E := E) (aw := aw) (w := w) (ah := ah) (h := hset h (j + 1) r) hj).symm
  rw [rHr_set, hset_eq] at this
  exact this
theorem ph2 {E : GE} {aw : Nat → Nat} {w : RS} {ah : Nat → Nat → Nat} {h : HS} {j : Nat} (hj : j < 30) : (rW E aw w ++ (rH E ah h ++ [])).Perm ((rW E aw w ++ (rW E (ah (j + 1)) (h (j + 1)) ++ [])) ++ rHr E ah h j) := pA2 (rH_perm hj)
theorem ph3 {E : GE} {ah aj : Nat → Nat → Nat} {h g : HS} {j k : Nat} (hj : j < 30) (hk : k < 30) : (rH E ah h ++ (rH E aj g ++ [])).Perm ((rW E (ah (j + 1)) (h (j + 1)) ++ (rW E (aj (k + 1)) (g (k + 1)) ++ [])) ++ (rHr E ah h j ++ rHr E aj g k)) := pA3 (rH_perm hj) (rH_perm hk)
theorem ph3b {E : GE} {ah aj : Nat → Nat → Nat} {h g : HS} {r : RS} {j k : Nat} (hj : j < 30) (hk : k < 30) : ((rW E (ah (j + 1)) r ++ (rW E (aj (k + 1)) (g (k + 1)) ++ [])) ++ (rHr E ah h j ++ rHr E aj g k)).Perm (rH E ah (hset h (j + 1) r) ++ (rH E aj g ++ [])) := by
  have := (ph3 (E := E) (ah := ah) (aj := aj) (h := hset h (j + 1) r) (g := g) hj hk).symm
  rw [rHr_set, hset_eq] at this
  exact this
theorem pfst {r a : va_W} : (r ++ a).Perm (r ++ a) := List.Perm.refl _
theorem pnext {x r a b : va_W} (h : a.Perm (x ++ b)) : (r ++ a).Perm (x ++ (r ++ b)) := pout h
theorem pcons {ws x a c d : va_W} (h1 : ws.Perm (x ++ a)) (h2 : a.Perm (c ++ d)) : ws.Perm ((x ++ c) ++ d) := h1.trans (by rw [List.append_assoc]; exact h2.append_left x)
theorem g_ref {p : Program} {l : Launch} {e : Env} {R : Room} {s : State} {m : MethodId} {args : Array Value} {below : List Frame} {meth : Method} {c : Code} {H : Heap} {locs : List Loc} {cells slots : Nat} {Q : State → Prop} {pc : Nat} {ls : Array Slot} {rest : List Value} {x v : Value} (h : v = x) (k : W p l e R s m args below meth c H locs cells slots Q (F0 m pc ls (v :: rest))) : W p l e R s m args below meth c H locs cells slots Q (F0 m pc ls (x :: rest)) := h ▸ k
def fX11_feed (N : Nat) (x1 : Int32) (x2 : Int32) (x3 : Int32) (x4 : Int32) (x5 : Int32) (xx : RS) (rr : RS) : Option (Int32 × RS) := if (rr 0 1) ≤ 280 then (bnd (fX8_append N x1 rr) fun r1 => bnd (fX8_append N x2 r1) fun r2 => bnd (fX8_append N x3 r2) fun r3 => bnd (fX8_append N x4 r3) fun r4 => bnd (fX8_append N x5 r4) fun r5 => some ((r5 0 1), r5)) else (some ((-1), rr))
def fX11_end (x1 : Int32) (xx : RS) (rr : RS) : Int32 × RS := if x1 < 0 then (((-1), rr)) else (if x1 ≤ (rr 0 1) then (thn (st rr 0 1 x1) fun rr_1 => (x1, rr_1)) else (((-1), rr)))
def fX11_fault (x1 : Int32) (xx : RS) (rr : RS) : Int32 := if x1 = 0 then ((rr 0 2)) else (if x1 = 1 then ((rr 0 3)) else ((-1)))
def fX11_isExtent (x0 : Int32) : Int32 := if x0 < 0 then (0) else (if 10 ≤ x0 then (0) else (1))
def fX11_isBlock (N : Nat) (x0 : Int32) (x1 : Int32) : Option (Int32) := if (fX11_isExtent x0) = 0 then (some 0) else (if x1 < 0 then (some 0) else (ck (inb x0 10) <| if (sizeT x0.toNatClampNeg) ≤ x1 then (some 0) else (some 1)))
def fX4_push (N : Nat) (ww : RS) (hh : HS) : Option (HS) := ck (inb (irem ((hh 0 0 1) + (hh 0 0 2)) 30) 30) <| thn (fX10_copyFrom (hh ((irem ((hh 0 0 1) + (hh 0 0 2)) 30).toNatClampNeg + 1)) ww) fun r2 => thn (hset hh ((irem ((hh 0 0 1) + (hh 0 0 2)) 30).toNatClampNeg + 1) r2) fun hh_3 => if 30 ≤ (hh_3 0 0 2) then (thn (hst hh_3 1 (irem ((hh_3 0 0 1) + 1) 30)) fun hh_4 => some hh_4) else (thn (hst hh_3 2 ((hh_3 0 0 2) + 1)) fun hh_5 => some hh_5)
def fX11_read (N : Nat) (x1 : Int32) (x2 : Int32) (xx : RS) (nn : RS) (hh : HS) : Option (Int32 × RS × HS) := bnd (fX11_isBlock N x1 x2) fun r1 => if r1 = 0 then (some ((-1), nn, hh)) else (bnd (fX4_push N nn hh) fun r3 => bnd (fX10_readBlock N x1 x2 nn) fun r4 => some (r4.1, r4.2, r3))
def fX11_write (N : Nat) (x1 : Int32) (x2 : Int32) (x3 : Int32) (xx : RS) (nn : RS) (hh : HS) : Option (Int32 × RS × HS) := bnd (fX11_isBlock N x1 x2) fun r1 => if r1 = 0 then (some ((-1), nn, hh)) else (if x3 < 0 then (some ((-1), nn, hh)) else (if x3 < 1000 then (bnd (fX4_push N nn hh) fun r3 => bnd (fX10_writeBlock N x1 x2 x3 nn) fun r4 => ck (inb x1 10) <| some ((r4 3 x1.toNatClampNeg), r4, r3)) else (some ((-1), nn, hh))))
def fX11_scan (N : Nat) (x1 : Int32) (x2 : Int32) (xx : RS) (nn : RS) (hh : HS) : Option (Int32 × RS × HS) := if (fX11_isExtent x1) = 0 then (some ((-1), nn, hh)) else (if (fX11_isExtent x2) = 0 then (some ((-1), nn, hh)) else (if x1 ≤ x2 then (bnd (fX4_push N nn hh) fun r3 => thn (nn 1 8) fun x3_4 => bnd (fX10_readExtents N x1 x2 23 nn) fun r5 => some (((r5.2 1 8) - x3_4), r5.2, r3)) else (some ((-1), nn, hh))))
def fX11_pin (N : Nat) (x1 : Int32) (x2 : Int32) (xx : RS) (nn : RS) (hh : HS) : Option (Int32 × RS × HS) := if (fX11_isExtent x1) = 0 then (some (0, nn, hh)) else (if x2 < 0 then (some (0, nn, hh)) else (if 2 < x2 then (some (0, nn, hh)) else (ck (inb x1 10) <| if (nn 4 x1.toNatClampNeg) = x2 then (some (0, nn, hh)) else (bnd (fX4_push N nn hh) fun r3 => thn (st nn 4 x1.toNatClampNeg x2) fun nn_4 => bnd (fX10_writeDown N 5 x1 x2 nn_4) fun r5 => some (1, r5, r3)))))
def fX11_mostTold (x0 : Int32) : Int32 := if x0 = 0 then (6) else (if x0 = 1 then (12) else (40))
def fX11_tell (N : Nat) (x1 : Int32) (x2 : Int32) (xx : RS) (nn : RS) (hh : HS) : Option (Int32 × RS × HS) := if x1 < 0 then (some (0, nn, hh)) else (if 2 < x1 then (some (0, nn, hh)) else (if x2 < 0 then (some (0, nn, hh)) else (if x2 ≤ (fX11_mostTold x1) then (bnd (fX4_push N nn hh) fun r1 => ck (inb (4 + x1) 13) <| thn (st nn 1 (4 + x1).toNatClampNeg x2) fun nn_3 => some (1, nn_3, r1)) else (some (0, nn, hh)))))
def fX11_ask (N : Nat) (x1 : Int32) (xx : RS) (nn : RS) (hh : HS) : Option (Int32 × RS × HS) := if (fX11_isExtent x1) = 0 then (some ((-1), nn, hh)) else (bnd (fX5_find N x1 nn) fun r2 => if r2 = (-1) then (bnd (fX4_push N nn hh) fun r3 => ck (inb x1 10) <| bnd (fX5_add N x1 (1 - (nn 3 x1.toNatClampNeg)) nn) fun r5 => some ((r5 23 0), r5, r3)) else (some ((-1), nn, hh)))
def fX11_drop (N : Nat) (x1 : Int32) (xx : RS) (nn : RS) (hh : HS) : Option (Int32 × RS × HS) := bnd (fX5_find N x1 nn) fun r1 => if r1 = (-1) then (some ((-1), nn, hh)) else (bnd (fX4_push N nn hh) fun r2 => bnd (fX10_dropMove N r1 nn) fun r3 => some ((r3 23 0), r3, r2))
def fX11_isDays (x0 : Int32) : Int32 := if x0 < 1 then (0) else (if 8 < x0 then (0) else (1))
def fX11_day (N : Nat) (x1 : Int32) (xx : RS) (nn : RS) (pp : RS) (hh : HS) : Option (Int32 × RS × RS × HS) := if (fX11_isDays x1) = 0 then (some ((-1), nn, pp, hh)) else (bnd (fX4_push N nn hh) fun r2 => bnd (fX10_pass N x1 nn pp) fun r3 => some ((r3.1 1 0), r3.1, r3.2, r2))
def fX11_crash (N : Nat) (xx : RS) (nn : RS) (hh : HS) : Option (Int32 × RS × HS) := bnd (fX4_push N nn hh) fun r1 => bnd (fX10_loseMemory N nn) fun r2 => some (r2.1, r2.2, r1)
def fX11_years (N : Nat) (x1 : Int32) (x2 : Int32) (xx : RS) (nn : RS) (pp : RS) (hh : HS) : Option (Int32 × RS × RS × HS) := if x1 < 0 then (some ((-1), nn, pp, hh)) else (if 9999 < x1 then (some ((-1), nn, pp, hh)) else (if x2 < 1 then (some ((-1), nn, pp, hh)) else (if x2 ≤ 24 then (bnd (fX4_push N nn hh) fun r1 => bnd (fX10_live N x1 x2 nn pp) fun r2 => some ((r2.1 1 0), r2.1, r2.2, r1)) else (some ((-1), nn, pp, hh)))))
def fX4_pop (N : Nat) (ww : RS) (hh : HS) : Option (Int32 × RS × HS) := if (hh 0 0 2) = 0 then (some (0, ww, hh)) else (thn (hst hh 2 ((hh 0 0 2) - 1)) fun hh_1 => ck (inb (irem ((hh_1 0 0 1) + (hh_1 0 0 2)) 30) 30) <| thn (fX10_copyFrom ww (hh_1 ((irem ((hh_1 0 0 1) + (hh_1 0 0 2)) 30).toNatClampNeg + 1))) fun r3 => some (1, r3, hh_1))
def fX11_undo (N : Nat) (xx : RS) (nn : RS) (hh : HS) : Option (Int32 × RS × HS) := bnd (fX4_pop N nn hh) fun r1 => if r1.1 = 0 then (some ((-1), r1.2.1, r1.2.2)) else (some ((r1.2.2 0 0 2), r1.2.1, r1.2.2))
def fX11_is (N : Nat) (x1 : Int32) (xx : RS) (nn : RS) : Option (Int32) := if x1 < 0 then (some (-1)) else (if 13 ≤ x1 then (some (-1)) else (ck (inb x1 13) <| some (nn 1 x1.toNatClampNeg)))
def fX11_where (N : Nat) (x1 : Int32) (xx : RS) (nn : RS) : Option (Int32) := if (fX11_isExtent x1) = 0 then (some (-1)) else (ck (inb x1 10) <| some (nn 3 x1.toNatClampNeg))
def fX11_slot (N : Nat) (x1 : Int32) (x2 : Int32) (xx : RS) (nn : RS) : Option (Int32) := bnd (fX11_isBlock N x1 x2) fun r1 => if r1 = 0 then (some (-1)) else (ck (inb x1 10) <| if (nn 3 x1.toNatClampNeg) = 0 then (some (-1)) else (ck (inb ((startT x1.toNatClampNeg) + x2) 23) <| some (nn 18 ((startT x1.toNatClampNeg) + x2).toNatClampNeg)))
def fX11_on (N : Nat) (x1 : Int32) (x2 : Int32) (xx : RS) (nn : RS) : Option (Int32) := if x1 = 1 then (if x2 < 0 then (some (-1)) else (if 9 ≤ x2 then (some (-1)) else (ck (inb x2 9) <| some (nn 17 x2.toNatClampNeg)))) else (if x1 = 0 then (if x2 < 0 then (some (-1)) else (if 23 ≤ x2 then (some (-1)) else (ck (inb x2 23) <| some (nn 16 x2.toNatClampNeg)))) else (some (-1)))
def fX11_holder (N : Nat) (x1 : Int32) (xx : RS) (nn : RS) : Option (Int32) := if x1 < 0 then (some (-1)) else (if 9 ≤ x1 then (some (-1)) else (ck (inb x1 9) <| some (nn 19 x1.toNatClampNeg)))
def fX11_free (N : Nat) (x1 : Int32) (xx : RS) (nn : RS) : Option (Int32) := if x1 < 0 then (some (-1)) else (if 9 ≤ x1 then (some (-1)) else (bnd (fX1_lowestFree N x1 nn) fun r1 => some r1))
def fX11_position (N : Nat) (x1 : Int32) (x2 : Int32) (xx : RS) : Option (Int32) := bnd (fX11_isBlock N x1 x2) fun r1 => if r1 = 0 then (some (-1)) else (ck (inb x1 10) <| some ((startT x1.toNatClampNeg) + x2))
def fX11_heat (N : Nat) (x1 : Int32) (xx : RS) (nn : RS) : Option (Int32) := if (fX11_isExtent x1) = 0 then (some (-1)) else (ck (inb x1 10) <| some (nn 9 x1.toNatClampNeg))
def fX11_of (N : Nat) (x1 : Int32) (x2 : Int32) (xx : RS) (nn : RS) : Option (Int32) := if (fX11_isExtent x1) = 0 then (some (-1)) else (bnd (fX2_detail N x1 x2 nn) fun r2 => some r2)
def fX11_head (N : Nat) (x1 : Int32) (x2 : Int32) (xx : RS) (nn : RS) : Option (Int32) := bnd (fX3_detail N x1 x2 nn) fun r1 => some r1
def fX11_move (N : Nat) (x1 : Int32) (x2 : Int32) (xx : RS) (nn : RS) : Option (Int32) := if x1 = (-1) then (some (nn 23 0)) else (if x1 < 0 then (some (-2)) else (if x1 < (nn 23 0) then (if x2 = 3 then (bnd (fX10_blocksToCopy N x1 nn) fun r2 => some r2) else (bnd (fX5_detail N x1 x2 nn) fun r1 => some r1)) else (some (-2))))
def fX11_moveOf (N : Nat) (x1 : Int32) (xx : RS) (nn : RS) : Option (Int32) := bnd (fX5_find N x1 nn) fun r1 => some r1
def fX11_plan (N : Nat) (xx : RS) (nn : RS) (pp : RS) : Option (Int32 × RS) := bnd (fX6_makeFor N (nn 1 5) nn pp) fun r1 => some ((r1 0 9), r1)
def fX11_worth (N : Nat) (x1 : Int32) (xx : RS) (nn : RS) (pp : RS) : Option (Int32 × RS) := if x1 < 0 then (some ((-2147483648), pp)) else (if x1 ≤ 12 then (bnd (fX6_makeFor N x1 nn pp) fun r1 => some ((r1 0 10), r1)) else (some ((-2147483648), pp)))
def fX11_value (N : Nat) (x1 : Int32) (xx : RS) (nn : RS) (pp : RS) : Option (Int32 × RS) := bnd (fX6_weigh N (nn 1 5) nn pp) fun r1 => bnd (fX6_allows N x1 r1) fun r2 => if r2 = 0 then (some ((-2147483648), r1)) else (bnd (fX6_worthOf N x1 r1) fun r4 => some (r4, r1))
def fX11_needs (N : Nat) (x1 : Int32) (xx : RS) (nn : RS) (pp : RS) : Option (Int32 × RS) := bnd (fX6_weigh N (nn 1 5) nn pp) fun r1 => bnd (fX6_allows N x1 r1) fun r2 => if r2 = 0 then (some ((-1), r1)) else (bnd (fX6_needOf N x1 r1) fun r4 => some (r4, r1))
def fX11_threshold (N : Nat) (x1 : Int32) (xx : RS) (nn : RS) (pp : RS) : Option (Int32 × RS) := if (fX11_isExtent x1) = 0 then (some ((-1), pp)) else (bnd (fX6_leastHeat N x1 nn pp) fun r2 => some (r2.1, r2.2))
def fX11_displaced (N : Nat) (x1 : Int32) (xx : RS) (nn : RS) (pp : RS) : Option (Int32 × RS) := if (fX11_isExtent x1) = 0 then (some ((-1), pp)) else (bnd (fX6_leastHeat N x1 nn pp) fun r2 => if r2.1 = (-1) then (some ((-1), r2.2)) else (thn (r2.2 0 9) fun x2_3 => bnd (fX6_makeFor N (nn 1 5) nn r2.2) fun r4 => some (((r4 0 9) &&& (x2_3 ^^^ (-1))), r4)))
def fX11_may (N : Nat) (x1 : Int32) (x2 : Int32) (xx : RS) (nn : RS) (pp : RS) : Option (Int32 × RS) := if (fX11_isExtent x1) = 0 then (some (0, pp)) else (bnd (fX6_weigh N (nn 1 5) nn pp) fun r2 => bnd (fX6_force N x1 x2 r2) fun r3 => bnd (fX6_choose N r3) fun r4 => some (r4.1, r4.2))
def fX11_next (N : Nat) (x1 : Int32) (xx : RS) (nn : RS) (pp : RS) : Option (Int32 × RS) := bnd (fX6_makeFor N (nn 1 5) nn pp) fun r1 => bnd (fX6_listMoves N nn r1) fun r2 => if x1 = (-1) then (some ((r2 0 12), r2)) else (if x1 < 0 then (some ((-2), r2)) else (if (r2 0 12) ≤ x1 then (some ((-2), r2)) else (ck (inb x1 10) <| some ((r2 8 x1.toNatClampNeg), r2))))
def fX11_enough_L23 (N : Nat) (xx : RS) (nn : RS) : Nat → Int32 → Int32 → RS → Option (Int32 × RS)
  | 0, _, _, _ => none
  | k + 1, x1, x2, pp => if 12 ≤ x2 then (some (12, pp)) else (bnd (fX6_makeFor N x2 nn pp) fun r1 => if (r1 0 10) = x1 then (some (x2, r1)) else (fX11_enough_L23 N xx nn k x1 (x2 + 1) r1))
def fX11_enough (N : Nat) (xx : RS) (nn : RS) (pp : RS) : Option (Int32 × RS) := bnd (fX6_makeFor N 12 nn pp) fun r1 => thn (r1 0 10) fun x1_2 => fX11_enough_L23 N xx nn N x1_2 0 r1
def fX11_gained (N : Nat) (x1 : Int32) (xx : RS) (nn : RS) : Option (Int32) := if (fX11_isExtent x1) = 0 then (some (-2147483648)) else (ck (inb x1 10) <| if (nn 3 x1.toNatClampNeg) = 0 then (some (-2147483648)) else (some ((nn 8 x1.toNatClampNeg) - (9 * (sizeT x1.toNatClampNeg)))))
def fX11_foretold (N : Nat) (x1 : Int32) (x2 : Int32) (xx : RS) (nn : RS) (ss : RS) (pp : RS) : Option (Int32 × RS × RS) := if (fX11_isDays x1) = 0 then (some ((-1), ss, pp)) else (if (fX11_isExtent x2) = 0 then (some ((-1), ss, pp)) else (thn (fX10_copyFrom ss nn) fun r3 => bnd (fX10_pass N x1 r3 pp) fun r4 => ck (inb x2 10) <| some ((r4.1 3 x2.toNatClampNeg), r4.1, r4.2)))
def fX11_copies (N : Nat) (x1 : Int32) (xx : RS) (nn : RS) (ss : RS) (pp : RS) : Option (Int32 × RS × RS) := if (fX11_isDays x1) = 0 then (some ((-1), ss, pp)) else (thn (fX10_copyFrom ss nn) fun r2 => bnd (fX10_pass N x1 r2 pp) fun r3 => some (((r3.1 1 10) - (nn 1 10)), r3.1, r3.2))
def fX11_rank_L2 (N : Nat) (x1 : Int32) (xx : RS) (nn : RS) : Nat → Int32 → Option (Int32)
  | 0, _ => none
  | k + 1, x2 => if 10 ≤ x2 then (some (-1)) else (bnd (fX2_hotterThan N x2 nn) fun r1 => if r1 = x1 then (some x2) else (fX11_rank_L2 N x1 xx nn k (x2 + 1)))
def fX11_rank (N : Nat) (x1 : Int32) (xx : RS) (nn : RS) : Option (Int32) := fX11_rank_L2 N x1 xx nn N 0
def fX11_coldest_L48 (N : Nat) (x1 : Int32) (xx : RS) (nn : RS) (k4 : (Int32 → Int32 → Option (Int32))) (x2 : Int32) (x3 : Int32) : Option (Int32) := k4 x2 (x3 + 1)
def fX11_coldest_L46 (N : Nat) (x1 : Int32) (xx : RS) (nn : RS) (k4 : (Int32 → Int32 → Option (Int32))) (x3 : Int32) : Option (Int32) := fX11_coldest_L48 N x1 xx nn k4 x3 x3
def fX11_coldest_L4 (N : Nat) (x1 : Int32) (xx : RS) (nn : RS) : Nat → Int32 → Int32 → Option (Int32)
  | 0, _, _ => none
  | k + 1, x2, x3 => if 10 ≤ x3 then (some x2) else (ck (inb x3 10) <| if (nn 3 x3.toNatClampNeg) = x1 then (if x2 = (-1) then (fX11_coldest_L46 N x1 xx nn (fX11_coldest_L4 N x1 xx nn k) x3) else (bnd (fX2_hotter N x2 x3 nn) fun r2 => if r2 = 0 then (fX11_coldest_L48 N x1 xx nn (fX11_coldest_L4 N x1 xx nn k) x2 x3) else (fX11_coldest_L46 N x1 xx nn (fX11_coldest_L4 N x1 xx nn k) x3))) else (fX11_coldest_L48 N x1 xx nn (fX11_coldest_L4 N x1 xx nn k) x2 x3))
def fX11_coldest (N : Nat) (x1 : Int32) (xx : RS) (nn : RS) : Option (Int32) := fX11_coldest_L4 N x1 xx nn N (-1) 0
def fX11_warmth_L54 (N : Nat) (x1 : Int32) (xx : RS) (nn : RS) (k15 : (Int32 → Int32 → Option (Int32))) (x3 : Int32) (s0 : Int32) (s1 : Int32) : Option (Int32) := thn (s0 + s1) fun x2_1 => k15 x2_1 (x3 + 1)
def fX11_warmth_L15 (N : Nat) (x1 : Int32) (xx : RS) (nn : RS) : Nat → Int32 → Int32 → Option (Int32)
  | 0, _, _ => none
  | k + 1, x2, x3 => if 10 ≤ x3 then (some x2) else (ck (inb x3 10) <| if (nn 3 x3.toNatClampNeg) = x1 then (fX11_warmth_L54 N x1 xx nn (fX11_warmth_L15 N x1 xx nn k) x3 x2 (nn 9 x3.toNatClampNeg)) else (fX11_warmth_L54 N x1 xx nn (fX11_warmth_L15 N x1 xx nn k) x3 x2 0))
def fX11_warmth_L11 (N : Nat) (x1 : Int32) (xx : RS) (nn : RS) : Option (Int32) := fX11_warmth_L15 N x1 xx nn N 0 0
def fX11_warmth (N : Nat) (x1 : Int32) (xx : RS) (nn : RS) : Option (Int32) := if x1 = 0 then (fX11_warmth_L11 N x1 xx nn) else (if x1 = 1 then (fX11_warmth_L11 N x1 xx nn) else (some (-1)))
def fX11_cools (N : Nat) (x1 : Int32) (xx : RS) (nn : RS) : Option (Int32) := if (fX11_isExtent x1) = 0 then (some (-1)) else (ck (inb x1 10) <| some (32 - (fJ6_numberOfLeadingZeros_0f7a4 (nn 9 x1.toNatClampNeg))))
def fX11_bitsOf_L84 (N : Nat) (x0 : UInt64) (x2 : Int32) (x3 : Int32) (x4 : UInt64) (x6 : Int32) : Option (Int64) := thn (lshl 1 x2) fun x7_1 => ck (n64 (FP.dsub x4 FP.dconst1)) <| ck (n64 (FP.dmul (FP.dsub x4 FP.dconst1) (FP.l2d x7_1))) <| some (((x6.toInt64) * x7_1) + (FP.d2l (FP.dmul (FP.dsub x4 FP.dconst1) (FP.l2d x7_1))))
def fX11_bitsOf_L53 (N : Nat) (x0 : UInt64) (x2 : Int32) (x3 : Int32) : Nat → UInt64 → Int32 → Int32 → Option (Int64)
  | 0, _, _, _ => none
  | k + 1, x4, x6, x7 => if 64 ≤ x7 then (fX11_bitsOf_L84 N x0 x2 x3 x4 x6) else (if 0 ≤ (Op.cmpValue (FP.dcmp x4 FP.dconst1) CmpOp.g) then (fX11_bitsOf_L84 N x0 x2 x3 x4 x6) else (ck (n64 (FP.dmul x4 4611686018427387904)) <| thn (FP.dmul x4 4611686018427387904) fun x4_2 => fX11_bitsOf_L53 N x0 x2 x3 k x4_2 (x6 + (-1)) (x7 + 1)))
def fX11_bitsOf_L50 (N : Nat) (x0 : UInt64) (x2 : Int32) (x3 : Int32) (x4 : UInt64) (x6 : Int32) : Option (Int64) := fX11_bitsOf_L53 N x0 x2 x3 N x4 x6 0
def fX11_bitsOf_L17 (N : Nat) (x0 : UInt64) (x2 : Int32) (x3 : Int32) : Nat → UInt64 → Int32 → Int32 → Option (Int64)
  | 0, _, _, _ => none
  | k + 1, x4, x6, x7 => if 64 ≤ x7 then (fX11_bitsOf_L50 N x0 x2 x3 x4 x6) else (if (Op.cmpValue (FP.dcmp x4 4611686018427387904) CmpOp.l) < 0 then (fX11_bitsOf_L50 N x0 x2 x3 x4 x6) else (ck (n64 (FP.ddiv x4 4611686018427387904)) <| thn (FP.ddiv x4 4611686018427387904) fun x4_2 => fX11_bitsOf_L17 N x0 x2 x3 k x4_2 (x6 + 1) (x7 + 1)))
def fX11_bitsOf (N : Nat) (x0 : UInt64) (x2 : Int32) (x3 : Int32) : Option (Int64) := if 0 < (Op.cmpValue (FP.dcmp x0 FP.dconst0) CmpOp.g) then (fX11_bitsOf_L17 N x0 x2 x3 N x0 x3 0) else (some 0)
def fX11_share (N : Nat) (xx : RS) (nn : RS) : Option (Int32) := thn (nn 1 7) fun x1_1 => if x1_1 = 0 then (some 0) else (ck (n32 (FP.fdiv (FP.i2f (nn 1 8)) (FP.i2f x1_1))) <| thn (FP.fdiv (FP.i2f (nn 1 8)) (FP.i2f x1_1)) fun x2_3 => ck (n64 (FP.f2d x2_3)) <| bnd (fX11_bitsOf N (FP.f2d x2_3) 23 127) fun r5 => some (r5.toInt32))
def fX11_mean (N : Nat) (xx : RS) (nn : RS) : Option (Int64) := thn (nn 1 7) fun x1_1 => if x1_1 = 0 then (some 0) else (ck (n64 (FP.ddiv (FP.i2d (nn 1 3)) (FP.i2d x1_1))) <| bnd (fX11_bitsOf N (FP.ddiv (FP.i2d (nn 1 3)) (FP.i2d x1_1)) 52 1023) fun r3 => some r3)
def fX11_book (N : Nat) (x1 : Int32) (x2 : Int32) (xx : RS) (nn : RS) : Option (Int32) := bnd (fX0_detail N x1 x2 nn) fun r1 => some r1
def fX11_ledger (N : Nat) (x1 : Int32) (xx : RS) (nn : RS) : Option (Int32) := if x1 < 0 then (some (-1)) else (if 6 ≤ x1 then (some (-1)) else (bnd (fX0_linesOf N x1 nn) fun r1 => some r1))
def fX4_copyFrom_L15 (N : Nat) (jj : HS) : Nat → Int32 → HS → Option (HS)
  | 0, _, _ => none
  | k + 1, x2, hh => if (hh 0 0 2) ≤ x2 then (some hh) else (ck (inb x2 30) <| ck (inb (irem ((jj 0 0 1) + x2) 30) 30) <| thn (fX10_copyFrom (hh (x2.toNatClampNeg + 1)) (jj ((irem ((jj 0 0 1) + x2) 30).toNatClampNeg + 1))) fun r6 => thn (hset hh (x2.toNatClampNeg + 1) r6) fun hh_7 => fX4_copyFrom_L15 N jj k (x2 + 1) hh_7)
def fX4_copyFrom (N : Nat) (hh : HS) (jj : HS) : Option (HS) := thn (hst hh 2 (jj 0 0 2)) fun hh_2 => thn (hst hh_2 1 0) fun hh_3 => fX4_copyFrom_L15 N jj N 0 hh_3
def fX11_image (N : Nat) (xx : RS) (nn : RS) (ii : RS) (hh : HS) (jj : HS) : Option (Int32 × RS × RS × HS) := thn (fX10_copyFrom ii nn) fun r1 => bnd (fX4_copyFrom N jj hh) fun r2 => thn (st xx 0 10 (xx 0 7)) fun xx_3 => some ((nn 1 0), xx_3, r1, r2)
def fX11_back (N : Nat) (xx : RS) (nn : RS) (ii : RS) (hh : HS) (jj : HS) : Option (Int32 × RS × RS × HS) := thn (fX10_copyFrom nn ii) fun r1 => bnd (fX4_copyFrom N hh jj) fun r2 => thn (st xx 0 7 (xx 0 10)) fun xx_3 => some ((r1 1 0), xx_3, r1, r2)
def fX11_about (x1 : Int32) (xx : RS) (rr : RS) (hh : HS) : Int32 := if x1 = 0 then ((xx 0 7)) else (if x1 = 1 then ((hh 0 0 2)) else (if x1 = 2 then ((rr 0 1)) else ((-2))))
set_option maxHeartbeats 4000000 in
set_option maxRecDepth 100000 in
theorem c_X11_feed (l : Launch) (E : GE) (ax an asx ay ap ar ai : Nat → Nat) (ah aj : Nat → Nat → Nat) (tf : Nat → Option Nat) (N : Nat) (x1 : Int32) (x2 : Int32) (x3 : Int32) (x4 : Int32) (x5 : Int32) (xx : RS) (rr : RS) {res : Int32 × RS} (h : fX11_feed N x1 x2 x3 x4 x5 xx rr = some res) : gMi l E yX11_feed cX11_feed 6 .int 2 0 0 [.ref (ax 0), .int x1, .int x2, .int x3, .int x4, .int x5] (rX E ax an asx ay ap ar ai ah aj tf xx ++ (rR E ar rr ++ [])) (rX E ax an asx ay ap ar ai ah aj tf xx ++ (rR E ar res.2 ++ [])) res.1 := by
  refine gMi_of (own := RX11) (by decide +kernel) rfl (Nat.le_of_ble_eq_true rfl) ?_
  intro p e s m args below meth c A ls Q H locs C hz hl hG hret
  have hx := C.1.1
  have hb := C.1.2.1
  have hts := C.1.2.2.2.2
  have hown := C.1.2.2.2.1
  have hl : lv_has ls 6 [(0, .ref (ax 0)), (1, .int x1), (2, .int x2), (3, .int x3), (4, .int x4), (5, .int x5)] := hl
  replace hret : ∀ (r0 : Int32) (rr0 : RS) (H : Heap) (locs : List Loc) (pc : Nat) (ls' : Array Slot), some (r0, rr0) = some res → narrow .int (.int r0) = .int r0 → gG E A s.heap (rX E ax an asx ay ap ar ai ah aj tf xx ++ (rR E ar rr0 ++ [])) H locs → decode cX11_feed pc = .ok (.ireturn, 1) → W p l e (rmD 2 0 0) s m args below meth c H locs 0 0 Q (F0 m pc ls' [.int r0]) := by
    intro r0 rr0 H locs pc ls' e0 hn; cases e0; exact hret H locs pc ls' hn
  rw [fX11_feed] at h
  refine lv_aload_n hx hb dX11_feed_0 rfl (lv_at hl 0 rfl) ?_
  refine gL_f (v := .ref (ar 0)) C hG kX11 0 5 rfl (by decide) rfl q544 rfl dX11_feed_1 ?_
  refine gL_fN (v := .int (rr 0 1)) C hG kX8 2 1 rfl (by decide) rfl q493 rfl dX11_feed_4 ?_
  refine lv_sipush (v := 280) hx hb dX11_feed_7 (by decide) ?_
  refine lv_icmp_le (tgt := 15) hx hb dX11_feed_10 (by decide) (fun c10 => ?_) (fun c10 => ?_)
  · replace h := it c10 h
    refine lv_aload_n hx hb dX11_feed_15 rfl (lv_at hl 0 rfl) ?_
    refine gL_f (v := .ref (ar 0)) C hG kX11 0 5 rfl (by decide) rfl q544 rfl dX11_feed_16 ?_
    refine lv_iload_n hx hb dX11_feed_19 rfl (lv_at hl 1 rfl) ?_
    obtain ⟨r1, hcr1, h⟩ := bnd_some h
    refine gF_v (ws' := (rX E ax an asx ay ap ar ai ah aj tf xx ++ (rR E ar r1 ++ []))) C hG (pout (pin pnil)) (List.Perm.symm (pout (pin pnil))) (gR_N (As := [.int x1]) (rest := []) C hz hl.1 hG (pout (pin pnil)) (c_X8_append l E ar N x1 rr hcr1 H.size) okX8_append q577 0 rfl rfl rfl (Nat.le_of_ble_eq_true rfl) (by omega) ⟨Nat.le_refl _, Nat.le_refl _⟩ dX11_feed_20) (fun H locs hG => ?_)
    refine lv_aload_n hx hb dX11_feed_23 rfl (lv_at hl 0 rfl) ?_
    refine gL_f (v := .ref (ar 0)) C hG kX11 0 5 rfl (by decide) rfl q544 rfl dX11_feed_24 ?_
    refine lv_iload_n hx hb dX11_feed_27 rfl (lv_at hl 2 rfl) ?_
    obtain ⟨r2, hcr2, h⟩ := bnd_some h
    refine gF_v (ws' := (rX E ax an asx ay ap ar ai ah aj tf xx ++ (rR E ar r2 ++ []))) C hG (pout (pin pnil)) (List.Perm.symm (pout (pin pnil))) (gR_N (As := [.int x2]) (rest := []) C hz hl.1 hG (pout (pin pnil)) (c_X8_append l E ar N x2 r1 hcr2 H.size) okX8_append q577 0 rfl rfl rfl (Nat.le_of_ble_eq_true rfl) (by omega) ⟨Nat.le_refl _, Nat.le_refl _⟩ dX11_feed_28) (fun H locs hG => ?_)
    refine lv_aload_n hx hb dX11_feed_31 rfl (lv_at hl 0 rfl) ?_
    refine gL_f (v := .ref (ar 0)) C hG kX11 0 5 rfl (by decide) rfl q544 rfl dX11_feed_32 ?_
    refine lv_iload_n hx hb dX11_feed_35 rfl (lv_at hl 3 rfl) ?_
    obtain ⟨r3, hcr3, h⟩ := bnd_some h
    refine gF_v (ws' := (rX E ax an asx ay ap ar ai ah aj tf xx ++ (rR E ar r3 ++ []))) C hG (pout (pin pnil)) (List.Perm.symm (pout (pin pnil))) (gR_N (As := [.int x3]) (rest := []) C hz hl.1 hG (pout (pin pnil)) (c_X8_append l E ar N x3 r2 hcr3 H.size) okX8_append q577 0 rfl rfl rfl (Nat.le_of_ble_eq_true rfl) (by omega) ⟨Nat.le_refl _, Nat.le_refl _⟩ dX11_feed_36) (fun H locs hG => ?_)
    refine lv_aload_n hx hb dX11_feed_39 rfl (lv_at hl 0 rfl) ?_
    refine gL_f (v := .ref (ar 0)) C hG kX11 0 5 rfl (by decide) rfl q544 rfl dX11_feed_40 ?_
    refine lv_iload hx hb dX11_feed_43 (lv_at hl 4 rfl) ?_
    obtain ⟨r4, hcr4, h⟩ := bnd_some h
    refine gF_v (ws' := (rX E ax an asx ay ap ar ai ah aj tf xx ++ (rR E ar r4 ++ []))) C hG (pout (pin pnil)) (List.Perm.symm (pout (pin pnil))) (gR_N (As := [.int x4]) (rest := []) C hz hl.1 hG (pout (pin pnil)) (c_X8_append l E ar N x4 r3 hcr4 H.size) okX8_append q577 0 rfl rfl rfl (Nat.le_of_ble_eq_true rfl) (by omega) ⟨Nat.le_refl _, Nat.le_refl _⟩ dX11_feed_45) (fun H locs hG => ?_)
    refine lv_aload_n hx hb dX11_feed_48 rfl (lv_at hl 0 rfl) ?_
    refine gL_f (v := .ref (ar 0)) C hG kX11 0 5 rfl (by decide) rfl q544 rfl dX11_feed_49 ?_
    refine lv_iload hx hb dX11_feed_52 (lv_at hl 5 rfl) ?_
    obtain ⟨r5, hcr5, h⟩ := bnd_some h
    refine gF_v (ws' := (rX E ax an asx ay ap ar ai ah aj tf xx ++ (rR E ar r5 ++ []))) C hG (pout (pin pnil)) (List.Perm.symm (pout (pin pnil))) (gR_N (As := [.int x5]) (rest := []) C hz hl.1 hG (pout (pin pnil)) (c_X8_append l E ar N x5 r4 hcr5 H.size) okX8_append q577 0 rfl rfl rfl (Nat.le_of_ble_eq_true rfl) (by omega) ⟨Nat.le_refl _, Nat.le_refl _⟩ dX11_feed_54) (fun H locs hG => ?_)
    refine lv_aload_n hx hb dX11_feed_57 rfl (lv_at hl 0 rfl) ?_
    refine gL_f (v := .ref (ar 0)) C hG kX11 0 5 rfl (by decide) rfl q544 rfl dX11_feed_58 ?_
    refine gL_fN (v := .int (r5 0 1)) C hG kX8 2 1 rfl (by decide) rfl q493 rfl dX11_feed_61 ?_
    exact hret _ _ _ _ _ _ h rfl hG dX11_feed_64
  · replace h := ie c10 h
    refine lv_iconst (v := (-1)) hx hb dX11_feed_13 (by decide) ?_
    exact hret _ _ _ _ _ _ h rfl hG dX11_feed_14
set_option maxHeartbeats 4000000 in
set_option maxRecDepth 100000 in
theorem c_X11_end (l : Launch) (E : GE) (ax an asx ay ap ar ai : Nat → Nat) (ah aj : Nat → Nat → Nat) (tf : Nat → Option Nat) (x1 : Int32) (xx : RS) (rr : RS) {res : Int32 × RS} (h : fX11_end x1 xx rr = res) : gMi l E yX11_end cX11_end 2 .int 1 0 0 [.ref (ax 0), .int x1] (rX E ax an asx ay ap ar ai ah aj tf xx ++ (rR E ar rr ++ [])) (rX E ax an asx ay ap ar ai ah aj tf xx ++ (rR E ar res.2 ++ [])) res.1 := by
  refine gMi_of (own := RX11) (by decide +kernel) rfl (Nat.le_of_ble_eq_true rfl) ?_
  intro p e s m args below meth c A ls Q H locs C hz hl hG hret
  have hx := C.1.1
  have hb := C.1.2.1
  have hts := C.1.2.2.2.2
  have hown := C.1.2.2.2.1
  have hl : lv_has ls 2 [(0, .ref (ax 0)), (1, .int x1)] := hl
  replace hret : ∀ (r0 : Int32) (rr0 : RS) (H : Heap) (locs : List Loc) (pc : Nat) (ls' : Array Slot), (r0, rr0) = res → narrow .int (.int r0) = .int r0 → gG E A s.heap (rX E ax an asx ay ap ar ai ah aj tf xx ++ (rR E ar rr0 ++ [])) H locs → decode cX11_end pc = .ok (.ireturn, 1) → W p l e (rmD 1 0 0) s m args below meth c H locs 0 0 Q (F0 m pc ls' [.int r0]) := by
    intro r0 rr0 H locs pc ls' e0 hn; cases e0; exact hret H locs pc ls' hn
  rw [fX11_end] at h
  refine lv_iload_n hx hb dX11_end_0 rfl (lv_at hl 1 rfl) ?_
  refine lv_if_lt (tgt := 15) hx hb dX11_end_1 (by decide) (fun c1 => ?_) (fun c1 => ?_)
  · replace h := it c1 h
    refine lv_iconst (v := (-1)) hx hb dX11_end_15 (by decide) ?_
    exact hret _ _ _ _ _ _ h rfl hG dX11_end_16
  · replace h := ie c1 h
    refine lv_iload_n hx hb dX11_end_4 rfl (lv_at hl 1 rfl) ?_
    refine lv_aload_n hx hb dX11_end_5 rfl (lv_at hl 0 rfl) ?_
    refine gL_f (v := .ref (ar 0)) C hG kX11 0 5 rfl (by decide) rfl q544 rfl dX11_end_6 ?_
    refine gL_fN (v := .int (rr 0 1)) C hG kX8 2 1 rfl (by decide) rfl q493 rfl dX11_end_9 ?_
    refine lv_icmp_le (tgt := 17) hx hb dX11_end_12 (by decide) (fun c12 => ?_) (fun c12 => ?_)
    · replace h := it c12 h
      refine lv_aload_n hx hb dX11_end_17 rfl (lv_at hl 0 rfl) ?_
      refine gL_f (v := .ref (ar 0)) C hG kX11 0 5 rfl (by decide) rfl q544 rfl dX11_end_18 ?_
      refine lv_iload_n hx hb dX11_end_21 rfl (lv_at hl 1 rfl) ?_
      obtain ⟨rr_1, err_1, h⟩ := thn_some h
      refine gS_fN (v := .int x1) (ws' := (rX E ax an asx ay ap ar ai ah aj tf xx ++ (rR E ar rr_1 ++ []))) C hG kX8 2 1 rfl (by decide) q493 rfl rfl rfl rfl (by show 1 < 14; decide) dX11_end_22 (by rw [err_1]; rfl) (fun H locs hG => ?_)
      refine lv_iload_n hx hb dX11_end_25 rfl (lv_at hl 1 rfl) ?_
      exact hret _ _ _ _ _ _ h rfl hG dX11_end_26
    · replace h := ie c12 h
      refine lv_iconst (v := (-1)) hx hb dX11_end_15 (by decide) ?_
      exact hret _ _ _ _ _ _ h rfl hG dX11_end_16
set_option maxHeartbeats 4000000 in
set_option maxRecDepth 100000 in
theorem c_X11_fault (l : Launch) (E : GE) (ax an asx ay ap ar ai : Nat → Nat) (ah aj : Nat → Nat → Nat) (tf : Nat → Option Nat) (x1 : Int32) (xx : RS) (rr : RS) {res : Int32} (h : fX11_fault x1 xx rr = res) : gMi l E yX11_fault cX11_fault 2 .int 1 0 0 [.ref (ax 0), .int x1] (rX E ax an asx ay ap ar ai ah aj tf xx ++ (rR E ar rr ++ [])) (rX E ax an asx ay ap ar ai ah aj tf xx ++ (rR E ar rr ++ [])) res := by
  refine gMi_of (own := RX11) (by decide +kernel) rfl (Nat.le_of_ble_eq_true rfl) ?_
  intro p e s m args below meth c A ls Q H locs C hz hl hG hret
  have hx := C.1.1
  have hb := C.1.2.1
  have hts := C.1.2.2.2.2
  have hown := C.1.2.2.2.1
  have hl : lv_has ls 2 [(0, .ref (ax 0)), (1, .int x1)] := hl
  replace hret : ∀ (r0 : Int32) (H : Heap) (locs : List Loc) (pc : Nat) (ls' : Array Slot), r0 = res → narrow .int (.int r0) = .int r0 → gG E A s.heap (rX E ax an asx ay ap ar ai ah aj tf xx ++ (rR E ar rr ++ [])) H locs → decode cX11_fault pc = .ok (.ireturn, 1) → W p l e (rmD 1 0 0) s m args below meth c H locs 0 0 Q (F0 m pc ls' [.int r0]) := by
    intro r0 H locs pc ls' e0 hn; cases e0; exact hret H locs pc ls' hn
  rw [fX11_fault] at h
  refine lv_iload_n hx hb dX11_fault_0 rfl (lv_at hl 1 rfl) ?_
  refine lv_if_ne (tgt := 12) hx hb dX11_fault_1 (by decide) (fun c1 => ?_) (fun c1 => ?_)
  · replace h := ie c1 h
    refine lv_iload_n hx hb dX11_fault_12 rfl (lv_at hl 1 rfl) ?_
    refine lv_iconst (v := 1) hx hb dX11_fault_13 (by decide) ?_
    refine lv_icmp_ne (tgt := 27) hx hb dX11_fault_14 (by decide) (fun c14 => ?_) (fun c14 => ?_)
    · replace h := ie c14 h
      refine lv_iconst (v := (-1)) hx hb dX11_fault_27 (by decide) ?_
      exact hret _ _ _ _ _ h rfl hG dX11_fault_28
    · replace h := it c14 h
      refine lv_aload_n hx hb dX11_fault_17 rfl (lv_at hl 0 rfl) ?_
      refine gL_f (v := .ref (ar 0)) C hG kX11 0 5 rfl (by decide) rfl q544 rfl dX11_fault_18 ?_
      refine gL_fN (v := .int (rr 0 3)) C hG kX8 2 3 rfl (by decide) rfl q497 rfl dX11_fault_21 ?_
      refine lv_goto (tgt := 28) hx hb dX11_fault_24 (by decide) ?_
      exact hret _ _ _ _ _ h rfl hG dX11_fault_28
  · replace h := it c1 h
    refine lv_aload_n hx hb dX11_fault_4 rfl (lv_at hl 0 rfl) ?_
    refine gL_f (v := .ref (ar 0)) C hG kX11 0 5 rfl (by decide) rfl q544 rfl dX11_fault_5 ?_
    refine gL_fN (v := .int (rr 0 2)) C hG kX8 2 2 rfl (by decide) rfl q495 rfl dX11_fault_8 ?_
    exact hret _ _ _ _ _ h rfl hG dX11_fault_11
set_option maxHeartbeats 4000000 in
set_option maxRecDepth 100000 in
theorem c_X11_isExtent (l : Launch) (E : GE) (x0 : Int32) {res : Int32} (h : fX11_isExtent x0 = res) : gMi l E yX11_isExtent cX11_isExtent 1 .boolean 1 0 0 [.int x0] [] [] res := by
  refine gMi_of (own := RX11) (by decide +kernel) rfl (Nat.le_of_ble_eq_true rfl) ?_
  intro p e s m args below meth c A ls Q H locs C hz hl hG hret
  have hx := C.1.1
  have hb := C.1.2.1
  have hts := C.1.2.2.2.2
  have hown := C.1.2.2.2.1
  have hl : lv_has ls 1 [(0, .int x0)] := hl
  replace hret : ∀ (r0 : Int32) (H : Heap) (locs : List Loc) (pc : Nat) (ls' : Array Slot), r0 = res → narrow .boolean (.int r0) = .int r0 → gG E A s.heap [] H locs → decode cX11_isExtent pc = .ok (.ireturn, 1) → W p l e (rmD 1 0 0) s m args below meth c H locs 0 0 Q (F0 m pc ls' [.int r0]) := by
    intro r0 H locs pc ls' e0 hn; cases e0; exact hret H locs pc ls' hn
  rw [fX11_isExtent] at h
  refine lv_iload_n hx hb dX11_isExtent_0 rfl (lv_at hl 0 rfl) ?_
  refine lv_if_lt (tgt := 14) hx hb dX11_isExtent_1 (by decide) (fun c1 => ?_) (fun c1 => ?_)
  · replace h := it c1 h
    refine lv_iconst (v := 0) hx hb dX11_isExtent_14 (by decide) ?_
    exact hret _ _ _ _ _ h rfl hG dX11_isExtent_15
  · replace h := ie c1 h
    refine lv_iload_n hx hb dX11_isExtent_4 rfl (lv_at hl 0 rfl) ?_
    refine lv_bipush (v := 10) hx hb dX11_isExtent_5 (by decide) ?_
    refine lv_icmp_ge (tgt := 14) hx hb dX11_isExtent_7 (by decide) (fun c7 => ?_) (fun c7 => ?_)
    · replace h := it c7 h
      refine lv_iconst (v := 0) hx hb dX11_isExtent_14 (by decide) ?_
      exact hret _ _ _ _ _ h rfl hG dX11_isExtent_15
    · replace h := ie c7 h
      refine lv_iconst (v := 1) hx hb dX11_isExtent_10 (by decide) ?_
      refine lv_goto (tgt := 15) hx hb dX11_isExtent_11 (by decide) ?_
      exact hret _ _ _ _ _ h rfl hG dX11_isExtent_15
set_option maxHeartbeats 4000000 in
set_option maxRecDepth 100000 in
theorem c_X11_isBlock (l : Launch) (E : GE) (N : Nat) (x0 : Int32) (x1 : Int32) {res : Int32} (h : fX11_isBlock N x0 x1 = some res) : gMi l E yX11_isBlock cX11_isBlock 2 .boolean 2 0 0 [.int x0, .int x1] [] [] res := by
  refine gMi_of (own := RX11) (by decide +kernel) rfl (Nat.le_of_ble_eq_true rfl) ?_
  intro p e s m args below meth c A ls Q H locs C hz hl hG hret
  have hx := C.1.1
  have hb := C.1.2.1
  have hts := C.1.2.2.2.2
  have hown := C.1.2.2.2.1
  have hl : lv_has ls 2 [(0, .int x0), (1, .int x1)] := hl
  replace hret : ∀ (r0 : Int32) (H : Heap) (locs : List Loc) (pc : Nat) (ls' : Array Slot), some r0 = some res → narrow .boolean (.int r0) = .int r0 → gG E A s.heap [] H locs → decode cX11_isBlock pc = .ok (.ireturn, 1) → W p l e (rmD 2 0 0) s m args below meth c H locs 0 0 Q (F0 m pc ls' [.int r0]) := by
    intro r0 H locs pc ls' e0 hn; cases e0; exact hret H locs pc ls' hn
  rw [fX11_isBlock] at h
  refine lv_iload_n hx hb dX11_isBlock_0 rfl (lv_at hl 0 rfl) ?_
  refine gF_i (ws' := []) C hG pst pst.symm (gR_S (As := [.int x0]) (rest := []) C hz hl.1 hG pst (c_X11_isExtent l E x0 rfl H.size) okX11_isExtent q764 rfl (Nat.le_of_ble_eq_true rfl) (by omega) ⟨Nat.le_refl _, Nat.le_refl _⟩ dX11_isBlock_1) (fun H locs z1 hG => ?_)
  refine lv_if_eq (tgt := 24) hx hb dX11_isBlock_4 (by decide) (fun c4 => ?_) (fun c4 => ?_)
  · replace h := it c4 h
    refine lv_iconst (v := 0) hx hb dX11_isBlock_24 (by decide) ?_
    exact hret _ _ _ _ _ h rfl hG dX11_isBlock_25
  · replace h := ie c4 h
    refine lv_iload_n hx hb dX11_isBlock_7 rfl (lv_at hl 1 rfl) ?_
    refine lv_if_lt (tgt := 24) hx hb dX11_isBlock_8 (by decide) (fun c8 => ?_) (fun c8 => ?_)
    · replace h := it c8 h
      refine lv_iconst (v := 0) hx hb dX11_isBlock_24 (by decide) ?_
      exact hret _ _ _ _ _ h rfl hG dX11_isBlock_25
    · replace h := ie c8 h
      refine lv_iload_n hx hb dX11_isBlock_11 rfl (lv_at hl 1 rfl) ?_
      refine gT_z C hG q767 dX11_isBlock_12 ?_
      refine lv_iload_n hx hb dX11_isBlock_15 rfl (lv_at hl 0 rfl) ?_
      obtain ⟨b2, h⟩ := ck_some h
      refine gT_zi (v := (sizeT x0.toNatClampNeg)) C hG (inb_in b2) rfl dX11_isBlock_16 ?_
      refine lv_icmp_ge (tgt := 24) hx hb dX11_isBlock_17 (by decide) (fun c17 => ?_) (fun c17 => ?_)
      · replace h := it c17 h
        refine lv_iconst (v := 0) hx hb dX11_isBlock_24 (by decide) ?_
        exact hret _ _ _ _ _ h rfl hG dX11_isBlock_25
      · replace h := ie c17 h
        refine lv_iconst (v := 1) hx hb dX11_isBlock_20 (by decide) ?_
        refine lv_goto (tgt := 25) hx hb dX11_isBlock_21 (by decide) ?_
        exact hret _ _ _ _ _ h rfl hG dX11_isBlock_25
set_option maxHeartbeats 4000000 in
set_option maxRecDepth 100000 in
theorem c_X4_push (l : Launch) (E : GE) (aw : Nat → Nat) (ah : Nat → Nat → Nat) (N : Nat) (ww : RS) (hh : HS) {res : HS} (h : fX4_push N ww hh = some res) : gMv l E yX4_push cX4_push 2 3 0 0 [.ref (ah 0 0), .ref (aw 0)] (rW E aw ww ++ (rH E ah hh ++ [])) (rW E aw ww ++ (rH E ah res ++ [])) := by
  refine gMv_of (own := RX4) (by decide +kernel) rfl (Nat.le_of_ble_eq_true rfl) ?_
  intro p e s m args below meth c A ls Q H locs C hz hl hG hin hret
  have hx := C.1.1
  have hb := C.1.2.1
  have hts := C.1.2.2.2.2
  have hown := C.1.2.2.2.1
  have hl : lv_has ls 2 [(0, .ref (ah 0 0)), (1, .ref (aw 0))] := hl
  replace hret : ∀ (hh0 : HS) (H : Heap) (locs : List Loc) (pc : Nat) (ls' : Array Slot), some hh0 = some res → gG E A s.heap (rW E aw ww ++ (rH E ah hh0 ++ [])) H locs → decode cX4_push pc = .ok (.return_, 1) → W p l e (rmD 3 0 0) s m args below meth c H locs 0 0 Q (F0 m pc ls' []) := by
    intro hh0 H locs pc ls' e0; cases e0; exact hret H locs pc ls'
  rw [fX4_push] at h
  refine lv_aload_n hx hb dX4_push_0 rfl (lv_at hl 0 rfl) ?_
  refine gL_f (v := .ref (ah 0 1)) C hG kX4 30 0 rfl (by decide) rfl q389 rfl dX4_push_1 ?_
  refine lv_aload_n hx hb dX4_push_4 rfl (lv_at hl 0 rfl) ?_
  refine gL_f (v := .int (hh 0 0 1)) C hG kX4 30 1 rfl (by decide) rfl q390 rfl dX4_push_5 ?_
  refine lv_aload_n hx hb dX4_push_8 rfl (lv_at hl 0 rfl) ?_
  refine gL_f (v := .int (hh 0 0 2)) C hG kX4 30 2 rfl (by decide) rfl q391 rfl dX4_push_9 ?_
  refine lv_iadd hx hb dX4_push_12 ?_
  refine lv_bipush (v := 30) hx hb dX4_push_13 (by decide) ?_
  refine lv_irem hx hb dX4_push_15 (by decide) ?_
  refine g_int (v := (irem ((hh 0 0 1) + (hh 0 0 2)) 30)) rfl ?_
  obtain ⟨b1, h⟩ := ck_some h
  refine va_aldq hx hb C.2.1 hG.1 31 3 rfl rfl (inb_in b1) dX4_push_16 ?_
  refine g_ref (v := .ref (ah ((irem ((hh 0 0 1) + (hh 0 0 2)) 30).toNatClampNeg + 1) 0)) rfl ?_
  refine lv_aload_n hx hb dX4_push_17 rfl (lv_at hl 1 rfl) ?_
  obtain ⟨r2, hcr2, h⟩ := thn_some h
  obtain ⟨hh_3, ehh_3, h⟩ := thn_some h
  refine gF_v (ws' := (rW E aw ww ++ (rH E ah hh_3 ++ []))) C hG (ph1 (inb_lt b1)) (by rw [ehh_3]; exact ph1b (inb_lt b1)) (gR_N (As := [.ref (aw 0)]) (rest := []) C hz hl.1 hG (ph1 (inb_lt b1)) (c_X10_copyFrom l E (ah ((irem ((hh 0 0 1) + (hh 0 0 2)) 30).toNatClampNeg + 1)) aw (hh ((irem ((hh 0 0 1) + (hh 0 0 2)) 30).toNatClampNeg + 1)) ww hcr2.symm H.size) okX10_copyFrom q773 0 rfl rfl rfl (Nat.le_of_ble_eq_true rfl) (by omega) ⟨Nat.le_refl _, Nat.le_refl _⟩ dX4_push_18) (fun H locs hG => ?_)
  refine lv_aload_n hx hb dX4_push_21 rfl (lv_at hl 0 rfl) ?_
  refine gL_f (v := .int (hh_3 0 0 2)) C hG kX4 30 2 rfl (by decide) rfl q391 rfl dX4_push_22 ?_
  refine lv_bipush (v := 30) hx hb dX4_push_25 (by decide) ?_
  refine lv_icmp_ge (tgt := 43) hx hb dX4_push_27 (by decide) (fun c27 => ?_) (fun c27 => ?_)
  · replace h := it c27 h
    refine lv_aload_n hx hb dX4_push_43 rfl (lv_at hl 0 rfl) ?_
    refine lv_aload_n hx hb dX4_push_44 rfl (lv_at hl 0 rfl) ?_
    refine gL_f (v := .int (hh_3 0 0 1)) C hG kX4 30 1 rfl (by decide) rfl q390 rfl dX4_push_45 ?_
    refine lv_iconst (v := 1) hx hb dX4_push_48 (by decide) ?_
    refine lv_iadd hx hb dX4_push_49 ?_
    refine lv_bipush (v := 30) hx hb dX4_push_50 (by decide) ?_
    refine lv_irem hx hb dX4_push_52 (by decide) ?_
    refine g_int (v := (irem ((hh_3 0 0 1) + 1) 30)) rfl ?_
    obtain ⟨hh_4, ehh_4, h⟩ := thn_some h
    refine gS_f (v := .int (irem ((hh_3 0 0 1) + 1) 30)) (ws' := (rW E aw ww ++ (rH E ah hh_4 ++ []))) C hG kX4 30 1 rfl (by decide) q390 rfl rfl rfl rfl (by show 1 < 3; decide) dX4_push_53 (by rw [ehh_4]; rfl) (fun H locs hG => ?_)
    exact hret _ _ _ _ _ h hG dX4_push_56
  · replace h := ie c27 h
    refine lv_aload_n hx hb dX4_push_30 rfl (lv_at hl 0 rfl) ?_
    refine lv_dup hx hb dX4_push_31 rfl ?_
    refine gL_f (v := .int (hh_3 0 0 2)) C hG kX4 30 2 rfl (by decide) rfl q391 rfl dX4_push_32 ?_
    refine lv_iconst (v := 1) hx hb dX4_push_35 (by decide) ?_
    refine lv_iadd hx hb dX4_push_36 ?_
    obtain ⟨hh_5, ehh_5, h⟩ := thn_some h
    refine gS_f (v := .int ((hh_3 0 0 2) + 1)) (ws' := (rW E aw ww ++ (rH E ah hh_5 ++ []))) C hG kX4 30 2 rfl (by decide) q391 rfl rfl rfl rfl (by show 2 < 3; decide) dX4_push_37 (by rw [ehh_5]; rfl) (fun H locs hG => ?_)
    refine lv_goto (tgt := 56) hx hb dX4_push_40 (by decide) ?_
    exact hret _ _ _ _ _ h hG dX4_push_56
set_option maxHeartbeats 4000000 in
set_option maxRecDepth 100000 in
theorem c_X11_read (l : Launch) (E : GE) (ax an asx ay ap ar ai : Nat → Nat) (ah aj : Nat → Nat → Nat) (tf : Nat → Option Nat) (N : Nat) (x1 : Int32) (x2 : Int32) (xx : RS) (nn : RS) (hh : HS) {res : Int32 × RS × HS} (h : fX11_read N x1 x2 xx nn hh = some res) : gMi l E yX11_read cX11_read 3 .int 4 0 0 [.ref (ax 0), .int x1, .int x2] (rX E ax an asx ay ap ar ai ah aj tf xx ++ (rW E an nn ++ (rH E ah hh ++ []))) (rX E ax an asx ay ap ar ai ah aj tf xx ++ (rW E an res.2.1 ++ (rH E ah res.2.2 ++ []))) res.1 := by
  refine gMi_of (own := RX11) (by decide +kernel) rfl (Nat.le_of_ble_eq_true rfl) ?_
  intro p e s m args below meth c A ls Q H locs C hz hl hG hret
  have hx := C.1.1
  have hb := C.1.2.1
  have hts := C.1.2.2.2.2
  have hown := C.1.2.2.2.1
  have hl : lv_has ls 3 [(0, .ref (ax 0)), (1, .int x1), (2, .int x2)] := hl
  replace hret : ∀ (r0 : Int32) (nn0 : RS) (hh0 : HS) (H : Heap) (locs : List Loc) (pc : Nat) (ls' : Array Slot), some (r0, nn0, hh0) = some res → narrow .int (.int r0) = .int r0 → gG E A s.heap (rX E ax an asx ay ap ar ai ah aj tf xx ++ (rW E an nn0 ++ (rH E ah hh0 ++ []))) H locs → decode cX11_read pc = .ok (.ireturn, 1) → W p l e (rmD 4 0 0) s m args below meth c H locs 0 0 Q (F0 m pc ls' [.int r0]) := by
    intro r0 nn0 hh0 H locs pc ls' e0 hn; cases e0; exact hret H locs pc ls' hn
  rw [fX11_read] at h
  refine lv_iload_n hx hb dX11_read_0 rfl (lv_at hl 1 rfl) ?_
  refine lv_iload_n hx hb dX11_read_1 rfl (lv_at hl 2 rfl) ?_
  obtain ⟨r1, hcr1, h⟩ := bnd_some h
  refine gF_i (ws' := (rX E ax an asx ay ap ar ai ah aj tf xx ++ (rW E an nn ++ (rH E ah hh ++ [])))) C hG pst pst.symm (gR_S (As := [.int x1, .int x2]) (rest := []) C hz hl.1 hG pst (c_X11_isBlock l E N x1 x2 hcr1 H.size) okX11_isBlock q761 rfl (Nat.le_of_ble_eq_true rfl) (by omega) ⟨Nat.le_refl _, Nat.le_refl _⟩ dX11_read_2) (fun H locs z2 hG => ?_)
  refine lv_if_ne (tgt := 10) hx hb dX11_read_5 (by decide) (fun c5 => ?_) (fun c5 => ?_)
  · replace h := ie c5 h
    refine lv_aload_n hx hb dX11_read_10 rfl (lv_at hl 0 rfl) ?_
    refine gL_f (v := .ref (ah 0 0)) C hG kX11 0 2 rfl (by decide) rfl q541 rfl dX11_read_11 ?_
    refine lv_aload_n hx hb dX11_read_14 rfl (lv_at hl 0 rfl) ?_
    refine gL_f (v := .ref (an 0)) C hG kX11 0 0 rfl (by decide) rfl q539 rfl dX11_read_15 ?_
    obtain ⟨r3, hcr3, h⟩ := bnd_some h
    refine gF_v (ws' := (rX E ax an asx ay ap ar ai ah aj tf xx ++ (rW E an nn ++ (rH E ah r3 ++ [])))) C hG (pout (pin (pin pnil))) (List.Perm.symm (pout (pin (pin pnil)))) (gR_N (As := [.ref (an 0)]) (rest := []) C hz hl.1 hG (pout (pin (pin pnil))) (c_X4_push l E an ah N nn hh hcr3 H.size) okX4_push q769 30 rfl rfl rfl (Nat.le_of_ble_eq_true rfl) (by omega) ⟨Nat.le_refl _, Nat.le_refl _⟩ dX11_read_18) (fun H locs hG => ?_)
    refine lv_aload_n hx hb dX11_read_21 rfl (lv_at hl 0 rfl) ?_
    refine gL_f (v := .ref (an 0)) C hG kX11 0 0 rfl (by decide) rfl q539 rfl dX11_read_22 ?_
    refine lv_iload_n hx hb dX11_read_25 rfl (lv_at hl 1 rfl) ?_
    refine lv_iload_n hx hb dX11_read_26 rfl (lv_at hl 2 rfl) ?_
    obtain ⟨r4, hcr4, h⟩ := bnd_some h
    refine gF_i (ws' := (rX E ax an asx ay ap ar ai ah aj tf xx ++ (rW E an r4.2 ++ (rH E ah r3 ++ [])))) C hG (pout (pin (pout pnil))) (List.Perm.symm (pout (pin (pout pnil)))) (gR_N (As := [.int x1, .int x2]) (rest := []) C hz hl.1 hG (pout (pin (pout pnil))) (c_X10_readBlock l E an N x1 x2 nn hcr4 H.size) okX10_readBlock q803 0 rfl rfl rfl (Nat.le_of_ble_eq_true rfl) (by omega) ⟨Nat.le_refl _, Nat.le_refl _⟩ dX11_read_27) (fun H locs _ hG => ?_)
    exact hret _ _ _ _ _ _ _ h rfl hG dX11_read_30
  · replace h := it c5 h
    refine lv_iconst (v := (-1)) hx hb dX11_read_8 (by decide) ?_
    exact hret _ _ _ _ _ _ _ h rfl hG dX11_read_9
set_option maxHeartbeats 4000000 in
set_option maxRecDepth 100000 in
theorem c_X11_write (l : Launch) (E : GE) (ax an asx ay ap ar ai : Nat → Nat) (ah aj : Nat → Nat → Nat) (tf : Nat → Option Nat) (N : Nat) (x1 : Int32) (x2 : Int32) (x3 : Int32) (xx : RS) (nn : RS) (hh : HS) {res : Int32 × RS × HS} (h : fX11_write N x1 x2 x3 xx nn hh = some res) : gMi l E yX11_write cX11_write 4 .int 4 0 0 [.ref (ax 0), .int x1, .int x2, .int x3] (rX E ax an asx ay ap ar ai ah aj tf xx ++ (rW E an nn ++ (rH E ah hh ++ []))) (rX E ax an asx ay ap ar ai ah aj tf xx ++ (rW E an res.2.1 ++ (rH E ah res.2.2 ++ []))) res.1 := by
  refine gMi_of (own := RX11) (by decide +kernel) rfl (Nat.le_of_ble_eq_true rfl) ?_
  intro p e s m args below meth c A ls Q H locs C hz hl hG hret
  have hx := C.1.1
  have hb := C.1.2.1
  have hts := C.1.2.2.2.2
  have hown := C.1.2.2.2.1
  have hl : lv_has ls 4 [(0, .ref (ax 0)), (1, .int x1), (2, .int x2), (3, .int x3)] := hl
  replace hret : ∀ (r0 : Int32) (nn0 : RS) (hh0 : HS) (H : Heap) (locs : List Loc) (pc : Nat) (ls' : Array Slot), some (r0, nn0, hh0) = some res → narrow .int (.int r0) = .int r0 → gG E A s.heap (rX E ax an asx ay ap ar ai ah aj tf xx ++ (rW E an nn0 ++ (rH E ah hh0 ++ []))) H locs → decode cX11_write pc = .ok (.ireturn, 1) → W p l e (rmD 4 0 0) s m args below meth c H locs 0 0 Q (F0 m pc ls' [.int r0]) := by
    intro r0 nn0 hh0 H locs pc ls' e0 hn; cases e0; exact hret H locs pc ls' hn
  rw [fX11_write] at h
  refine lv_iload_n hx hb dX11_write_0 rfl (lv_at hl 1 rfl) ?_
  refine lv_iload_n hx hb dX11_write_1 rfl (lv_at hl 2 rfl) ?_
  obtain ⟨r1, hcr1, h⟩ := bnd_some h
  refine gF_i (ws' := (rX E ax an asx ay ap ar ai ah aj tf xx ++ (rW E an nn ++ (rH E ah hh ++ [])))) C hG pst pst.symm (gR_S (As := [.int x1, .int x2]) (rest := []) C hz hl.1 hG pst (c_X11_isBlock l E N x1 x2 hcr1 H.size) okX11_isBlock q761 rfl (Nat.le_of_ble_eq_true rfl) (by omega) ⟨Nat.le_refl _, Nat.le_refl _⟩ dX11_write_2) (fun H locs z2 hG => ?_)
  refine lv_if_eq (tgt := 19) hx hb dX11_write_5 (by decide) (fun c5 => ?_) (fun c5 => ?_)
  · replace h := it c5 h
    refine lv_iconst (v := (-1)) hx hb dX11_write_19 (by decide) ?_
    exact hret _ _ _ _ _ _ _ h rfl hG dX11_write_20
  · replace h := ie c5 h
    refine lv_iload_n hx hb dX11_write_8 rfl (lv_at hl 3 rfl) ?_
    refine lv_if_lt (tgt := 19) hx hb dX11_write_9 (by decide) (fun c9 => ?_) (fun c9 => ?_)
    · replace h := it c9 h
      refine lv_iconst (v := (-1)) hx hb dX11_write_19 (by decide) ?_
      exact hret _ _ _ _ _ _ _ h rfl hG dX11_write_20
    · replace h := ie c9 h
      refine lv_iload_n hx hb dX11_write_12 rfl (lv_at hl 3 rfl) ?_
      refine lv_sipush (v := 1000) hx hb dX11_write_13 (by decide) ?_
      refine lv_icmp_lt (tgt := 21) hx hb dX11_write_16 (by decide) (fun c16 => ?_) (fun c16 => ?_)
      · replace h := it c16 h
        refine lv_aload_n hx hb dX11_write_21 rfl (lv_at hl 0 rfl) ?_
        refine gL_f (v := .ref (ah 0 0)) C hG kX11 0 2 rfl (by decide) rfl q541 rfl dX11_write_22 ?_
        refine lv_aload_n hx hb dX11_write_25 rfl (lv_at hl 0 rfl) ?_
        refine gL_f (v := .ref (an 0)) C hG kX11 0 0 rfl (by decide) rfl q539 rfl dX11_write_26 ?_
        obtain ⟨r3, hcr3, h⟩ := bnd_some h
        refine gF_v (ws' := (rX E ax an asx ay ap ar ai ah aj tf xx ++ (rW E an nn ++ (rH E ah r3 ++ [])))) C hG (pout (pin (pin pnil))) (List.Perm.symm (pout (pin (pin pnil)))) (gR_N (As := [.ref (an 0)]) (rest := []) C hz hl.1 hG (pout (pin (pin pnil))) (c_X4_push l E an ah N nn hh hcr3 H.size) okX4_push q769 30 rfl rfl rfl (Nat.le_of_ble_eq_true rfl) (by omega) ⟨Nat.le_refl _, Nat.le_refl _⟩ dX11_write_29) (fun H locs hG => ?_)
        refine lv_aload_n hx hb dX11_write_32 rfl (lv_at hl 0 rfl) ?_
        refine gL_f (v := .ref (an 0)) C hG kX11 0 0 rfl (by decide) rfl q539 rfl dX11_write_33 ?_
        refine lv_iload_n hx hb dX11_write_36 rfl (lv_at hl 1 rfl) ?_
        refine lv_iload_n hx hb dX11_write_37 rfl (lv_at hl 2 rfl) ?_
        refine lv_iload_n hx hb dX11_write_38 rfl (lv_at hl 3 rfl) ?_
        obtain ⟨r4, hcr4, h⟩ := bnd_some h
        refine gF_v (ws' := (rX E ax an asx ay ap ar ai ah aj tf xx ++ (rW E an r4 ++ (rH E ah r3 ++ [])))) C hG (pout (pin (pout pnil))) (List.Perm.symm (pout (pin (pout pnil)))) (gR_N (As := [.int x1, .int x2, .int x3]) (rest := []) C hz hl.1 hG (pout (pin (pout pnil))) (c_X10_writeBlock l E an N x1 x2 x3 nn hcr4 H.size) okX10_writeBlock q830 0 rfl rfl rfl (Nat.le_of_ble_eq_true rfl) (by omega) ⟨Nat.le_refl _, Nat.le_refl _⟩ dX11_write_39) (fun H locs hG => ?_)
        refine lv_aload_n hx hb dX11_write_42 rfl (lv_at hl 0 rfl) ?_
        refine gL_f (v := .ref (an 0)) C hG kX11 0 0 rfl (by decide) rfl q539 rfl dX11_write_43 ?_
        refine gL_fN (v := .ref (an 2)) C hG kX10 2 1 rfl (by decide) rfl q357 rfl dX11_write_46 ?_
        refine gL_fN (v := .ref (an 3)) C hG kX2 4 0 rfl (by decide) rfl q213 rfl dX11_write_49 ?_
        refine lv_iload_n hx hb dX11_write_52 rfl (lv_at hl 1 rfl) ?_
        obtain ⟨b5, h⟩ := ck_some h
        refine gL_i (v := (r4 3 x1.toNatClampNeg)) C hG 5 rfl (inb_in b5) rfl dX11_write_53 ?_
        exact hret _ _ _ _ _ _ _ h rfl hG dX11_write_54
      · replace h := ie c16 h
        refine lv_iconst (v := (-1)) hx hb dX11_write_19 (by decide) ?_
        exact hret _ _ _ _ _ _ _ h rfl hG dX11_write_20
set_option maxHeartbeats 4000000 in
set_option maxRecDepth 100000 in
theorem c_X11_scan (l : Launch) (E : GE) (ax an asx ay ap ar ai : Nat → Nat) (ah aj : Nat → Nat → Nat) (tf : Nat → Option Nat) (N : Nat) (x1 : Int32) (x2 : Int32) (xx : RS) (nn : RS) (hh : HS) {res : Int32 × RS × HS} (h : fX11_scan N x1 x2 xx nn hh = some res) : gMi l E yX11_scan cX11_scan 4 .int 5 0 0 [.ref (ax 0), .int x1, .int x2] (rX E ax an asx ay ap ar ai ah aj tf xx ++ (rW E an nn ++ (rH E ah hh ++ []))) (rX E ax an asx ay ap ar ai ah aj tf xx ++ (rW E an res.2.1 ++ (rH E ah res.2.2 ++ []))) res.1 := by
  refine gMi_of (own := RX11) (by decide +kernel) rfl (Nat.le_of_ble_eq_true rfl) ?_
  intro p e s m args below meth c A ls Q H locs C hz hl hG hret
  have hx := C.1.1
  have hb := C.1.2.1
  have hts := C.1.2.2.2.2
  have hown := C.1.2.2.2.1
  have hl : lv_has ls 4 [(0, .ref (ax 0)), (1, .int x1), (2, .int x2)] := hl
  replace hret : ∀ (r0 : Int32) (nn0 : RS) (hh0 : HS) (H : Heap) (locs : List Loc) (pc : Nat) (ls' : Array Slot), some (r0, nn0, hh0) = some res → narrow .int (.int r0) = .int r0 → gG E A s.heap (rX E ax an asx ay ap ar ai ah aj tf xx ++ (rW E an nn0 ++ (rH E ah hh0 ++ []))) H locs → decode cX11_scan pc = .ok (.ireturn, 1) → W p l e (rmD 5 0 0) s m args below meth c H locs 0 0 Q (F0 m pc ls' [.int r0]) := by
    intro r0 nn0 hh0 H locs pc ls' e0 hn; cases e0; exact hret H locs pc ls' hn
  rw [fX11_scan] at h
  refine lv_iload_n hx hb dX11_scan_0 rfl (lv_at hl 1 rfl) ?_
  refine gF_i (ws' := (rX E ax an asx ay ap ar ai ah aj tf xx ++ (rW E an nn ++ (rH E ah hh ++ [])))) C hG pst pst.symm (gR_S (As := [.int x1]) (rest := []) C hz hl.1 hG pst (c_X11_isExtent l E x1 rfl H.size) okX11_isExtent q764 rfl (Nat.le_of_ble_eq_true rfl) (by omega) ⟨Nat.le_refl _, Nat.le_refl _⟩ dX11_scan_1) (fun H locs z1 hG => ?_)
  refine lv_if_eq (tgt := 19) hx hb dX11_scan_4 (by decide) (fun c4 => ?_) (fun c4 => ?_)
  · replace h := it c4 h
    refine lv_iconst (v := (-1)) hx hb dX11_scan_19 (by decide) ?_
    exact hret _ _ _ _ _ _ _ h rfl hG dX11_scan_20
  · replace h := ie c4 h
    refine lv_iload_n hx hb dX11_scan_7 rfl (lv_at hl 2 rfl) ?_
    refine gF_i (ws' := (rX E ax an asx ay ap ar ai ah aj tf xx ++ (rW E an nn ++ (rH E ah hh ++ [])))) C hG pst pst.symm (gR_S (As := [.int x2]) (rest := []) C hz hl.1 hG pst (c_X11_isExtent l E x2 rfl H.size) okX11_isExtent q764 rfl (Nat.le_of_ble_eq_true rfl) (by omega) ⟨Nat.le_refl _, Nat.le_refl _⟩ dX11_scan_8) (fun H locs z2 hG => ?_)
    refine lv_if_eq (tgt := 19) hx hb dX11_scan_11 (by decide) (fun c11 => ?_) (fun c11 => ?_)
    · replace h := it c11 h
      refine lv_iconst (v := (-1)) hx hb dX11_scan_19 (by decide) ?_
      exact hret _ _ _ _ _ _ _ h rfl hG dX11_scan_20
    · replace h := ie c11 h
      refine lv_iload_n hx hb dX11_scan_14 rfl (lv_at hl 1 rfl) ?_
      refine lv_iload_n hx hb dX11_scan_15 rfl (lv_at hl 2 rfl) ?_
      refine lv_icmp_le (tgt := 21) hx hb dX11_scan_16 (by decide) (fun c16 => ?_) (fun c16 => ?_)
      · replace h := it c16 h
        refine lv_aload_n hx hb dX11_scan_21 rfl (lv_at hl 0 rfl) ?_
        refine gL_f (v := .ref (ah 0 0)) C hG kX11 0 2 rfl (by decide) rfl q541 rfl dX11_scan_22 ?_
        refine lv_aload_n hx hb dX11_scan_25 rfl (lv_at hl 0 rfl) ?_
        refine gL_f (v := .ref (an 0)) C hG kX11 0 0 rfl (by decide) rfl q539 rfl dX11_scan_26 ?_
        obtain ⟨r3, hcr3, h⟩ := bnd_some h
        refine gF_v (ws' := (rX E ax an asx ay ap ar ai ah aj tf xx ++ (rW E an nn ++ (rH E ah r3 ++ [])))) C hG (pout (pin (pin pnil))) (List.Perm.symm (pout (pin (pin pnil)))) (gR_N (As := [.ref (an 0)]) (rest := []) C hz hl.1 hG (pout (pin (pin pnil))) (c_X4_push l E an ah N nn hh hcr3 H.size) okX4_push q769 30 rfl rfl rfl (Nat.le_of_ble_eq_true rfl) (by omega) ⟨Nat.le_refl _, Nat.le_refl _⟩ dX11_scan_29) (fun H locs hG => ?_)
        refine lv_aload_n hx hb dX11_scan_32 rfl (lv_at hl 0 rfl) ?_
        refine gL_f (v := .ref (an 0)) C hG kX11 0 0 rfl (by decide) rfl q539 rfl dX11_scan_33 ?_
        refine gL_fN (v := .ref (an 1)) C hG kX10 2 0 rfl (by decide) rfl q354 rfl dX11_scan_36 ?_
        refine lv_bipush (v := 8) hx hb dX11_scan_39 (by decide) ?_
        refine gL_i (v := (nn 1 8)) C hG 3 rfl (vp_in_nI (n := 8) (by decide) (by decide)) (congrArg (nn 1) (nI_clamp (n := 8) (by decide))) dX11_scan_41 ?_
        obtain ⟨x3_4, ex3_4, h⟩ := thn_some h
        refine g_int ex3_4 ?_
        refine lv_istore_n (lv' := [(3, .int x3_4), (0, .ref (ax 0)), (1, .int x1), (2, .int x2)]) hx hb dX11_scan_42 rfl hl (by decide) rfl (fun ls hl => ?_)
        refine lv_aload_n hx hb dX11_scan_43 rfl (lv_at hl 1 rfl) ?_
        refine gL_f (v := .ref (an 0)) C hG kX11 0 0 rfl (by decide) rfl q539 rfl dX11_scan_44 ?_
        refine lv_iload_n hx hb dX11_scan_47 rfl (lv_at hl 2 rfl) ?_
        refine lv_iload_n hx hb dX11_scan_48 rfl (lv_at hl 3 rfl) ?_
        refine lv_bipush (v := 23) hx hb dX11_scan_49 (by decide) ?_
        obtain ⟨r5, hcr5, h⟩ := bnd_some h
        refine gF_i (ws' := (rX E ax an asx ay ap ar ai ah aj tf xx ++ (rW E an r5.2 ++ (rH E ah r3 ++ [])))) C hG (pout (pin (pout pnil))) (List.Perm.symm (pout (pin (pout pnil)))) (gR_N (As := [.int x1, .int x2, .int 23]) (rest := []) C hz hl.1 hG (pout (pin (pout pnil))) (c_X10_readExtents l E an N x1 x2 23 nn hcr5 H.size) okX10_readExtents q846 0 rfl rfl rfl (Nat.le_of_ble_eq_true rfl) (by omega) ⟨Nat.le_refl _, Nat.le_refl _⟩ dX11_scan_51) (fun H locs _ hG => ?_)
        refine lv_pop hx hb dX11_scan_54 rfl ?_
        refine lv_aload_n hx hb dX11_scan_55 rfl (lv_at hl 1 rfl) ?_
        refine gL_f (v := .ref (an 0)) C hG kX11 0 0 rfl (by decide) rfl q539 rfl dX11_scan_56 ?_
        refine gL_fN (v := .ref (an 1)) C hG kX10 2 0 rfl (by decide) rfl q354 rfl dX11_scan_59 ?_
        refine lv_bipush (v := 8) hx hb dX11_scan_62 (by decide) ?_
        refine gL_i (v := (r5.2 1 8)) C hG 3 rfl (vp_in_nI (n := 8) (by decide) (by decide)) (congrArg (r5.2 1) (nI_clamp (n := 8) (by decide))) dX11_scan_64 ?_
        refine lv_iload_n hx hb dX11_scan_65 rfl (lv_at hl 0 rfl) ?_
        refine lv_isub hx hb dX11_scan_66 ?_
        exact hret _ _ _ _ _ _ _ h rfl hG dX11_scan_67
      · replace h := ie c16 h
        refine lv_iconst (v := (-1)) hx hb dX11_scan_19 (by decide) ?_
        exact hret _ _ _ _ _ _ _ h rfl hG dX11_scan_20
set_option maxHeartbeats 4000000 in
set_option maxRecDepth 100000 in
theorem c_X11_pin (l : Launch) (E : GE) (ax an asx ay ap ar ai : Nat → Nat) (ah aj : Nat → Nat → Nat) (tf : Nat → Option Nat) (N : Nat) (x1 : Int32) (x2 : Int32) (xx : RS) (nn : RS) (hh : HS) {res : Int32 × RS × HS} (h : fX11_pin N x1 x2 xx nn hh = some res) : gMi l E yX11_pin cX11_pin 3 .boolean 4 0 0 [.ref (ax 0), .int x1, .int x2] (rX E ax an asx ay ap ar ai ah aj tf xx ++ (rW E an nn ++ (rH E ah hh ++ []))) (rX E ax an asx ay ap ar ai ah aj tf xx ++ (rW E an res.2.1 ++ (rH E ah res.2.2 ++ []))) res.1 := by
  refine gMi_of (own := RX11) (by decide +kernel) rfl (Nat.le_of_ble_eq_true rfl) ?_
  intro p e s m args below meth c A ls Q H locs C hz hl hG hret
  have hx := C.1.1
  have hb := C.1.2.1
  have hts := C.1.2.2.2.2
  have hown := C.1.2.2.2.1
  have hl : lv_has ls 3 [(0, .ref (ax 0)), (1, .int x1), (2, .int x2)] := hl
  replace hret : ∀ (r0 : Int32) (nn0 : RS) (hh0 : HS) (H : Heap) (locs : List Loc) (pc : Nat) (ls' : Array Slot), some (r0, nn0, hh0) = some res → narrow .boolean (.int r0) = .int r0 → gG E A s.heap (rX E ax an asx ay ap ar ai ah aj tf xx ++ (rW E an nn0 ++ (rH E ah hh0 ++ []))) H locs → decode cX11_pin pc = .ok (.ireturn, 1) → W p l e (rmD 4 0 0) s m args below meth c H locs 0 0 Q (F0 m pc ls' [.int r0]) := by
    intro r0 nn0 hh0 H locs pc ls' e0 hn; cases e0; exact hret H locs pc ls' hn
  rw [fX11_pin] at h
  refine lv_iload_n hx hb dX11_pin_0 rfl (lv_at hl 1 rfl) ?_
  refine gF_i (ws' := (rX E ax an asx ay ap ar ai ah aj tf xx ++ (rW E an nn ++ (rH E ah hh ++ [])))) C hG pst pst.symm (gR_S (As := [.int x1]) (rest := []) C hz hl.1 hG pst (c_X11_isExtent l E x1 rfl H.size) okX11_isExtent q764 rfl (Nat.le_of_ble_eq_true rfl) (by omega) ⟨Nat.le_refl _, Nat.le_refl _⟩ dX11_pin_1) (fun H locs z1 hG => ?_)
  refine lv_if_eq (tgt := 32) hx hb dX11_pin_4 (by decide) (fun c4 => ?_) (fun c4 => ?_)
  · replace h := it c4 h
    refine lv_iconst (v := 0) hx hb dX11_pin_32 (by decide) ?_
    exact hret _ _ _ _ _ _ _ h rfl hG dX11_pin_33
  · replace h := ie c4 h
    refine lv_iload_n hx hb dX11_pin_7 rfl (lv_at hl 2 rfl) ?_
    refine lv_if_lt (tgt := 32) hx hb dX11_pin_8 (by decide) (fun c8 => ?_) (fun c8 => ?_)
    · replace h := it c8 h
      refine lv_iconst (v := 0) hx hb dX11_pin_32 (by decide) ?_
      exact hret _ _ _ _ _ _ _ h rfl hG dX11_pin_33
    · replace h := ie c8 h
      refine lv_iload_n hx hb dX11_pin_11 rfl (lv_at hl 2 rfl) ?_
      refine lv_iconst (v := 2) hx hb dX11_pin_12 (by decide) ?_
      refine lv_icmp_gt (tgt := 32) hx hb dX11_pin_13 (by decide) (fun c13 => ?_) (fun c13 => ?_)
      · replace h := it c13 h
        refine lv_iconst (v := 0) hx hb dX11_pin_32 (by decide) ?_
        exact hret _ _ _ _ _ _ _ h rfl hG dX11_pin_33
      · replace h := ie c13 h
        refine lv_aload_n hx hb dX11_pin_16 rfl (lv_at hl 0 rfl) ?_
        refine gL_f (v := .ref (an 0)) C hG kX11 0 0 rfl (by decide) rfl q539 rfl dX11_pin_17 ?_
        refine gL_fN (v := .ref (an 2)) C hG kX10 2 1 rfl (by decide) rfl q357 rfl dX11_pin_20 ?_
        refine gL_fN (v := .ref (an 4)) C hG kX2 4 1 rfl (by decide) rfl q216 rfl dX11_pin_23 ?_
        refine lv_iload_n hx hb dX11_pin_26 rfl (lv_at hl 1 rfl) ?_
        obtain ⟨b2, h⟩ := ck_some h
        refine gL_i (v := (nn 4 x1.toNatClampNeg)) C hG 6 rfl (inb_in b2) rfl dX11_pin_27 ?_
        refine lv_iload_n hx hb dX11_pin_28 rfl (lv_at hl 2 rfl) ?_
        refine lv_icmp_ne (tgt := 34) hx hb dX11_pin_29 (by decide) (fun c29 => ?_) (fun c29 => ?_)
        · replace h := ie c29 h
          refine lv_aload_n hx hb dX11_pin_34 rfl (lv_at hl 0 rfl) ?_
          refine gL_f (v := .ref (ah 0 0)) C hG kX11 0 2 rfl (by decide) rfl q541 rfl dX11_pin_35 ?_
          refine lv_aload_n hx hb dX11_pin_38 rfl (lv_at hl 0 rfl) ?_
          refine gL_f (v := .ref (an 0)) C hG kX11 0 0 rfl (by decide) rfl q539 rfl dX11_pin_39 ?_
          obtain ⟨r3, hcr3, h⟩ := bnd_some h
          refine gF_v (ws' := (rX E ax an asx ay ap ar ai ah aj tf xx ++ (rW E an nn ++ (rH E ah r3 ++ [])))) C hG (pout (pin (pin pnil))) (List.Perm.symm (pout (pin (pin pnil)))) (gR_N (As := [.ref (an 0)]) (rest := []) C hz hl.1 hG (pout (pin (pin pnil))) (c_X4_push l E an ah N nn hh hcr3 H.size) okX4_push q769 30 rfl rfl rfl (Nat.le_of_ble_eq_true rfl) (by omega) ⟨Nat.le_refl _, Nat.le_refl _⟩ dX11_pin_42) (fun H locs hG => ?_)
          refine lv_aload_n hx hb dX11_pin_45 rfl (lv_at hl 0 rfl) ?_
          refine gL_f (v := .ref (an 0)) C hG kX11 0 0 rfl (by decide) rfl q539 rfl dX11_pin_46 ?_
          refine gL_fN (v := .ref (an 2)) C hG kX10 2 1 rfl (by decide) rfl q357 rfl dX11_pin_49 ?_
          refine gL_fN (v := .ref (an 4)) C hG kX2 4 1 rfl (by decide) rfl q216 rfl dX11_pin_52 ?_
          refine lv_iload_n hx hb dX11_pin_55 rfl (lv_at hl 1 rfl) ?_
          refine lv_iload_n hx hb dX11_pin_56 rfl (lv_at hl 2 rfl) ?_
          obtain ⟨nn_4, enn_4, h⟩ := thn_some h
          refine gS_i (x := x2) (ws' := (rX E ax an asx ay ap ar ai ah aj tf xx ++ (rW E an nn_4 ++ (rH E ah r3 ++ [])))) C hG 6 rfl (inb_in b2) rfl dX11_pin_57 (by rw [enn_4]; rfl) (fun H locs hG => ?_)
          refine lv_aload_n hx hb dX11_pin_58 rfl (lv_at hl 0 rfl) ?_
          refine gL_f (v := .ref (an 0)) C hG kX11 0 0 rfl (by decide) rfl q539 rfl dX11_pin_59 ?_
          refine lv_iconst (v := 5) hx hb dX11_pin_62 (by decide) ?_
          refine lv_iload_n hx hb dX11_pin_63 rfl (lv_at hl 1 rfl) ?_
          refine lv_iload_n hx hb dX11_pin_64 rfl (lv_at hl 2 rfl) ?_
          obtain ⟨r5, hcr5, h⟩ := bnd_some h
          refine gF_v (ws' := (rX E ax an asx ay ap ar ai ah aj tf xx ++ (rW E an r5 ++ (rH E ah r3 ++ [])))) C hG (pout (pin (pout pnil))) (List.Perm.symm (pout (pin (pout pnil)))) (gR_N (As := [.int 5, .int x1, .int x2]) (rest := []) C hz hl.1 hG (pout (pin (pout pnil))) (c_X10_writeDown l E an N 5 x1 x2 nn_4 hcr5 H.size) okX10_writeDown q856 0 rfl rfl rfl (Nat.le_of_ble_eq_true rfl) (by omega) ⟨Nat.le_refl _, Nat.le_refl _⟩ dX11_pin_65) (fun H locs hG => ?_)
          refine lv_iconst (v := 1) hx hb dX11_pin_68 (by decide) ?_
          exact hret _ _ _ _ _ _ _ h rfl hG dX11_pin_69
        · replace h := it c29 h
          refine lv_iconst (v := 0) hx hb dX11_pin_32 (by decide) ?_
          exact hret _ _ _ _ _ _ _ h rfl hG dX11_pin_33
set_option maxHeartbeats 4000000 in
set_option maxRecDepth 100000 in
theorem c_X11_mostTold (l : Launch) (E : GE) (x0 : Int32) {res : Int32} (h : fX11_mostTold x0 = res) : gMi l E yX11_mostTold cX11_mostTold 1 .int 1 0 0 [.int x0] [] [] res := by
  refine gMi_of (own := RX11) (by decide +kernel) rfl (Nat.le_of_ble_eq_true rfl) ?_
  intro p e s m args below meth c A ls Q H locs C hz hl hG hret
  have hx := C.1.1
  have hb := C.1.2.1
  have hts := C.1.2.2.2.2
  have hown := C.1.2.2.2.1
  have hl : lv_has ls 1 [(0, .int x0)] := hl
  replace hret : ∀ (r0 : Int32) (H : Heap) (locs : List Loc) (pc : Nat) (ls' : Array Slot), r0 = res → narrow .int (.int r0) = .int r0 → gG E A s.heap [] H locs → decode cX11_mostTold pc = .ok (.ireturn, 1) → W p l e (rmD 1 0 0) s m args below meth c H locs 0 0 Q (F0 m pc ls' [.int r0]) := by
    intro r0 H locs pc ls' e0 hn; cases e0; exact hret H locs pc ls' hn
  rw [fX11_mostTold] at h
  refine lv_iload_n hx hb dX11_mostTold_0 rfl (lv_at hl 0 rfl) ?_
  by_cases w1_0 : x0 = 0
  · replace h := it w1_0 h
    refine lv_lookup (tgt := 28) (off := 27) hx hb dX11_mostTold_1 (by decide) (by rw [w1_0]; decide) (by decide) ?_
    refine lv_bipush (v := 6) hx hb dX11_mostTold_28 (by decide) ?_
    exact hret _ _ _ _ _ h rfl hG dX11_mostTold_30
  · replace h := ie w1_0 h
    by_cases w1_1 : x0 = 1
    · replace h := it w1_1 h
      refine lv_lookup (tgt := 31) (off := 30) hx hb dX11_mostTold_1 (by decide) (by rw [lv_osw w1_0 (by decide)]; rw [w1_1]; decide) (by decide) ?_
      refine lv_bipush (v := 12) hx hb dX11_mostTold_31 (by decide) ?_
      exact hret _ _ _ _ _ h rfl hG dX11_mostTold_33
    · replace h := ie w1_1 h
      refine lv_lookup (tgt := 34) (off := 33) hx hb dX11_mostTold_1 (by decide) (by rw [lv_osw w1_0 (by decide)]; rw [lv_osw w1_1 (by decide)]; rfl) (by decide) ?_
      refine lv_bipush (v := 40) hx hb dX11_mostTold_34 (by decide) ?_
      exact hret _ _ _ _ _ h rfl hG dX11_mostTold_36
set_option maxHeartbeats 4000000 in
set_option maxRecDepth 100000 in
theorem c_X11_tell (l : Launch) (E : GE) (ax an asx ay ap ar ai : Nat → Nat) (ah aj : Nat → Nat → Nat) (tf : Nat → Option Nat) (N : Nat) (x1 : Int32) (x2 : Int32) (xx : RS) (nn : RS) (hh : HS) {res : Int32 × RS × HS} (h : fX11_tell N x1 x2 xx nn hh = some res) : gMi l E yX11_tell cX11_tell 3 .boolean 4 0 0 [.ref (ax 0), .int x1, .int x2] (rX E ax an asx ay ap ar ai ah aj tf xx ++ (rW E an nn ++ (rH E ah hh ++ []))) (rX E ax an asx ay ap ar ai ah aj tf xx ++ (rW E an res.2.1 ++ (rH E ah res.2.2 ++ []))) res.1 := by
  refine gMi_of (own := RX11) (by decide +kernel) rfl (Nat.le_of_ble_eq_true rfl) ?_
  intro p e s m args below meth c A ls Q H locs C hz hl hG hret
  have hx := C.1.1
  have hb := C.1.2.1
  have hts := C.1.2.2.2.2
  have hown := C.1.2.2.2.1
  have hl : lv_has ls 3 [(0, .ref (ax 0)), (1, .int x1), (2, .int x2)] := hl
  replace hret : ∀ (r0 : Int32) (nn0 : RS) (hh0 : HS) (H : Heap) (locs : List Loc) (pc : Nat) (ls' : Array Slot), some (r0, nn0, hh0) = some res → narrow .boolean (.int r0) = .int r0 → gG E A s.heap (rX E ax an asx ay ap ar ai ah aj tf xx ++ (rW E an nn0 ++ (rH E ah hh0 ++ []))) H locs → decode cX11_tell pc = .ok (.ireturn, 1) → W p l e (rmD 4 0 0) s m args below meth c H locs 0 0 Q (F0 m pc ls' [.int r0]) := by
    intro r0 nn0 hh0 H locs pc ls' e0 hn; cases e0; exact hret H locs pc ls' hn
  rw [fX11_tell] at h
  refine lv_iload_n hx hb dX11_tell_0 rfl (lv_at hl 1 rfl) ?_
  refine lv_if_lt (tgt := 21) hx hb dX11_tell_1 (by decide) (fun c1 => ?_) (fun c1 => ?_)
  · replace h := it c1 h
    refine lv_iconst (v := 0) hx hb dX11_tell_21 (by decide) ?_
    exact hret _ _ _ _ _ _ _ h rfl hG dX11_tell_22
  · replace h := ie c1 h
    refine lv_iload_n hx hb dX11_tell_4 rfl (lv_at hl 1 rfl) ?_
    refine lv_iconst (v := 2) hx hb dX11_tell_5 (by decide) ?_
    refine lv_icmp_gt (tgt := 21) hx hb dX11_tell_6 (by decide) (fun c6 => ?_) (fun c6 => ?_)
    · replace h := it c6 h
      refine lv_iconst (v := 0) hx hb dX11_tell_21 (by decide) ?_
      exact hret _ _ _ _ _ _ _ h rfl hG dX11_tell_22
    · replace h := ie c6 h
      refine lv_iload_n hx hb dX11_tell_9 rfl (lv_at hl 2 rfl) ?_
      refine lv_if_lt (tgt := 21) hx hb dX11_tell_10 (by decide) (fun c10 => ?_) (fun c10 => ?_)
      · replace h := it c10 h
        refine lv_iconst (v := 0) hx hb dX11_tell_21 (by decide) ?_
        exact hret _ _ _ _ _ _ _ h rfl hG dX11_tell_22
      · replace h := ie c10 h
        refine lv_iload_n hx hb dX11_tell_13 rfl (lv_at hl 2 rfl) ?_
        refine lv_iload_n hx hb dX11_tell_14 rfl (lv_at hl 1 rfl) ?_
        refine gF_i (ws' := (rX E ax an asx ay ap ar ai ah aj tf xx ++ (rW E an nn ++ (rH E ah hh ++ [])))) C hG pst pst.symm (gR_S (As := [.int x1]) (rest := [.int x2]) C hz hl.1 hG pst (c_X11_mostTold l E x1 rfl H.size) okX11_mostTold q868 rfl (Nat.le_of_ble_eq_true rfl) (by omega) ⟨Nat.le_refl _, Nat.le_refl _⟩ dX11_tell_15) (fun H locs _ hG => ?_)
        refine lv_icmp_le (tgt := 23) hx hb dX11_tell_18 (by decide) (fun c18 => ?_) (fun c18 => ?_)
        · replace h := it c18 h
          refine lv_aload_n hx hb dX11_tell_23 rfl (lv_at hl 0 rfl) ?_
          refine gL_f (v := .ref (ah 0 0)) C hG kX11 0 2 rfl (by decide) rfl q541 rfl dX11_tell_24 ?_
          refine lv_aload_n hx hb dX11_tell_27 rfl (lv_at hl 0 rfl) ?_
          refine gL_f (v := .ref (an 0)) C hG kX11 0 0 rfl (by decide) rfl q539 rfl dX11_tell_28 ?_
          obtain ⟨r1, hcr1, h⟩ := bnd_some h
          refine gF_v (ws' := (rX E ax an asx ay ap ar ai ah aj tf xx ++ (rW E an nn ++ (rH E ah r1 ++ [])))) C hG (pout (pin (pin pnil))) (List.Perm.symm (pout (pin (pin pnil)))) (gR_N (As := [.ref (an 0)]) (rest := []) C hz hl.1 hG (pout (pin (pin pnil))) (c_X4_push l E an ah N nn hh hcr1 H.size) okX4_push q769 30 rfl rfl rfl (Nat.le_of_ble_eq_true rfl) (by omega) ⟨Nat.le_refl _, Nat.le_refl _⟩ dX11_tell_31) (fun H locs hG => ?_)
          refine lv_aload_n hx hb dX11_tell_34 rfl (lv_at hl 0 rfl) ?_
          refine gL_f (v := .ref (an 0)) C hG kX11 0 0 rfl (by decide) rfl q539 rfl dX11_tell_35 ?_
          refine gL_fN (v := .ref (an 1)) C hG kX10 2 0 rfl (by decide) rfl q354 rfl dX11_tell_38 ?_
          refine lv_iconst (v := 4) hx hb dX11_tell_41 (by decide) ?_
          refine lv_iload_n hx hb dX11_tell_42 rfl (lv_at hl 1 rfl) ?_
          refine lv_iadd hx hb dX11_tell_43 ?_
          refine lv_iload_n hx hb dX11_tell_44 rfl (lv_at hl 2 rfl) ?_
          obtain ⟨b2, h⟩ := ck_some h
          obtain ⟨nn_3, enn_3, h⟩ := thn_some h
          refine gS_i (x := x2) (ws' := (rX E ax an asx ay ap ar ai ah aj tf xx ++ (rW E an nn_3 ++ (rH E ah r1 ++ [])))) C hG 3 rfl (inb_in b2) rfl dX11_tell_45 (by rw [enn_3]; rfl) (fun H locs hG => ?_)
          refine lv_iconst (v := 1) hx hb dX11_tell_46 (by decide) ?_
          exact hret _ _ _ _ _ _ _ h rfl hG dX11_tell_47
        · replace h := ie c18 h
          refine lv_iconst (v := 0) hx hb dX11_tell_21 (by decide) ?_
          exact hret _ _ _ _ _ _ _ h rfl hG dX11_tell_22
set_option maxHeartbeats 4000000 in
set_option maxRecDepth 100000 in
theorem c_X11_ask (l : Launch) (E : GE) (ax an asx ay ap ar ai : Nat → Nat) (ah aj : Nat → Nat → Nat) (tf : Nat → Option Nat) (N : Nat) (x1 : Int32) (xx : RS) (nn : RS) (hh : HS) {res : Int32 × RS × HS} (h : fX11_ask N x1 xx nn hh = some res) : gMi l E yX11_ask cX11_ask 2 .int 4 0 0 [.ref (ax 0), .int x1] (rX E ax an asx ay ap ar ai ah aj tf xx ++ (rW E an nn ++ (rH E ah hh ++ []))) (rX E ax an asx ay ap ar ai ah aj tf xx ++ (rW E an res.2.1 ++ (rH E ah res.2.2 ++ []))) res.1 := by
  refine gMi_of (own := RX11) (by decide +kernel) rfl (Nat.le_of_ble_eq_true rfl) ?_
  intro p e s m args below meth c A ls Q H locs C hz hl hG hret
  have hx := C.1.1
  have hb := C.1.2.1
  have hts := C.1.2.2.2.2
  have hown := C.1.2.2.2.1
  have hl : lv_has ls 2 [(0, .ref (ax 0)), (1, .int x1)] := hl
  replace hret : ∀ (r0 : Int32) (nn0 : RS) (hh0 : HS) (H : Heap) (locs : List Loc) (pc : Nat) (ls' : Array Slot), some (r0, nn0, hh0) = some res → narrow .int (.int r0) = .int r0 → gG E A s.heap (rX E ax an asx ay ap ar ai ah aj tf xx ++ (rW E an nn0 ++ (rH E ah hh0 ++ []))) H locs → decode cX11_ask pc = .ok (.ireturn, 1) → W p l e (rmD 4 0 0) s m args below meth c H locs 0 0 Q (F0 m pc ls' [.int r0]) := by
    intro r0 nn0 hh0 H locs pc ls' e0 hn; cases e0; exact hret H locs pc ls' hn
  rw [fX11_ask] at h
  refine lv_iload_n hx hb dX11_ask_0 rfl (lv_at hl 1 rfl) ?_
  refine gF_i (ws' := (rX E ax an asx ay ap ar ai ah aj tf xx ++ (rW E an nn ++ (rH E ah hh ++ [])))) C hG pst pst.symm (gR_S (As := [.int x1]) (rest := []) C hz hl.1 hG pst (c_X11_isExtent l E x1 rfl H.size) okX11_isExtent q764 rfl (Nat.le_of_ble_eq_true rfl) (by omega) ⟨Nat.le_refl _, Nat.le_refl _⟩ dX11_ask_1) (fun H locs z1 hG => ?_)
  refine lv_if_eq (tgt := 22) hx hb dX11_ask_4 (by decide) (fun c4 => ?_) (fun c4 => ?_)
  · replace h := it c4 h
    refine lv_iconst (v := (-1)) hx hb dX11_ask_22 (by decide) ?_
    exact hret _ _ _ _ _ _ _ h rfl hG dX11_ask_23
  · replace h := ie c4 h
    refine lv_aload_n hx hb dX11_ask_7 rfl (lv_at hl 0 rfl) ?_
    refine gL_f (v := .ref (an 0)) C hG kX11 0 0 rfl (by decide) rfl q539 rfl dX11_ask_8 ?_
    refine gL_fN (v := .ref (an 23)) C hG kX10 2 4 rfl (by decide) rfl q364 rfl dX11_ask_11 ?_
    refine lv_iload_n hx hb dX11_ask_14 rfl (lv_at hl 1 rfl) ?_
    obtain ⟨r2, hcr2, h⟩ := bnd_some h
    refine gF_i (ws' := (rX E ax an asx ay ap ar ai ah aj tf xx ++ (rW E an nn ++ (rH E ah hh ++ [])))) C hG (pout (pin (pout pnil))) (List.Perm.symm (pout (pin (pout pnil)))) (gR_N (As := [.int x1]) (rest := []) C hz hl.1 hG (pout (pin (pout pnil))) (c_X5_find l E an N x1 nn hcr2 H.size) okX5_find q875 23 rfl rfl rfl (Nat.le_of_ble_eq_true rfl) (by omega) ⟨Nat.le_refl _, Nat.le_refl _⟩ dX11_ask_15) (fun H locs _ hG => ?_)
    refine lv_iconst (v := (-1)) hx hb dX11_ask_18 (by decide) ?_
    refine lv_icmp_eq (tgt := 24) hx hb dX11_ask_19 (by decide) (fun c19 => ?_) (fun c19 => ?_)
    · replace h := it c19 h
      refine lv_aload_n hx hb dX11_ask_24 rfl (lv_at hl 0 rfl) ?_
      refine gL_f (v := .ref (ah 0 0)) C hG kX11 0 2 rfl (by decide) rfl q541 rfl dX11_ask_25 ?_
      refine lv_aload_n hx hb dX11_ask_28 rfl (lv_at hl 0 rfl) ?_
      refine gL_f (v := .ref (an 0)) C hG kX11 0 0 rfl (by decide) rfl q539 rfl dX11_ask_29 ?_
      obtain ⟨r3, hcr3, h⟩ := bnd_some h
      refine gF_v (ws' := (rX E ax an asx ay ap ar ai ah aj tf xx ++ (rW E an nn ++ (rH E ah r3 ++ [])))) C hG (pout (pin (pin pnil))) (List.Perm.symm (pout (pin (pin pnil)))) (gR_N (As := [.ref (an 0)]) (rest := []) C hz hl.1 hG (pout (pin (pin pnil))) (c_X4_push l E an ah N nn hh hcr3 H.size) okX4_push q769 30 rfl rfl rfl (Nat.le_of_ble_eq_true rfl) (by omega) ⟨Nat.le_refl _, Nat.le_refl _⟩ dX11_ask_32) (fun H locs hG => ?_)
      refine lv_aload_n hx hb dX11_ask_35 rfl (lv_at hl 0 rfl) ?_
      refine gL_f (v := .ref (an 0)) C hG kX11 0 0 rfl (by decide) rfl q539 rfl dX11_ask_36 ?_
      refine gL_fN (v := .ref (an 23)) C hG kX10 2 4 rfl (by decide) rfl q364 rfl dX11_ask_39 ?_
      refine lv_iload_n hx hb dX11_ask_42 rfl (lv_at hl 1 rfl) ?_
      refine lv_iconst (v := 1) hx hb dX11_ask_43 (by decide) ?_
      refine lv_aload_n hx hb dX11_ask_44 rfl (lv_at hl 0 rfl) ?_
      refine gL_f (v := .ref (an 0)) C hG kX11 0 0 rfl (by decide) rfl q539 rfl dX11_ask_45 ?_
      refine gL_fN (v := .ref (an 2)) C hG kX10 2 1 rfl (by decide) rfl q357 rfl dX11_ask_48 ?_
      refine gL_fN (v := .ref (an 3)) C hG kX2 4 0 rfl (by decide) rfl q213 rfl dX11_ask_51 ?_
      refine lv_iload_n hx hb dX11_ask_54 rfl (lv_at hl 1 rfl) ?_
      obtain ⟨b4, h⟩ := ck_some h
      refine gL_i (v := (nn 3 x1.toNatClampNeg)) C hG 5 rfl (inb_in b4) rfl dX11_ask_55 ?_
      refine lv_isub hx hb dX11_ask_56 ?_
      obtain ⟨r5, hcr5, h⟩ := bnd_some h
      refine gF_v (ws' := (rX E ax an asx ay ap ar ai ah aj tf xx ++ (rW E an r5 ++ (rH E ah r3 ++ [])))) C hG (pout (pin (pout pnil))) (List.Perm.symm (pout (pin (pout pnil)))) (gR_N (As := [.int x1, .int (1 - (nn 3 x1.toNatClampNeg))]) (rest := []) C hz hl.1 hG (pout (pin (pout pnil))) (c_X5_add l E an N x1 (1 - (nn 3 x1.toNatClampNeg)) nn hcr5 H.size) okX5_add q876 23 rfl rfl rfl (Nat.le_of_ble_eq_true rfl) (by omega) ⟨Nat.le_refl _, Nat.le_refl _⟩ dX11_ask_57) (fun H locs hG => ?_)
      refine lv_aload_n hx hb dX11_ask_60 rfl (lv_at hl 0 rfl) ?_
      refine gL_f (v := .ref (an 0)) C hG kX11 0 0 rfl (by decide) rfl q539 rfl dX11_ask_61 ?_
      refine gL_fN (v := .ref (an 23)) C hG kX10 2 4 rfl (by decide) rfl q364 rfl dX11_ask_64 ?_
      refine gL_fN (v := .int (r5 23 0)) C hG kX5 25 0 rfl (by decide) rfl q316 rfl dX11_ask_67 ?_
      exact hret _ _ _ _ _ _ _ h rfl hG dX11_ask_70
    · replace h := ie c19 h
      refine lv_iconst (v := (-1)) hx hb dX11_ask_22 (by decide) ?_
      exact hret _ _ _ _ _ _ _ h rfl hG dX11_ask_23
set_option maxHeartbeats 4000000 in
set_option maxRecDepth 100000 in
theorem c_X11_drop (l : Launch) (E : GE) (ax an asx ay ap ar ai : Nat → Nat) (ah aj : Nat → Nat → Nat) (tf : Nat → Option Nat) (N : Nat) (x1 : Int32) (xx : RS) (nn : RS) (hh : HS) {res : Int32 × RS × HS} (h : fX11_drop N x1 xx nn hh = some res) : gMi l E yX11_drop cX11_drop 3 .int 4 0 0 [.ref (ax 0), .int x1] (rX E ax an asx ay ap ar ai ah aj tf xx ++ (rW E an nn ++ (rH E ah hh ++ []))) (rX E ax an asx ay ap ar ai ah aj tf xx ++ (rW E an res.2.1 ++ (rH E ah res.2.2 ++ []))) res.1 := by
  refine gMi_of (own := RX11) (by decide +kernel) rfl (Nat.le_of_ble_eq_true rfl) ?_
  intro p e s m args below meth c A ls Q H locs C hz hl hG hret
  have hx := C.1.1
  have hb := C.1.2.1
  have hts := C.1.2.2.2.2
  have hown := C.1.2.2.2.1
  have hl : lv_has ls 3 [(0, .ref (ax 0)), (1, .int x1)] := hl
  replace hret : ∀ (r0 : Int32) (nn0 : RS) (hh0 : HS) (H : Heap) (locs : List Loc) (pc : Nat) (ls' : Array Slot), some (r0, nn0, hh0) = some res → narrow .int (.int r0) = .int r0 → gG E A s.heap (rX E ax an asx ay ap ar ai ah aj tf xx ++ (rW E an nn0 ++ (rH E ah hh0 ++ []))) H locs → decode cX11_drop pc = .ok (.ireturn, 1) → W p l e (rmD 4 0 0) s m args below meth c H locs 0 0 Q (F0 m pc ls' [.int r0]) := by
    intro r0 nn0 hh0 H locs pc ls' e0 hn; cases e0; exact hret H locs pc ls' hn
  rw [fX11_drop] at h
  refine lv_aload_n hx hb dX11_drop_0 rfl (lv_at hl 0 rfl) ?_
  refine gL_f (v := .ref (an 0)) C hG kX11 0 0 rfl (by decide) rfl q539 rfl dX11_drop_1 ?_
  refine gL_fN (v := .ref (an 23)) C hG kX10 2 4 rfl (by decide) rfl q364 rfl dX11_drop_4 ?_
  refine lv_iload_n hx hb dX11_drop_7 rfl (lv_at hl 1 rfl) ?_
  obtain ⟨r1, hcr1, h⟩ := bnd_some h
  refine gF_i (ws' := (rX E ax an asx ay ap ar ai ah aj tf xx ++ (rW E an nn ++ (rH E ah hh ++ [])))) C hG (pout (pin (pout pnil))) (List.Perm.symm (pout (pin (pout pnil)))) (gR_N (As := [.int x1]) (rest := []) C hz hl.1 hG (pout (pin (pout pnil))) (c_X5_find l E an N x1 nn hcr1 H.size) okX5_find q875 23 rfl rfl rfl (Nat.le_of_ble_eq_true rfl) (by omega) ⟨Nat.le_refl _, Nat.le_refl _⟩ dX11_drop_8) (fun H locs _ hG => ?_)
  refine lv_istore_n (lv' := [(2, .int r1), (0, .ref (ax 0)), (1, .int x1)]) hx hb dX11_drop_11 rfl hl (by decide) rfl (fun ls hl => ?_)
  refine lv_iload_n hx hb dX11_drop_12 rfl (lv_at hl 0 rfl) ?_
  refine lv_iconst (v := (-1)) hx hb dX11_drop_13 (by decide) ?_
  refine lv_icmp_ne (tgt := 19) hx hb dX11_drop_14 (by decide) (fun c14 => ?_) (fun c14 => ?_)
  · replace h := ie c14 h
    refine lv_aload_n hx hb dX11_drop_19 rfl (lv_at hl 1 rfl) ?_
    refine gL_f (v := .ref (ah 0 0)) C hG kX11 0 2 rfl (by decide) rfl q541 rfl dX11_drop_20 ?_
    refine lv_aload_n hx hb dX11_drop_23 rfl (lv_at hl 1 rfl) ?_
    refine gL_f (v := .ref (an 0)) C hG kX11 0 0 rfl (by decide) rfl q539 rfl dX11_drop_24 ?_
    obtain ⟨r2, hcr2, h⟩ := bnd_some h
    refine gF_v (ws' := (rX E ax an asx ay ap ar ai ah aj tf xx ++ (rW E an nn ++ (rH E ah r2 ++ [])))) C hG (pout (pin (pin pnil))) (List.Perm.symm (pout (pin (pin pnil)))) (gR_N (As := [.ref (an 0)]) (rest := []) C hz hl.1 hG (pout (pin (pin pnil))) (c_X4_push l E an ah N nn hh hcr2 H.size) okX4_push q769 30 rfl rfl rfl (Nat.le_of_ble_eq_true rfl) (by omega) ⟨Nat.le_refl _, Nat.le_refl _⟩ dX11_drop_27) (fun H locs hG => ?_)
    refine lv_aload_n hx hb dX11_drop_30 rfl (lv_at hl 1 rfl) ?_
    refine gL_f (v := .ref (an 0)) C hG kX11 0 0 rfl (by decide) rfl q539 rfl dX11_drop_31 ?_
    refine lv_iload_n hx hb dX11_drop_34 rfl (lv_at hl 0 rfl) ?_
    obtain ⟨r3, hcr3, h⟩ := bnd_some h
    refine gF_v (ws' := (rX E ax an asx ay ap ar ai ah aj tf xx ++ (rW E an r3 ++ (rH E ah r2 ++ [])))) C hG (pout (pin (pout pnil))) (List.Perm.symm (pout (pin (pout pnil)))) (gR_N (As := [.int r1]) (rest := []) C hz hl.1 hG (pout (pin (pout pnil))) (c_X10_dropMove l E an N r1 nn hcr3 H.size) okX10_dropMove q884 0 rfl rfl rfl (Nat.le_of_ble_eq_true rfl) (by omega) ⟨Nat.le_refl _, Nat.le_refl _⟩ dX11_drop_35) (fun H locs hG => ?_)
    refine lv_aload_n hx hb dX11_drop_38 rfl (lv_at hl 1 rfl) ?_
    refine gL_f (v := .ref (an 0)) C hG kX11 0 0 rfl (by decide) rfl q539 rfl dX11_drop_39 ?_
    refine gL_fN (v := .ref (an 23)) C hG kX10 2 4 rfl (by decide) rfl q364 rfl dX11_drop_42 ?_
    refine gL_fN (v := .int (r3 23 0)) C hG kX5 25 0 rfl (by decide) rfl q316 rfl dX11_drop_45 ?_
    exact hret _ _ _ _ _ _ _ h rfl hG dX11_drop_48
  · replace h := it c14 h
    refine lv_iconst (v := (-1)) hx hb dX11_drop_17 (by decide) ?_
    exact hret _ _ _ _ _ _ _ h rfl hG dX11_drop_18
set_option maxHeartbeats 4000000 in
set_option maxRecDepth 100000 in
theorem c_X11_isDays (l : Launch) (E : GE) (x0 : Int32) {res : Int32} (h : fX11_isDays x0 = res) : gMi l E yX11_isDays cX11_isDays 1 .boolean 1 0 0 [.int x0] [] [] res := by
  refine gMi_of (own := RX11) (by decide +kernel) rfl (Nat.le_of_ble_eq_true rfl) ?_
  intro p e s m args below meth c A ls Q H locs C hz hl hG hret
  have hx := C.1.1
  have hb := C.1.2.1
  have hts := C.1.2.2.2.2
  have hown := C.1.2.2.2.1
  have hl : lv_has ls 1 [(0, .int x0)] := hl
  replace hret : ∀ (r0 : Int32) (H : Heap) (locs : List Loc) (pc : Nat) (ls' : Array Slot), r0 = res → narrow .boolean (.int r0) = .int r0 → gG E A s.heap [] H locs → decode cX11_isDays pc = .ok (.ireturn, 1) → W p l e (rmD 1 0 0) s m args below meth c H locs 0 0 Q (F0 m pc ls' [.int r0]) := by
    intro r0 H locs pc ls' e0 hn; cases e0; exact hret H locs pc ls' hn
  rw [fX11_isDays] at h
  refine lv_iload_n hx hb dX11_isDays_0 rfl (lv_at hl 0 rfl) ?_
  refine lv_iconst (v := 1) hx hb dX11_isDays_1 (by decide) ?_
  refine lv_icmp_lt (tgt := 15) hx hb dX11_isDays_2 (by decide) (fun c2 => ?_) (fun c2 => ?_)
  · replace h := it c2 h
    refine lv_iconst (v := 0) hx hb dX11_isDays_15 (by decide) ?_
    exact hret _ _ _ _ _ h rfl hG dX11_isDays_16
  · replace h := ie c2 h
    refine lv_iload_n hx hb dX11_isDays_5 rfl (lv_at hl 0 rfl) ?_
    refine lv_bipush (v := 8) hx hb dX11_isDays_6 (by decide) ?_
    refine lv_icmp_gt (tgt := 15) hx hb dX11_isDays_8 (by decide) (fun c8 => ?_) (fun c8 => ?_)
    · replace h := it c8 h
      refine lv_iconst (v := 0) hx hb dX11_isDays_15 (by decide) ?_
      exact hret _ _ _ _ _ h rfl hG dX11_isDays_16
    · replace h := ie c8 h
      refine lv_iconst (v := 1) hx hb dX11_isDays_11 (by decide) ?_
      refine lv_goto (tgt := 16) hx hb dX11_isDays_12 (by decide) ?_
      exact hret _ _ _ _ _ h rfl hG dX11_isDays_16
set_option maxHeartbeats 4000000 in
set_option maxRecDepth 100000 in
theorem c_X11_day (l : Launch) (E : GE) (ax an asx ay ap ar ai : Nat → Nat) (ah aj : Nat → Nat → Nat) (tf : Nat → Option Nat) (N : Nat) (x1 : Int32) (xx : RS) (nn : RS) (pp : RS) (hh : HS) {res : Int32 × RS × RS × HS} (h : fX11_day N x1 xx nn pp hh = some res) : gMi l E yX11_day cX11_day 2 .int 18 0 0 [.ref (ax 0), .int x1] (rX E ax an asx ay ap ar ai ah aj tf xx ++ (rW E an nn ++ (rP E ap pp ++ (rH E ah hh ++ [])))) (rX E ax an asx ay ap ar ai ah aj tf xx ++ (rW E an res.2.1 ++ (rP E ap res.2.2.1 ++ (rH E ah res.2.2.2 ++ [])))) res.1 := by
  refine gMi_of (own := RX11) (by decide +kernel) rfl (Nat.le_of_ble_eq_true rfl) ?_
  intro p e s m args below meth c A ls Q H locs C hz hl hG hret
  have hx := C.1.1
  have hb := C.1.2.1
  have hts := C.1.2.2.2.2
  have hown := C.1.2.2.2.1
  have hl : lv_has ls 2 [(0, .ref (ax 0)), (1, .int x1)] := hl
  replace hret : ∀ (r0 : Int32) (nn0 : RS) (pp0 : RS) (hh0 : HS) (H : Heap) (locs : List Loc) (pc : Nat) (ls' : Array Slot), some (r0, nn0, pp0, hh0) = some res → narrow .int (.int r0) = .int r0 → gG E A s.heap (rX E ax an asx ay ap ar ai ah aj tf xx ++ (rW E an nn0 ++ (rP E ap pp0 ++ (rH E ah hh0 ++ [])))) H locs → decode cX11_day pc = .ok (.ireturn, 1) → W p l e (rmD 18 0 0) s m args below meth c H locs 0 0 Q (F0 m pc ls' [.int r0]) := by
    intro r0 nn0 pp0 hh0 H locs pc ls' e0 hn; cases e0; exact hret H locs pc ls' hn
  rw [fX11_day] at h
  refine lv_iload_n hx hb dX11_day_0 rfl (lv_at hl 1 rfl) ?_
  refine gF_i (ws' := (rX E ax an asx ay ap ar ai ah aj tf xx ++ (rW E an nn ++ (rP E ap pp ++ (rH E ah hh ++ []))))) C hG pst pst.symm (gR_S (As := [.int x1]) (rest := []) C hz hl.1 hG pst (c_X11_isDays l E x1 rfl H.size) okX11_isDays q907 rfl (Nat.le_of_ble_eq_true rfl) (by omega) ⟨Nat.le_refl _, Nat.le_refl _⟩ dX11_day_1) (fun H locs z1 hG => ?_)
  refine lv_if_ne (tgt := 9) hx hb dX11_day_4 (by decide) (fun c4 => ?_) (fun c4 => ?_)
  · replace h := ie c4 h
    refine lv_aload_n hx hb dX11_day_9 rfl (lv_at hl 0 rfl) ?_
    refine gL_f (v := .ref (ah 0 0)) C hG kX11 0 2 rfl (by decide) rfl q541 rfl dX11_day_10 ?_
    refine lv_aload_n hx hb dX11_day_13 rfl (lv_at hl 0 rfl) ?_
    refine gL_f (v := .ref (an 0)) C hG kX11 0 0 rfl (by decide) rfl q539 rfl dX11_day_14 ?_
    obtain ⟨r2, hcr2, h⟩ := bnd_some h
    refine gF_v (ws' := (rX E ax an asx ay ap ar ai ah aj tf xx ++ (rW E an nn ++ (rP E ap pp ++ (rH E ah r2 ++ []))))) C hG (pout (pin (pout (pin pnil)))) (List.Perm.symm (pout (pin (pout (pin pnil))))) (gR_N (As := [.ref (an 0)]) (rest := []) C hz hl.1 hG (pout (pin (pout (pin pnil)))) (c_X4_push l E an ah N nn hh hcr2 H.size) okX4_push q769 30 rfl rfl rfl (Nat.le_of_ble_eq_true rfl) (by omega) ⟨Nat.le_refl _, Nat.le_refl _⟩ dX11_day_17) (fun H locs hG => ?_)
    refine lv_aload_n hx hb dX11_day_20 rfl (lv_at hl 0 rfl) ?_
    refine gL_f (v := .ref (an 0)) C hG kX11 0 0 rfl (by decide) rfl q539 rfl dX11_day_21 ?_
    refine lv_iload_n hx hb dX11_day_24 rfl (lv_at hl 1 rfl) ?_
    refine lv_aload_n hx hb dX11_day_25 rfl (lv_at hl 0 rfl) ?_
    refine gL_f (v := .ref (ap 0)) C hG kX11 0 3 rfl (by decide) rfl q542 rfl dX11_day_26 ?_
    obtain ⟨r3, hcr3, h⟩ := bnd_some h
    refine gF_v (ws' := (rX E ax an asx ay ap ar ai ah aj tf xx ++ (rW E an r3.1 ++ (rP E ap r3.2 ++ (rH E ah r2 ++ []))))) C hG (pout (pin (pin (pout pnil)))) (List.Perm.symm (pout (pin (pin (pout pnil))))) (gR_N (As := [.int x1, .ref (ap 0)]) (rest := []) C hz hl.1 hG (pout (pin (pin (pout pnil)))) (c_X10_pass l E an ap N x1 nn pp hcr3 H.size) okX10_pass q910 0 rfl rfl rfl (Nat.le_of_ble_eq_true rfl) (by omega) ⟨Nat.le_refl _, Nat.le_refl _⟩ dX11_day_29) (fun H locs hG => ?_)
    refine lv_aload_n hx hb dX11_day_32 rfl (lv_at hl 0 rfl) ?_
    refine gL_f (v := .ref (an 0)) C hG kX11 0 0 rfl (by decide) rfl q539 rfl dX11_day_33 ?_
    refine gL_fN (v := .ref (an 1)) C hG kX10 2 0 rfl (by decide) rfl q354 rfl dX11_day_36 ?_
    refine lv_iconst (v := 0) hx hb dX11_day_39 (by decide) ?_
    refine gL_i (v := (r3.1 1 0)) C hG 3 rfl (vp_in_nI (n := 0) (by decide) (by decide)) (congrArg (r3.1 1) (nI_clamp (n := 0) (by decide))) dX11_day_40 ?_
    exact hret _ _ _ _ _ _ _ _ h rfl hG dX11_day_41
  · replace h := it c4 h
    refine lv_iconst (v := (-1)) hx hb dX11_day_7 (by decide) ?_
    exact hret _ _ _ _ _ _ _ _ h rfl hG dX11_day_8
set_option maxHeartbeats 4000000 in
set_option maxRecDepth 100000 in
theorem c_X11_crash (l : Launch) (E : GE) (ax an asx ay ap ar ai : Nat → Nat) (ah aj : Nat → Nat → Nat) (tf : Nat → Option Nat) (N : Nat) (xx : RS) (nn : RS) (hh : HS) {res : Int32 × RS × HS} (h : fX11_crash N xx nn hh = some res) : gMi l E yX11_crash cX11_crash 1 .int 4 0 0 [.ref (ax 0)] (rX E ax an asx ay ap ar ai ah aj tf xx ++ (rW E an nn ++ (rH E ah hh ++ []))) (rX E ax an asx ay ap ar ai ah aj tf xx ++ (rW E an res.2.1 ++ (rH E ah res.2.2 ++ []))) res.1 := by
  refine gMi_of (own := RX11) (by decide +kernel) rfl (Nat.le_of_ble_eq_true rfl) ?_
  intro p e s m args below meth c A ls Q H locs C hz hl hG hret
  have hx := C.1.1
  have hb := C.1.2.1
  have hts := C.1.2.2.2.2
  have hown := C.1.2.2.2.1
  have hl : lv_has ls 1 [(0, .ref (ax 0))] := hl
  replace hret : ∀ (r0 : Int32) (nn0 : RS) (hh0 : HS) (H : Heap) (locs : List Loc) (pc : Nat) (ls' : Array Slot), some (r0, nn0, hh0) = some res → narrow .int (.int r0) = .int r0 → gG E A s.heap (rX E ax an asx ay ap ar ai ah aj tf xx ++ (rW E an nn0 ++ (rH E ah hh0 ++ []))) H locs → decode cX11_crash pc = .ok (.ireturn, 1) → W p l e (rmD 4 0 0) s m args below meth c H locs 0 0 Q (F0 m pc ls' [.int r0]) := by
    intro r0 nn0 hh0 H locs pc ls' e0 hn; cases e0; exact hret H locs pc ls' hn
  rw [fX11_crash] at h
  refine lv_aload_n hx hb dX11_crash_0 rfl (lv_at hl 0 rfl) ?_
  refine gL_f (v := .ref (ah 0 0)) C hG kX11 0 2 rfl (by decide) rfl q541 rfl dX11_crash_1 ?_
  refine lv_aload_n hx hb dX11_crash_4 rfl (lv_at hl 0 rfl) ?_
  refine gL_f (v := .ref (an 0)) C hG kX11 0 0 rfl (by decide) rfl q539 rfl dX11_crash_5 ?_
  obtain ⟨r1, hcr1, h⟩ := bnd_some h
  refine gF_v (ws' := (rX E ax an asx ay ap ar ai ah aj tf xx ++ (rW E an nn ++ (rH E ah r1 ++ [])))) C hG (pout (pin (pin pnil))) (List.Perm.symm (pout (pin (pin pnil)))) (gR_N (As := [.ref (an 0)]) (rest := []) C hz hl.1 hG (pout (pin (pin pnil))) (c_X4_push l E an ah N nn hh hcr1 H.size) okX4_push q769 30 rfl rfl rfl (Nat.le_of_ble_eq_true rfl) (by omega) ⟨Nat.le_refl _, Nat.le_refl _⟩ dX11_crash_8) (fun H locs hG => ?_)
  refine lv_aload_n hx hb dX11_crash_11 rfl (lv_at hl 0 rfl) ?_
  refine gL_f (v := .ref (an 0)) C hG kX11 0 0 rfl (by decide) rfl q539 rfl dX11_crash_12 ?_
  obtain ⟨r2, hcr2, h⟩ := bnd_some h
  refine gF_i (ws' := (rX E ax an asx ay ap ar ai ah aj tf xx ++ (rW E an r2.2 ++ (rH E ah r1 ++ [])))) C hG (pout (pin (pout pnil))) (List.Perm.symm (pout (pin (pout pnil)))) (gR_N (As := []) (rest := []) C hz hl.1 hG (pout (pin (pout pnil))) (c_X10_loseMemory l E an N nn hcr2 H.size) okX10_loseMemory q1021 0 rfl rfl rfl (Nat.le_of_ble_eq_true rfl) (by omega) ⟨Nat.le_refl _, Nat.le_refl _⟩ dX11_crash_15) (fun H locs _ hG => ?_)
  exact hret _ _ _ _ _ _ _ h rfl hG dX11_crash_18
set_option maxHeartbeats 4000000 in
set_option maxRecDepth 100000 in
theorem c_X11_years (l : Launch) (E : GE) (ax an asx ay ap ar ai : Nat → Nat) (ah aj : Nat → Nat → Nat) (tf : Nat → Option Nat) (N : Nat) (x1 : Int32) (x2 : Int32) (xx : RS) (nn : RS) (pp : RS) (hh : HS) {res : Int32 × RS × RS × HS} (h : fX11_years N x1 x2 xx nn pp hh = some res) : gMi l E yX11_years cX11_years 3 .int 19 0 0 [.ref (ax 0), .int x1, .int x2] (rX E ax an asx ay ap ar ai ah aj tf xx ++ (rW E an nn ++ (rP E ap pp ++ (rH E ah hh ++ [])))) (rX E ax an asx ay ap ar ai ah aj tf xx ++ (rW E an res.2.1 ++ (rP E ap res.2.2.1 ++ (rH E ah res.2.2.2 ++ [])))) res.1 := by
  refine gMi_of (own := RX11) (by decide +kernel) rfl (Nat.le_of_ble_eq_true rfl) ?_
  intro p e s m args below meth c A ls Q H locs C hz hl hG hret
  have hx := C.1.1
  have hb := C.1.2.1
  have hts := C.1.2.2.2.2
  have hown := C.1.2.2.2.1
  have hl : lv_has ls 3 [(0, .ref (ax 0)), (1, .int x1), (2, .int x2)] := hl
  replace hret : ∀ (r0 : Int32) (nn0 : RS) (pp0 : RS) (hh0 : HS) (H : Heap) (locs : List Loc) (pc : Nat) (ls' : Array Slot), some (r0, nn0, pp0, hh0) = some res → narrow .int (.int r0) = .int r0 → gG E A s.heap (rX E ax an asx ay ap ar ai ah aj tf xx ++ (rW E an nn0 ++ (rP E ap pp0 ++ (rH E ah hh0 ++ [])))) H locs → decode cX11_years pc = .ok (.ireturn, 1) → W p l e (rmD 19 0 0) s m args below meth c H locs 0 0 Q (F0 m pc ls' [.int r0]) := by
    intro r0 nn0 pp0 hh0 H locs pc ls' e0 hn; cases e0; exact hret H locs pc ls' hn
  rw [fX11_years] at h
  refine lv_iload_n hx hb dX11_years_0 rfl (lv_at hl 1 rfl) ?_
  refine lv_if_lt (tgt := 22) hx hb dX11_years_1 (by decide) (fun c1 => ?_) (fun c1 => ?_)
  · replace h := it c1 h
    refine lv_iconst (v := (-1)) hx hb dX11_years_22 (by decide) ?_
    exact hret _ _ _ _ _ _ _ _ h rfl hG dX11_years_23
  · replace h := ie c1 h
    refine lv_iload_n hx hb dX11_years_4 rfl (lv_at hl 1 rfl) ?_
    refine lv_sipush (v := 9999) hx hb dX11_years_5 (by decide) ?_
    refine lv_icmp_gt (tgt := 22) hx hb dX11_years_8 (by decide) (fun c8 => ?_) (fun c8 => ?_)
    · replace h := it c8 h
      refine lv_iconst (v := (-1)) hx hb dX11_years_22 (by decide) ?_
      exact hret _ _ _ _ _ _ _ _ h rfl hG dX11_years_23
    · replace h := ie c8 h
      refine lv_iload_n hx hb dX11_years_11 rfl (lv_at hl 2 rfl) ?_
      refine lv_iconst (v := 1) hx hb dX11_years_12 (by decide) ?_
      refine lv_icmp_lt (tgt := 22) hx hb dX11_years_13 (by decide) (fun c13 => ?_) (fun c13 => ?_)
      · replace h := it c13 h
        refine lv_iconst (v := (-1)) hx hb dX11_years_22 (by decide) ?_
        exact hret _ _ _ _ _ _ _ _ h rfl hG dX11_years_23
      · replace h := ie c13 h
        refine lv_iload_n hx hb dX11_years_16 rfl (lv_at hl 2 rfl) ?_
        refine lv_bipush (v := 24) hx hb dX11_years_17 (by decide) ?_
        refine lv_icmp_le (tgt := 24) hx hb dX11_years_19 (by decide) (fun c19 => ?_) (fun c19 => ?_)
        · replace h := it c19 h
          refine lv_aload_n hx hb dX11_years_24 rfl (lv_at hl 0 rfl) ?_
          refine gL_f (v := .ref (ah 0 0)) C hG kX11 0 2 rfl (by decide) rfl q541 rfl dX11_years_25 ?_
          refine lv_aload_n hx hb dX11_years_28 rfl (lv_at hl 0 rfl) ?_
          refine gL_f (v := .ref (an 0)) C hG kX11 0 0 rfl (by decide) rfl q539 rfl dX11_years_29 ?_
          obtain ⟨r1, hcr1, h⟩ := bnd_some h
          refine gF_v (ws' := (rX E ax an asx ay ap ar ai ah aj tf xx ++ (rW E an nn ++ (rP E ap pp ++ (rH E ah r1 ++ []))))) C hG (pout (pin (pout (pin pnil)))) (List.Perm.symm (pout (pin (pout (pin pnil))))) (gR_N (As := [.ref (an 0)]) (rest := []) C hz hl.1 hG (pout (pin (pout (pin pnil)))) (c_X4_push l E an ah N nn hh hcr1 H.size) okX4_push q769 30 rfl rfl rfl (Nat.le_of_ble_eq_true rfl) (by omega) ⟨Nat.le_refl _, Nat.le_refl _⟩ dX11_years_32) (fun H locs hG => ?_)
          refine lv_aload_n hx hb dX11_years_35 rfl (lv_at hl 0 rfl) ?_
          refine gL_f (v := .ref (an 0)) C hG kX11 0 0 rfl (by decide) rfl q539 rfl dX11_years_36 ?_
          refine lv_iload_n hx hb dX11_years_39 rfl (lv_at hl 1 rfl) ?_
          refine lv_iload_n hx hb dX11_years_40 rfl (lv_at hl 2 rfl) ?_
          refine lv_aload_n hx hb dX11_years_41 rfl (lv_at hl 0 rfl) ?_
          refine gL_f (v := .ref (ap 0)) C hG kX11 0 3 rfl (by decide) rfl q542 rfl dX11_years_42 ?_
          obtain ⟨r2, hcr2, h⟩ := bnd_some h
          refine gF_v (ws' := (rX E ax an asx ay ap ar ai ah aj tf xx ++ (rW E an r2.1 ++ (rP E ap r2.2 ++ (rH E ah r1 ++ []))))) C hG (pout (pin (pin (pout pnil)))) (List.Perm.symm (pout (pin (pin (pout pnil))))) (gR_N (As := [.int x1, .int x2, .ref (ap 0)]) (rest := []) C hz hl.1 hG (pout (pin (pin (pout pnil)))) (c_X10_live l E an ap N x1 x2 nn pp hcr2 H.size) okX10_live q1101 0 rfl rfl rfl (Nat.le_of_ble_eq_true rfl) (by omega) ⟨Nat.le_refl _, Nat.le_refl _⟩ dX11_years_45) (fun H locs hG => ?_)
          refine lv_aload_n hx hb dX11_years_48 rfl (lv_at hl 0 rfl) ?_
          refine gL_f (v := .ref (an 0)) C hG kX11 0 0 rfl (by decide) rfl q539 rfl dX11_years_49 ?_
          refine gL_fN (v := .ref (an 1)) C hG kX10 2 0 rfl (by decide) rfl q354 rfl dX11_years_52 ?_
          refine lv_iconst (v := 0) hx hb dX11_years_55 (by decide) ?_
          refine gL_i (v := (r2.1 1 0)) C hG 3 rfl (vp_in_nI (n := 0) (by decide) (by decide)) (congrArg (r2.1 1) (nI_clamp (n := 0) (by decide))) dX11_years_56 ?_
          exact hret _ _ _ _ _ _ _ _ h rfl hG dX11_years_57
        · replace h := ie c19 h
          refine lv_iconst (v := (-1)) hx hb dX11_years_22 (by decide) ?_
          exact hret _ _ _ _ _ _ _ _ h rfl hG dX11_years_23
set_option maxHeartbeats 4000000 in
set_option maxRecDepth 100000 in
theorem c_X4_pop (l : Launch) (E : GE) (aw : Nat → Nat) (ah : Nat → Nat → Nat) (N : Nat) (ww : RS) (hh : HS) {res : Int32 × RS × HS} (h : fX4_pop N ww hh = some res) : gMi l E yX4_pop cX4_pop 2 .boolean 3 0 0 [.ref (ah 0 0), .ref (aw 0)] (rW E aw ww ++ (rH E ah hh ++ [])) (rW E aw res.2.1 ++ (rH E ah res.2.2 ++ [])) res.1 := by
  refine gMi_of (own := RX4) (by decide +kernel) rfl (Nat.le_of_ble_eq_true rfl) ?_
  intro p e s m args below meth c A ls Q H locs C hz hl hG hret
  have hx := C.1.1
  have hb := C.1.2.1
  have hts := C.1.2.2.2.2
  have hown := C.1.2.2.2.1
  have hl : lv_has ls 2 [(0, .ref (ah 0 0)), (1, .ref (aw 0))] := hl
  replace hret : ∀ (r0 : Int32) (ww0 : RS) (hh0 : HS) (H : Heap) (locs : List Loc) (pc : Nat) (ls' : Array Slot), some (r0, ww0, hh0) = some res → narrow .boolean (.int r0) = .int r0 → gG E A s.heap (rW E aw ww0 ++ (rH E ah hh0 ++ [])) H locs → decode cX4_pop pc = .ok (.ireturn, 1) → W p l e (rmD 3 0 0) s m args below meth c H locs 0 0 Q (F0 m pc ls' [.int r0]) := by
    intro r0 ww0 hh0 H locs pc ls' e0 hn; cases e0; exact hret H locs pc ls' hn
  rw [fX4_pop] at h
  refine lv_aload_n hx hb dX4_pop_0 rfl (lv_at hl 0 rfl) ?_
  refine gL_f (v := .int (hh 0 0 2)) C hG kX4 30 2 rfl (by decide) rfl q391 rfl dX4_pop_1 ?_
  refine lv_if_ne (tgt := 9) hx hb dX4_pop_4 (by decide) (fun c4 => ?_) (fun c4 => ?_)
  · replace h := ie c4 h
    refine lv_aload_n hx hb dX4_pop_9 rfl (lv_at hl 0 rfl) ?_
    refine lv_dup hx hb dX4_pop_10 rfl ?_
    refine gL_f (v := .int (hh 0 0 2)) C hG kX4 30 2 rfl (by decide) rfl q391 rfl dX4_pop_11 ?_
    refine lv_iconst (v := 1) hx hb dX4_pop_14 (by decide) ?_
    refine lv_isub hx hb dX4_pop_15 ?_
    obtain ⟨hh_1, ehh_1, h⟩ := thn_some h
    refine gS_f (v := .int ((hh 0 0 2) - 1)) (ws' := (rW E aw ww ++ (rH E ah hh_1 ++ []))) C hG kX4 30 2 rfl (by decide) q391 rfl rfl rfl rfl (by show 2 < 3; decide) dX4_pop_16 (by rw [ehh_1]; rfl) (fun H locs hG => ?_)
    refine lv_aload_n hx hb dX4_pop_19 rfl (lv_at hl 1 rfl) ?_
    refine lv_aload_n hx hb dX4_pop_20 rfl (lv_at hl 0 rfl) ?_
    refine gL_f (v := .ref (ah 0 1)) C hG kX4 30 0 rfl (by decide) rfl q389 rfl dX4_pop_21 ?_
    refine lv_aload_n hx hb dX4_pop_24 rfl (lv_at hl 0 rfl) ?_
    refine gL_f (v := .int (hh_1 0 0 1)) C hG kX4 30 1 rfl (by decide) rfl q390 rfl dX4_pop_25 ?_
    refine lv_aload_n hx hb dX4_pop_28 rfl (lv_at hl 0 rfl) ?_
    refine gL_f (v := .int (hh_1 0 0 2)) C hG kX4 30 2 rfl (by decide) rfl q391 rfl dX4_pop_29 ?_
    refine lv_iadd hx hb dX4_pop_32 ?_
    refine lv_bipush (v := 30) hx hb dX4_pop_33 (by decide) ?_
    refine lv_irem hx hb dX4_pop_35 (by decide) ?_
    refine g_int (v := (irem ((hh_1 0 0 1) + (hh_1 0 0 2)) 30)) rfl ?_
    obtain ⟨b2, h⟩ := ck_some h
    refine va_aldq hx hb C.2.1 hG.1 31 3 rfl rfl (inb_in b2) dX4_pop_36 ?_
    refine g_ref (v := .ref (ah ((irem ((hh_1 0 0 1) + (hh_1 0 0 2)) 30).toNatClampNeg + 1) 0)) rfl ?_
    obtain ⟨r3, hcr3, h⟩ := thn_some h
    refine gF_v (ws' := (rW E aw r3 ++ (rH E ah hh_1 ++ []))) C hG (ph2 (inb_lt b2)) (ph2 (inb_lt b2)).symm (gR_N (As := [.ref (ah ((irem ((hh_1 0 0 1) + (hh_1 0 0 2)) 30).toNatClampNeg + 1) 0)]) (rest := []) C hz hl.1 hG (ph2 (inb_lt b2)) (c_X10_copyFrom l E aw (ah ((irem ((hh_1 0 0 1) + (hh_1 0 0 2)) 30).toNatClampNeg + 1)) ww (hh_1 ((irem ((hh_1 0 0 1) + (hh_1 0 0 2)) 30).toNatClampNeg + 1)) hcr3.symm H.size) okX10_copyFrom q773 0 rfl rfl rfl (Nat.le_of_ble_eq_true rfl) (by omega) ⟨Nat.le_refl _, Nat.le_refl _⟩ dX4_pop_37) (fun H locs hG => ?_)
    refine lv_iconst (v := 1) hx hb dX4_pop_40 (by decide) ?_
    exact hret _ _ _ _ _ _ _ h rfl hG dX4_pop_41
  · replace h := it c4 h
    refine lv_iconst (v := 0) hx hb dX4_pop_7 (by decide) ?_
    exact hret _ _ _ _ _ _ _ h rfl hG dX4_pop_8
set_option maxHeartbeats 4000000 in
set_option maxRecDepth 100000 in
theorem c_X11_undo (l : Launch) (E : GE) (ax an asx ay ap ar ai : Nat → Nat) (ah aj : Nat → Nat → Nat) (tf : Nat → Option Nat) (N : Nat) (xx : RS) (nn : RS) (hh : HS) {res : Int32 × RS × HS} (h : fX11_undo N xx nn hh = some res) : gMi l E yX11_undo cX11_undo 1 .int 4 0 0 [.ref (ax 0)] (rX E ax an asx ay ap ar ai ah aj tf xx ++ (rW E an nn ++ (rH E ah hh ++ []))) (rX E ax an asx ay ap ar ai ah aj tf xx ++ (rW E an res.2.1 ++ (rH E ah res.2.2 ++ []))) res.1 := by
  refine gMi_of (own := RX11) (by decide +kernel) rfl (Nat.le_of_ble_eq_true rfl) ?_
  intro p e s m args below meth c A ls Q H locs C hz hl hG hret
  have hx := C.1.1
  have hb := C.1.2.1
  have hts := C.1.2.2.2.2
  have hown := C.1.2.2.2.1
  have hl : lv_has ls 1 [(0, .ref (ax 0))] := hl
  replace hret : ∀ (r0 : Int32) (nn0 : RS) (hh0 : HS) (H : Heap) (locs : List Loc) (pc : Nat) (ls' : Array Slot), some (r0, nn0, hh0) = some res → narrow .int (.int r0) = .int r0 → gG E A s.heap (rX E ax an asx ay ap ar ai ah aj tf xx ++ (rW E an nn0 ++ (rH E ah hh0 ++ []))) H locs → decode cX11_undo pc = .ok (.ireturn, 1) → W p l e (rmD 4 0 0) s m args below meth c H locs 0 0 Q (F0 m pc ls' [.int r0]) := by
    intro r0 nn0 hh0 H locs pc ls' e0 hn; cases e0; exact hret H locs pc ls' hn
  rw [fX11_undo] at h
  refine lv_aload_n hx hb dX11_undo_0 rfl (lv_at hl 0 rfl) ?_
  refine gL_f (v := .ref (ah 0 0)) C hG kX11 0 2 rfl (by decide) rfl q541 rfl dX11_undo_1 ?_
  refine lv_aload_n hx hb dX11_undo_4 rfl (lv_at hl 0 rfl) ?_
  refine gL_f (v := .ref (an 0)) C hG kX11 0 0 rfl (by decide) rfl q539 rfl dX11_undo_5 ?_
  obtain ⟨r1, hcr1, h⟩ := bnd_some h
  refine gF_i (ws' := (rX E ax an asx ay ap ar ai ah aj tf xx ++ (rW E an r1.2.1 ++ (rH E ah r1.2.2 ++ [])))) C hG (pout (pin (pin pnil))) (List.Perm.symm (pout (pin (pin pnil)))) (gR_N (As := [.ref (an 0)]) (rest := []) C hz hl.1 hG (pout (pin (pin pnil))) (c_X4_pop l E an ah N nn hh hcr1 H.size) okX4_pop q1116 30 rfl rfl rfl (Nat.le_of_ble_eq_true rfl) (by omega) ⟨Nat.le_refl _, Nat.le_refl _⟩ dX11_undo_8) (fun H locs z2 hG => ?_)
  refine lv_if_eq (tgt := 24) hx hb dX11_undo_11 (by decide) (fun c11 => ?_) (fun c11 => ?_)
  · replace h := it c11 h
    refine lv_iconst (v := (-1)) hx hb dX11_undo_24 (by decide) ?_
    exact hret _ _ _ _ _ _ _ h rfl hG dX11_undo_25
  · replace h := ie c11 h
    refine lv_aload_n hx hb dX11_undo_14 rfl (lv_at hl 0 rfl) ?_
    refine gL_f (v := .ref (ah 0 0)) C hG kX11 0 2 rfl (by decide) rfl q541 rfl dX11_undo_15 ?_
    refine gL_fN (v := .int (r1.2.2 0 0 2)) C hG kX4 32 2 rfl (by decide) rfl q392 rfl dX11_undo_18 ?_
    refine lv_goto (tgt := 25) hx hb dX11_undo_21 (by decide) ?_
    exact hret _ _ _ _ _ _ _ h rfl hG dX11_undo_25
set_option maxHeartbeats 4000000 in
set_option maxRecDepth 100000 in
theorem c_X11_is (l : Launch) (E : GE) (ax an asx ay ap ar ai : Nat → Nat) (ah aj : Nat → Nat → Nat) (tf : Nat → Option Nat) (N : Nat) (x1 : Int32) (xx : RS) (nn : RS) {res : Int32} (h : fX11_is N x1 xx nn = some res) : gMi l E yX11_is cX11_is 2 .int 1 0 0 [.ref (ax 0), .int x1] (rX E ax an asx ay ap ar ai ah aj tf xx ++ (rW E an nn ++ [])) (rX E ax an asx ay ap ar ai ah aj tf xx ++ (rW E an nn ++ [])) res := by
  refine gMi_of (own := RX11) (by decide +kernel) rfl (Nat.le_of_ble_eq_true rfl) ?_
  intro p e s m args below meth c A ls Q H locs C hz hl hG hret
  have hx := C.1.1
  have hb := C.1.2.1
  have hts := C.1.2.2.2.2
  have hown := C.1.2.2.2.1
  have hl : lv_has ls 2 [(0, .ref (ax 0)), (1, .int x1)] := hl
  replace hret : ∀ (r0 : Int32) (H : Heap) (locs : List Loc) (pc : Nat) (ls' : Array Slot), some r0 = some res → narrow .int (.int r0) = .int r0 → gG E A s.heap (rX E ax an asx ay ap ar ai ah aj tf xx ++ (rW E an nn ++ [])) H locs → decode cX11_is pc = .ok (.ireturn, 1) → W p l e (rmD 1 0 0) s m args below meth c H locs 0 0 Q (F0 m pc ls' [.int r0]) := by
    intro r0 H locs pc ls' e0 hn; cases e0; exact hret H locs pc ls' hn
  rw [fX11_is] at h
  refine lv_iload_n hx hb dX11_is_0 rfl (lv_at hl 1 rfl) ?_
  refine lv_if_lt (tgt := 22) hx hb dX11_is_1 (by decide) (fun c1 => ?_) (fun c1 => ?_)
  · replace h := it c1 h
    refine lv_iconst (v := (-1)) hx hb dX11_is_22 (by decide) ?_
    exact hret _ _ _ _ _ h rfl hG dX11_is_23
  · replace h := ie c1 h
    refine lv_iload_n hx hb dX11_is_4 rfl (lv_at hl 1 rfl) ?_
    refine lv_bipush (v := 13) hx hb dX11_is_5 (by decide) ?_
    refine lv_icmp_ge (tgt := 22) hx hb dX11_is_7 (by decide) (fun c7 => ?_) (fun c7 => ?_)
    · replace h := it c7 h
      refine lv_iconst (v := (-1)) hx hb dX11_is_22 (by decide) ?_
      exact hret _ _ _ _ _ h rfl hG dX11_is_23
    · replace h := ie c7 h
      refine lv_aload_n hx hb dX11_is_10 rfl (lv_at hl 0 rfl) ?_
      refine gL_f (v := .ref (an 0)) C hG kX11 0 0 rfl (by decide) rfl q539 rfl dX11_is_11 ?_
      refine gL_fN (v := .ref (an 1)) C hG kX10 2 0 rfl (by decide) rfl q354 rfl dX11_is_14 ?_
      refine lv_iload_n hx hb dX11_is_17 rfl (lv_at hl 1 rfl) ?_
      obtain ⟨b1, h⟩ := ck_some h
      refine gL_i (v := (nn 1 x1.toNatClampNeg)) C hG 3 rfl (inb_in b1) rfl dX11_is_18 ?_
      refine lv_goto (tgt := 23) hx hb dX11_is_19 (by decide) ?_
      exact hret _ _ _ _ _ h rfl hG dX11_is_23
set_option maxHeartbeats 4000000 in
set_option maxRecDepth 100000 in
theorem c_X11_where (l : Launch) (E : GE) (ax an asx ay ap ar ai : Nat → Nat) (ah aj : Nat → Nat → Nat) (tf : Nat → Option Nat) (N : Nat) (x1 : Int32) (xx : RS) (nn : RS) {res : Int32} (h : fX11_where N x1 xx nn = some res) : gMi l E yX11_where cX11_where 2 .int 2 0 0 [.ref (ax 0), .int x1] (rX E ax an asx ay ap ar ai ah aj tf xx ++ (rW E an nn ++ [])) (rX E ax an asx ay ap ar ai ah aj tf xx ++ (rW E an nn ++ [])) res := by
  refine gMi_of (own := RX11) (by decide +kernel) rfl (Nat.le_of_ble_eq_true rfl) ?_
  intro p e s m args below meth c A ls Q H locs C hz hl hG hret
  have hx := C.1.1
  have hb := C.1.2.1
  have hts := C.1.2.2.2.2
  have hown := C.1.2.2.2.1
  have hl : lv_has ls 2 [(0, .ref (ax 0)), (1, .int x1)] := hl
  replace hret : ∀ (r0 : Int32) (H : Heap) (locs : List Loc) (pc : Nat) (ls' : Array Slot), some r0 = some res → narrow .int (.int r0) = .int r0 → gG E A s.heap (rX E ax an asx ay ap ar ai ah aj tf xx ++ (rW E an nn ++ [])) H locs → decode cX11_where pc = .ok (.ireturn, 1) → W p l e (rmD 2 0 0) s m args below meth c H locs 0 0 Q (F0 m pc ls' [.int r0]) := by
    intro r0 H locs pc ls' e0 hn; cases e0; exact hret H locs pc ls' hn
  rw [fX11_where] at h
  refine lv_iload_n hx hb dX11_where_0 rfl (lv_at hl 1 rfl) ?_
  refine gF_i (ws' := (rX E ax an asx ay ap ar ai ah aj tf xx ++ (rW E an nn ++ []))) C hG pst pst.symm (gR_S (As := [.int x1]) (rest := []) C hz hl.1 hG pst (c_X11_isExtent l E x1 rfl H.size) okX11_isExtent q764 rfl (Nat.le_of_ble_eq_true rfl) (by omega) ⟨Nat.le_refl _, Nat.le_refl _⟩ dX11_where_1) (fun H locs z1 hG => ?_)
  refine lv_if_eq (tgt := 22) hx hb dX11_where_4 (by decide) (fun c4 => ?_) (fun c4 => ?_)
  · replace h := it c4 h
    refine lv_iconst (v := (-1)) hx hb dX11_where_22 (by decide) ?_
    exact hret _ _ _ _ _ h rfl hG dX11_where_23
  · replace h := ie c4 h
    refine lv_aload_n hx hb dX11_where_7 rfl (lv_at hl 0 rfl) ?_
    refine gL_f (v := .ref (an 0)) C hG kX11 0 0 rfl (by decide) rfl q539 rfl dX11_where_8 ?_
    refine gL_fN (v := .ref (an 2)) C hG kX10 2 1 rfl (by decide) rfl q357 rfl dX11_where_11 ?_
    refine gL_fN (v := .ref (an 3)) C hG kX2 4 0 rfl (by decide) rfl q213 rfl dX11_where_14 ?_
    refine lv_iload_n hx hb dX11_where_17 rfl (lv_at hl 1 rfl) ?_
    obtain ⟨b2, h⟩ := ck_some h
    refine gL_i (v := (nn 3 x1.toNatClampNeg)) C hG 5 rfl (inb_in b2) rfl dX11_where_18 ?_
    refine lv_goto (tgt := 23) hx hb dX11_where_19 (by decide) ?_
    exact hret _ _ _ _ _ h rfl hG dX11_where_23
set_option maxHeartbeats 4000000 in
set_option maxRecDepth 100000 in
theorem c_X11_slot (l : Launch) (E : GE) (ax an asx ay ap ar ai : Nat → Nat) (ah aj : Nat → Nat → Nat) (tf : Nat → Option Nat) (N : Nat) (x1 : Int32) (x2 : Int32) (xx : RS) (nn : RS) {res : Int32} (h : fX11_slot N x1 x2 xx nn = some res) : gMi l E yX11_slot cX11_slot 3 .int 3 0 0 [.ref (ax 0), .int x1, .int x2] (rX E ax an asx ay ap ar ai ah aj tf xx ++ (rW E an nn ++ [])) (rX E ax an asx ay ap ar ai ah aj tf xx ++ (rW E an nn ++ [])) res := by
  refine gMi_of (own := RX11) (by decide +kernel) rfl (Nat.le_of_ble_eq_true rfl) ?_
  intro p e s m args below meth c A ls Q H locs C hz hl hG hret
  have hx := C.1.1
  have hb := C.1.2.1
  have hts := C.1.2.2.2.2
  have hown := C.1.2.2.2.1
  have hl : lv_has ls 3 [(0, .ref (ax 0)), (1, .int x1), (2, .int x2)] := hl
  replace hret : ∀ (r0 : Int32) (H : Heap) (locs : List Loc) (pc : Nat) (ls' : Array Slot), some r0 = some res → narrow .int (.int r0) = .int r0 → gG E A s.heap (rX E ax an asx ay ap ar ai ah aj tf xx ++ (rW E an nn ++ [])) H locs → decode cX11_slot pc = .ok (.ireturn, 1) → W p l e (rmD 3 0 0) s m args below meth c H locs 0 0 Q (F0 m pc ls' [.int r0]) := by
    intro r0 H locs pc ls' e0 hn; cases e0; exact hret H locs pc ls' hn
  rw [fX11_slot] at h
  refine lv_iload_n hx hb dX11_slot_0 rfl (lv_at hl 1 rfl) ?_
  refine lv_iload_n hx hb dX11_slot_1 rfl (lv_at hl 2 rfl) ?_
  obtain ⟨r1, hcr1, h⟩ := bnd_some h
  refine gF_i (ws' := (rX E ax an asx ay ap ar ai ah aj tf xx ++ (rW E an nn ++ []))) C hG pst pst.symm (gR_S (As := [.int x1, .int x2]) (rest := []) C hz hl.1 hG pst (c_X11_isBlock l E N x1 x2 hcr1 H.size) okX11_isBlock q761 rfl (Nat.le_of_ble_eq_true rfl) (by omega) ⟨Nat.le_refl _, Nat.le_refl _⟩ dX11_slot_2) (fun H locs z2 hG => ?_)
  refine lv_if_eq (tgt := 23) hx hb dX11_slot_5 (by decide) (fun c5 => ?_) (fun c5 => ?_)
  · replace h := it c5 h
    refine lv_iconst (v := (-1)) hx hb dX11_slot_23 (by decide) ?_
    exact hret _ _ _ _ _ h rfl hG dX11_slot_24
  · replace h := ie c5 h
    refine lv_aload_n hx hb dX11_slot_8 rfl (lv_at hl 0 rfl) ?_
    refine gL_f (v := .ref (an 0)) C hG kX11 0 0 rfl (by decide) rfl q539 rfl dX11_slot_9 ?_
    refine gL_fN (v := .ref (an 2)) C hG kX10 2 1 rfl (by decide) rfl q357 rfl dX11_slot_12 ?_
    refine gL_fN (v := .ref (an 3)) C hG kX2 4 0 rfl (by decide) rfl q213 rfl dX11_slot_15 ?_
    refine lv_iload_n hx hb dX11_slot_18 rfl (lv_at hl 1 rfl) ?_
    obtain ⟨b3, h⟩ := ck_some h
    refine gL_i (v := (nn 3 x1.toNatClampNeg)) C hG 5 rfl (inb_in b3) rfl dX11_slot_19 ?_
    refine lv_if_ne (tgt := 25) hx hb dX11_slot_20 (by decide) (fun c20 => ?_) (fun c20 => ?_)
    · replace h := ie c20 h
      refine lv_aload_n hx hb dX11_slot_25 rfl (lv_at hl 0 rfl) ?_
      refine gL_f (v := .ref (an 0)) C hG kX11 0 0 rfl (by decide) rfl q539 rfl dX11_slot_26 ?_
      refine gL_fN (v := .ref (an 15)) C hG kX10 2 2 rfl (by decide) rfl q359 rfl dX11_slot_29 ?_
      refine gL_fN (v := .ref (an 18)) C hG kX1 17 2 rfl (by decide) rfl q278 rfl dX11_slot_32 ?_
      refine gT_s C hG q1132 dX11_slot_35 ?_
      refine lv_iload_n hx hb dX11_slot_38 rfl (lv_at hl 1 rfl) ?_
      refine gT_si (v := (startT x1.toNatClampNeg)) C hG (inb_in b3) rfl dX11_slot_39 ?_
      refine lv_iload_n hx hb dX11_slot_40 rfl (lv_at hl 2 rfl) ?_
      refine lv_iadd hx hb dX11_slot_41 ?_
      obtain ⟨b4, h⟩ := ck_some h
      refine gL_i (v := (nn 18 ((startT x1.toNatClampNeg) + x2).toNatClampNeg)) C hG 20 rfl (inb_in b4) rfl dX11_slot_42 ?_
      exact hret _ _ _ _ _ h rfl hG dX11_slot_43
    · replace h := it c20 h
      refine lv_iconst (v := (-1)) hx hb dX11_slot_23 (by decide) ?_
      exact hret _ _ _ _ _ h rfl hG dX11_slot_24
set_option maxHeartbeats 4000000 in
set_option maxRecDepth 100000 in
theorem c_X11_on (l : Launch) (E : GE) (ax an asx ay ap ar ai : Nat → Nat) (ah aj : Nat → Nat → Nat) (tf : Nat → Option Nat) (N : Nat) (x1 : Int32) (x2 : Int32) (xx : RS) (nn : RS) {res : Int32} (h : fX11_on N x1 x2 xx nn = some res) : gMi l E yX11_on cX11_on 3 .int 1 0 0 [.ref (ax 0), .int x1, .int x2] (rX E ax an asx ay ap ar ai ah aj tf xx ++ (rW E an nn ++ [])) (rX E ax an asx ay ap ar ai ah aj tf xx ++ (rW E an nn ++ [])) res := by
  refine gMi_of (own := RX11) (by decide +kernel) rfl (Nat.le_of_ble_eq_true rfl) ?_
  intro p e s m args below meth c A ls Q H locs C hz hl hG hret
  have hx := C.1.1
  have hb := C.1.2.1
  have hts := C.1.2.2.2.2
  have hown := C.1.2.2.2.1
  have hl : lv_has ls 3 [(0, .ref (ax 0)), (1, .int x1), (2, .int x2)] := hl
  replace hret : ∀ (r0 : Int32) (H : Heap) (locs : List Loc) (pc : Nat) (ls' : Array Slot), some r0 = some res → narrow .int (.int r0) = .int r0 → gG E A s.heap (rX E ax an asx ay ap ar ai ah aj tf xx ++ (rW E an nn ++ [])) H locs → decode cX11_on pc = .ok (.ireturn, 1) → W p l e (rmD 1 0 0) s m args below meth c H locs 0 0 Q (F0 m pc ls' [.int r0]) := by
    intro r0 H locs pc ls' e0 hn; cases e0; exact hret H locs pc ls' hn
  rw [fX11_on] at h
  refine lv_iload_n hx hb dX11_on_0 rfl (lv_at hl 1 rfl) ?_
  refine lv_iconst (v := 1) hx hb dX11_on_1 (by decide) ?_
  refine lv_icmp_ne (tgt := 32) hx hb dX11_on_2 (by decide) (fun c2 => ?_) (fun c2 => ?_)
  · replace h := ie c2 h
    refine lv_iload_n hx hb dX11_on_32 rfl (lv_at hl 1 rfl) ?_
    refine lv_if_ne (tgt := 61) hx hb dX11_on_33 (by decide) (fun c33 => ?_) (fun c33 => ?_)
    · replace h := ie c33 h
      refine lv_iconst (v := (-1)) hx hb dX11_on_61 (by decide) ?_
      exact hret _ _ _ _ _ h rfl hG dX11_on_62
    · replace h := it c33 h
      refine lv_iload_n hx hb dX11_on_36 rfl (lv_at hl 2 rfl) ?_
      refine lv_if_lt (tgt := 61) hx hb dX11_on_37 (by decide) (fun c37 => ?_) (fun c37 => ?_)
      · replace h := it c37 h
        refine lv_iconst (v := (-1)) hx hb dX11_on_61 (by decide) ?_
        exact hret _ _ _ _ _ h rfl hG dX11_on_62
      · replace h := ie c37 h
        refine lv_iload_n hx hb dX11_on_40 rfl (lv_at hl 2 rfl) ?_
        refine lv_bipush (v := 23) hx hb dX11_on_41 (by decide) ?_
        refine lv_icmp_ge (tgt := 61) hx hb dX11_on_43 (by decide) (fun c43 => ?_) (fun c43 => ?_)
        · replace h := it c43 h
          refine lv_iconst (v := (-1)) hx hb dX11_on_61 (by decide) ?_
          exact hret _ _ _ _ _ h rfl hG dX11_on_62
        · replace h := ie c43 h
          refine lv_aload_n hx hb dX11_on_46 rfl (lv_at hl 0 rfl) ?_
          refine gL_f (v := .ref (an 0)) C hG kX11 0 0 rfl (by decide) rfl q539 rfl dX11_on_47 ?_
          refine gL_fN (v := .ref (an 15)) C hG kX10 2 2 rfl (by decide) rfl q359 rfl dX11_on_50 ?_
          refine gL_fN (v := .ref (an 16)) C hG kX1 17 0 rfl (by decide) rfl q274 rfl dX11_on_53 ?_
          refine lv_iload_n hx hb dX11_on_56 rfl (lv_at hl 2 rfl) ?_
          obtain ⟨b1, h⟩ := ck_some h
          refine gL_i (v := (nn 16 x2.toNatClampNeg)) C hG 18 rfl (inb_in b1) rfl dX11_on_57 ?_
          refine lv_goto (tgt := 62) hx hb dX11_on_58 (by decide) ?_
          exact hret _ _ _ _ _ h rfl hG dX11_on_62
  · replace h := it c2 h
    refine lv_iload_n hx hb dX11_on_5 rfl (lv_at hl 2 rfl) ?_
    refine lv_if_lt (tgt := 30) hx hb dX11_on_6 (by decide) (fun c6 => ?_) (fun c6 => ?_)
    · replace h := it c6 h
      refine lv_iconst (v := (-1)) hx hb dX11_on_30 (by decide) ?_
      exact hret _ _ _ _ _ h rfl hG dX11_on_31
    · replace h := ie c6 h
      refine lv_iload_n hx hb dX11_on_9 rfl (lv_at hl 2 rfl) ?_
      refine lv_bipush (v := 9) hx hb dX11_on_10 (by decide) ?_
      refine lv_icmp_ge (tgt := 30) hx hb dX11_on_12 (by decide) (fun c12 => ?_) (fun c12 => ?_)
      · replace h := it c12 h
        refine lv_iconst (v := (-1)) hx hb dX11_on_30 (by decide) ?_
        exact hret _ _ _ _ _ h rfl hG dX11_on_31
      · replace h := ie c12 h
        refine lv_aload_n hx hb dX11_on_15 rfl (lv_at hl 0 rfl) ?_
        refine gL_f (v := .ref (an 0)) C hG kX11 0 0 rfl (by decide) rfl q539 rfl dX11_on_16 ?_
        refine gL_fN (v := .ref (an 15)) C hG kX10 2 2 rfl (by decide) rfl q359 rfl dX11_on_19 ?_
        refine gL_fN (v := .ref (an 17)) C hG kX1 17 1 rfl (by decide) rfl q276 rfl dX11_on_22 ?_
        refine lv_iload_n hx hb dX11_on_25 rfl (lv_at hl 2 rfl) ?_
        obtain ⟨b2, h⟩ := ck_some h
        refine gL_i (v := (nn 17 x2.toNatClampNeg)) C hG 19 rfl (inb_in b2) rfl dX11_on_26 ?_
        refine lv_goto (tgt := 31) hx hb dX11_on_27 (by decide) ?_
        exact hret _ _ _ _ _ h rfl hG dX11_on_31
set_option maxHeartbeats 4000000 in
set_option maxRecDepth 100000 in
theorem c_X11_holder (l : Launch) (E : GE) (ax an asx ay ap ar ai : Nat → Nat) (ah aj : Nat → Nat → Nat) (tf : Nat → Option Nat) (N : Nat) (x1 : Int32) (xx : RS) (nn : RS) {res : Int32} (h : fX11_holder N x1 xx nn = some res) : gMi l E yX11_holder cX11_holder 2 .int 1 0 0 [.ref (ax 0), .int x1] (rX E ax an asx ay ap ar ai ah aj tf xx ++ (rW E an nn ++ [])) (rX E ax an asx ay ap ar ai ah aj tf xx ++ (rW E an nn ++ [])) res := by
  refine gMi_of (own := RX11) (by decide +kernel) rfl (Nat.le_of_ble_eq_true rfl) ?_
  intro p e s m args below meth c A ls Q H locs C hz hl hG hret
  have hx := C.1.1
  have hb := C.1.2.1
  have hts := C.1.2.2.2.2
  have hown := C.1.2.2.2.1
  have hl : lv_has ls 2 [(0, .ref (ax 0)), (1, .int x1)] := hl
  replace hret : ∀ (r0 : Int32) (H : Heap) (locs : List Loc) (pc : Nat) (ls' : Array Slot), some r0 = some res → narrow .int (.int r0) = .int r0 → gG E A s.heap (rX E ax an asx ay ap ar ai ah aj tf xx ++ (rW E an nn ++ [])) H locs → decode cX11_holder pc = .ok (.ireturn, 1) → W p l e (rmD 1 0 0) s m args below meth c H locs 0 0 Q (F0 m pc ls' [.int r0]) := by
    intro r0 H locs pc ls' e0 hn; cases e0; exact hret H locs pc ls' hn
  rw [fX11_holder] at h
  refine lv_iload_n hx hb dX11_holder_0 rfl (lv_at hl 1 rfl) ?_
  refine lv_if_lt (tgt := 25) hx hb dX11_holder_1 (by decide) (fun c1 => ?_) (fun c1 => ?_)
  · replace h := it c1 h
    refine lv_iconst (v := (-1)) hx hb dX11_holder_25 (by decide) ?_
    exact hret _ _ _ _ _ h rfl hG dX11_holder_26
  · replace h := ie c1 h
    refine lv_iload_n hx hb dX11_holder_4 rfl (lv_at hl 1 rfl) ?_
    refine lv_bipush (v := 9) hx hb dX11_holder_5 (by decide) ?_
    refine lv_icmp_ge (tgt := 25) hx hb dX11_holder_7 (by decide) (fun c7 => ?_) (fun c7 => ?_)
    · replace h := it c7 h
      refine lv_iconst (v := (-1)) hx hb dX11_holder_25 (by decide) ?_
      exact hret _ _ _ _ _ h rfl hG dX11_holder_26
    · replace h := ie c7 h
      refine lv_aload_n hx hb dX11_holder_10 rfl (lv_at hl 0 rfl) ?_
      refine gL_f (v := .ref (an 0)) C hG kX11 0 0 rfl (by decide) rfl q539 rfl dX11_holder_11 ?_
      refine gL_fN (v := .ref (an 15)) C hG kX10 2 2 rfl (by decide) rfl q359 rfl dX11_holder_14 ?_
      refine gL_fN (v := .ref (an 19)) C hG kX1 17 3 rfl (by decide) rfl q280 rfl dX11_holder_17 ?_
      refine lv_iload_n hx hb dX11_holder_20 rfl (lv_at hl 1 rfl) ?_
      obtain ⟨b1, h⟩ := ck_some h
      refine gL_i (v := (nn 19 x1.toNatClampNeg)) C hG 21 rfl (inb_in b1) rfl dX11_holder_21 ?_
      refine lv_goto (tgt := 26) hx hb dX11_holder_22 (by decide) ?_
      exact hret _ _ _ _ _ h rfl hG dX11_holder_26
set_option maxHeartbeats 4000000 in
set_option maxRecDepth 100000 in
theorem c_X11_free (l : Launch) (E : GE) (ax an asx ay ap ar ai : Nat → Nat) (ah aj : Nat → Nat → Nat) (tf : Nat → Option Nat) (N : Nat) (x1 : Int32) (xx : RS) (nn : RS) {res : Int32} (h : fX11_free N x1 xx nn = some res) : gMi l E yX11_free cX11_free 2 .int 2 0 0 [.ref (ax 0), .int x1] (rX E ax an asx ay ap ar ai ah aj tf xx ++ (rW E an nn ++ [])) (rX E ax an asx ay ap ar ai ah aj tf xx ++ (rW E an nn ++ [])) res := by
  refine gMi_of (own := RX11) (by decide +kernel) rfl (Nat.le_of_ble_eq_true rfl) ?_
  intro p e s m args below meth c A ls Q H locs C hz hl hG hret
  have hx := C.1.1
  have hb := C.1.2.1
  have hts := C.1.2.2.2.2
  have hown := C.1.2.2.2.1
  have hl : lv_has ls 2 [(0, .ref (ax 0)), (1, .int x1)] := hl
  replace hret : ∀ (r0 : Int32) (H : Heap) (locs : List Loc) (pc : Nat) (ls' : Array Slot), some r0 = some res → narrow .int (.int r0) = .int r0 → gG E A s.heap (rX E ax an asx ay ap ar ai ah aj tf xx ++ (rW E an nn ++ [])) H locs → decode cX11_free pc = .ok (.ireturn, 1) → W p l e (rmD 2 0 0) s m args below meth c H locs 0 0 Q (F0 m pc ls' [.int r0]) := by
    intro r0 H locs pc ls' e0 hn; cases e0; exact hret H locs pc ls' hn
  rw [fX11_free] at h
  refine lv_iload_n hx hb dX11_free_0 rfl (lv_at hl 1 rfl) ?_
  refine lv_if_lt (tgt := 24) hx hb dX11_free_1 (by decide) (fun c1 => ?_) (fun c1 => ?_)
  · replace h := it c1 h
    refine lv_iconst (v := (-1)) hx hb dX11_free_24 (by decide) ?_
    exact hret _ _ _ _ _ h rfl hG dX11_free_25
  · replace h := ie c1 h
    refine lv_iload_n hx hb dX11_free_4 rfl (lv_at hl 1 rfl) ?_
    refine lv_bipush (v := 9) hx hb dX11_free_5 (by decide) ?_
    refine lv_icmp_ge (tgt := 24) hx hb dX11_free_7 (by decide) (fun c7 => ?_) (fun c7 => ?_)
    · replace h := it c7 h
      refine lv_iconst (v := (-1)) hx hb dX11_free_24 (by decide) ?_
      exact hret _ _ _ _ _ h rfl hG dX11_free_25
    · replace h := ie c7 h
      refine lv_aload_n hx hb dX11_free_10 rfl (lv_at hl 0 rfl) ?_
      refine gL_f (v := .ref (an 0)) C hG kX11 0 0 rfl (by decide) rfl q539 rfl dX11_free_11 ?_
      refine gL_fN (v := .ref (an 15)) C hG kX10 2 2 rfl (by decide) rfl q359 rfl dX11_free_14 ?_
      refine lv_iload_n hx hb dX11_free_17 rfl (lv_at hl 1 rfl) ?_
      obtain ⟨r1, hcr1, h⟩ := bnd_some h
      refine gF_i (ws' := (rX E ax an asx ay ap ar ai ah aj tf xx ++ (rW E an nn ++ []))) C hG (pout (pin pnil)) (List.Perm.symm (pout (pin pnil))) (gR_N (As := [.int x1]) (rest := []) C hz hl.1 hG (pout (pin pnil)) (c_X1_lowestFree l E an N x1 nn hcr1 H.size) okX1_lowestFree q1145 15 rfl rfl rfl (Nat.le_of_ble_eq_true rfl) (by omega) ⟨Nat.le_refl _, Nat.le_refl _⟩ dX11_free_18) (fun H locs _ hG => ?_)
      refine lv_goto (tgt := 25) hx hb dX11_free_21 (by decide) ?_
      exact hret _ _ _ _ _ h rfl hG dX11_free_25
set_option maxHeartbeats 4000000 in
set_option maxRecDepth 100000 in
theorem c_X11_position (l : Launch) (E : GE) (ax an asx ay ap ar ai : Nat → Nat) (ah aj : Nat → Nat → Nat) (tf : Nat → Option Nat) (N : Nat) (x1 : Int32) (x2 : Int32) (xx : RS) {res : Int32} (h : fX11_position N x1 x2 xx = some res) : gMi l E yX11_position cX11_position 3 .int 3 0 0 [.ref (ax 0), .int x1, .int x2] (rX E ax an asx ay ap ar ai ah aj tf xx ++ []) (rX E ax an asx ay ap ar ai ah aj tf xx ++ []) res := by
  refine gMi_of (own := RX11) (by decide +kernel) rfl (Nat.le_of_ble_eq_true rfl) ?_
  intro p e s m args below meth c A ls Q H locs C hz hl hG hret
  have hx := C.1.1
  have hb := C.1.2.1
  have hts := C.1.2.2.2.2
  have hown := C.1.2.2.2.1
  have hl : lv_has ls 3 [(0, .ref (ax 0)), (1, .int x1), (2, .int x2)] := hl
  replace hret : ∀ (r0 : Int32) (H : Heap) (locs : List Loc) (pc : Nat) (ls' : Array Slot), some r0 = some res → narrow .int (.int r0) = .int r0 → gG E A s.heap (rX E ax an asx ay ap ar ai ah aj tf xx ++ []) H locs → decode cX11_position pc = .ok (.ireturn, 1) → W p l e (rmD 3 0 0) s m args below meth c H locs 0 0 Q (F0 m pc ls' [.int r0]) := by
    intro r0 H locs pc ls' e0 hn; cases e0; exact hret H locs pc ls' hn
  rw [fX11_position] at h
  refine lv_iload_n hx hb dX11_position_0 rfl (lv_at hl 1 rfl) ?_
  refine lv_iload_n hx hb dX11_position_1 rfl (lv_at hl 2 rfl) ?_
  obtain ⟨r1, hcr1, h⟩ := bnd_some h
  refine gF_i (ws' := (rX E ax an asx ay ap ar ai ah aj tf xx ++ [])) C hG pst pst.symm (gR_S (As := [.int x1, .int x2]) (rest := []) C hz hl.1 hG pst (c_X11_isBlock l E N x1 x2 hcr1 H.size) okX11_isBlock q761 rfl (Nat.le_of_ble_eq_true rfl) (by omega) ⟨Nat.le_refl _, Nat.le_refl _⟩ dX11_position_2) (fun H locs z2 hG => ?_)
  refine lv_if_eq (tgt := 18) hx hb dX11_position_5 (by decide) (fun c5 => ?_) (fun c5 => ?_)
  · replace h := it c5 h
    refine lv_iconst (v := (-1)) hx hb dX11_position_18 (by decide) ?_
    exact hret _ _ _ _ _ h rfl hG dX11_position_19
  · replace h := ie c5 h
    refine gT_s C hG q1132 dX11_position_8 ?_
    refine lv_iload_n hx hb dX11_position_11 rfl (lv_at hl 1 rfl) ?_
    obtain ⟨b3, h⟩ := ck_some h
    refine gT_si (v := (startT x1.toNatClampNeg)) C hG (inb_in b3) rfl dX11_position_12 ?_
    refine lv_iload_n hx hb dX11_position_13 rfl (lv_at hl 2 rfl) ?_
    refine lv_iadd hx hb dX11_position_14 ?_
    refine lv_goto (tgt := 19) hx hb dX11_position_15 (by decide) ?_
    exact hret _ _ _ _ _ h rfl hG dX11_position_19
set_option maxHeartbeats 4000000 in
set_option maxRecDepth 100000 in
theorem c_X11_heat (l : Launch) (E : GE) (ax an asx ay ap ar ai : Nat → Nat) (ah aj : Nat → Nat → Nat) (tf : Nat → Option Nat) (N : Nat) (x1 : Int32) (xx : RS) (nn : RS) {res : Int32} (h : fX11_heat N x1 xx nn = some res) : gMi l E yX11_heat cX11_heat 2 .int 2 0 0 [.ref (ax 0), .int x1] (rX E ax an asx ay ap ar ai ah aj tf xx ++ (rW E an nn ++ [])) (rX E ax an asx ay ap ar ai ah aj tf xx ++ (rW E an nn ++ [])) res := by
  refine gMi_of (own := RX11) (by decide +kernel) rfl (Nat.le_of_ble_eq_true rfl) ?_
  intro p e s m args below meth c A ls Q H locs C hz hl hG hret
  have hx := C.1.1
  have hb := C.1.2.1
  have hts := C.1.2.2.2.2
  have hown := C.1.2.2.2.1
  have hl : lv_has ls 2 [(0, .ref (ax 0)), (1, .int x1)] := hl
  replace hret : ∀ (r0 : Int32) (H : Heap) (locs : List Loc) (pc : Nat) (ls' : Array Slot), some r0 = some res → narrow .int (.int r0) = .int r0 → gG E A s.heap (rX E ax an asx ay ap ar ai ah aj tf xx ++ (rW E an nn ++ [])) H locs → decode cX11_heat pc = .ok (.ireturn, 1) → W p l e (rmD 2 0 0) s m args below meth c H locs 0 0 Q (F0 m pc ls' [.int r0]) := by
    intro r0 H locs pc ls' e0 hn; cases e0; exact hret H locs pc ls' hn
  rw [fX11_heat] at h
  refine lv_iload_n hx hb dX11_heat_0 rfl (lv_at hl 1 rfl) ?_
  refine gF_i (ws' := (rX E ax an asx ay ap ar ai ah aj tf xx ++ (rW E an nn ++ []))) C hG pst pst.symm (gR_S (As := [.int x1]) (rest := []) C hz hl.1 hG pst (c_X11_isExtent l E x1 rfl H.size) okX11_isExtent q764 rfl (Nat.le_of_ble_eq_true rfl) (by omega) ⟨Nat.le_refl _, Nat.le_refl _⟩ dX11_heat_1) (fun H locs z1 hG => ?_)
  refine lv_if_eq (tgt := 22) hx hb dX11_heat_4 (by decide) (fun c4 => ?_) (fun c4 => ?_)
  · replace h := it c4 h
    refine lv_iconst (v := (-1)) hx hb dX11_heat_22 (by decide) ?_
    exact hret _ _ _ _ _ h rfl hG dX11_heat_23
  · replace h := ie c4 h
    refine lv_aload_n hx hb dX11_heat_7 rfl (lv_at hl 0 rfl) ?_
    refine gL_f (v := .ref (an 0)) C hG kX11 0 0 rfl (by decide) rfl q539 rfl dX11_heat_8 ?_
    refine gL_fN (v := .ref (an 2)) C hG kX10 2 1 rfl (by decide) rfl q357 rfl dX11_heat_11 ?_
    refine gL_fN (v := .ref (an 9)) C hG kX2 4 6 rfl (by decide) rfl q230 rfl dX11_heat_14 ?_
    refine lv_iload_n hx hb dX11_heat_17 rfl (lv_at hl 1 rfl) ?_
    obtain ⟨b2, h⟩ := ck_some h
    refine gL_i (v := (nn 9 x1.toNatClampNeg)) C hG 11 rfl (inb_in b2) rfl dX11_heat_18 ?_
    refine lv_goto (tgt := 23) hx hb dX11_heat_19 (by decide) ?_
    exact hret _ _ _ _ _ h rfl hG dX11_heat_23
set_option maxHeartbeats 4000000 in
set_option maxRecDepth 100000 in
theorem c_X11_of (l : Launch) (E : GE) (ax an asx ay ap ar ai : Nat → Nat) (ah aj : Nat → Nat → Nat) (tf : Nat → Option Nat) (N : Nat) (x1 : Int32) (x2 : Int32) (xx : RS) (nn : RS) {res : Int32} (h : fX11_of N x1 x2 xx nn = some res) : gMi l E yX11_of cX11_of 3 .int 2 0 0 [.ref (ax 0), .int x1, .int x2] (rX E ax an asx ay ap ar ai ah aj tf xx ++ (rW E an nn ++ [])) (rX E ax an asx ay ap ar ai ah aj tf xx ++ (rW E an nn ++ [])) res := by
  refine gMi_of (own := RX11) (by decide +kernel) rfl (Nat.le_of_ble_eq_true rfl) ?_
  intro p e s m args below meth c A ls Q H locs C hz hl hG hret
  have hx := C.1.1
  have hb := C.1.2.1
  have hts := C.1.2.2.2.2
  have hown := C.1.2.2.2.1
  have hl : lv_has ls 3 [(0, .ref (ax 0)), (1, .int x1), (2, .int x2)] := hl
  replace hret : ∀ (r0 : Int32) (H : Heap) (locs : List Loc) (pc : Nat) (ls' : Array Slot), some r0 = some res → narrow .int (.int r0) = .int r0 → gG E A s.heap (rX E ax an asx ay ap ar ai ah aj tf xx ++ (rW E an nn ++ [])) H locs → decode cX11_of pc = .ok (.ireturn, 1) → W p l e (rmD 2 0 0) s m args below meth c H locs 0 0 Q (F0 m pc ls' [.int r0]) := by
    intro r0 H locs pc ls' e0 hn; cases e0; exact hret H locs pc ls' hn
  rw [fX11_of] at h
  refine lv_iload_n hx hb dX11_of_0 rfl (lv_at hl 1 rfl) ?_
  refine gF_i (ws' := (rX E ax an asx ay ap ar ai ah aj tf xx ++ (rW E an nn ++ []))) C hG pst pst.symm (gR_S (As := [.int x1]) (rest := []) C hz hl.1 hG pst (c_X11_isExtent l E x1 rfl H.size) okX11_isExtent q764 rfl (Nat.le_of_ble_eq_true rfl) (by omega) ⟨Nat.le_refl _, Nat.le_refl _⟩ dX11_of_1) (fun H locs z1 hG => ?_)
  refine lv_if_eq (tgt := 22) hx hb dX11_of_4 (by decide) (fun c4 => ?_) (fun c4 => ?_)
  · replace h := it c4 h
    refine lv_iconst (v := (-1)) hx hb dX11_of_22 (by decide) ?_
    exact hret _ _ _ _ _ h rfl hG dX11_of_23
  · replace h := ie c4 h
    refine lv_aload_n hx hb dX11_of_7 rfl (lv_at hl 0 rfl) ?_
    refine gL_f (v := .ref (an 0)) C hG kX11 0 0 rfl (by decide) rfl q539 rfl dX11_of_8 ?_
    refine gL_fN (v := .ref (an 2)) C hG kX10 2 1 rfl (by decide) rfl q357 rfl dX11_of_11 ?_
    refine lv_iload_n hx hb dX11_of_14 rfl (lv_at hl 1 rfl) ?_
    refine lv_iload_n hx hb dX11_of_15 rfl (lv_at hl 2 rfl) ?_
    obtain ⟨r2, hcr2, h⟩ := bnd_some h
    refine gF_i (ws' := (rX E ax an asx ay ap ar ai ah aj tf xx ++ (rW E an nn ++ []))) C hG (pout (pin pnil)) (List.Perm.symm (pout (pin pnil))) (gR_N (As := [.int x1, .int x2]) (rest := []) C hz hl.1 hG (pout (pin pnil)) (c_X2_detail l E an N x1 x2 nn hcr2 H.size) okX2_detail q1161 2 rfl rfl rfl (Nat.le_of_ble_eq_true rfl) (by omega) ⟨Nat.le_refl _, Nat.le_refl _⟩ dX11_of_16) (fun H locs _ hG => ?_)
    refine lv_goto (tgt := 23) hx hb dX11_of_19 (by decide) ?_
    exact hret _ _ _ _ _ h rfl hG dX11_of_23
set_option maxHeartbeats 4000000 in
set_option maxRecDepth 100000 in
theorem c_X11_head (l : Launch) (E : GE) (ax an asx ay ap ar ai : Nat → Nat) (ah aj : Nat → Nat → Nat) (tf : Nat → Option Nat) (N : Nat) (x1 : Int32) (x2 : Int32) (xx : RS) (nn : RS) {res : Int32} (h : fX11_head N x1 x2 xx nn = some res) : gMi l E yX11_head cX11_head 3 .int 2 0 0 [.ref (ax 0), .int x1, .int x2] (rX E ax an asx ay ap ar ai ah aj tf xx ++ (rW E an nn ++ [])) (rX E ax an asx ay ap ar ai ah aj tf xx ++ (rW E an nn ++ [])) res := by
  refine gMi_of (own := RX11) (by decide +kernel) rfl (Nat.le_of_ble_eq_true rfl) ?_
  intro p e s m args below meth c A ls Q H locs C hz hl hG hret
  have hx := C.1.1
  have hb := C.1.2.1
  have hts := C.1.2.2.2.2
  have hown := C.1.2.2.2.1
  have hl : lv_has ls 3 [(0, .ref (ax 0)), (1, .int x1), (2, .int x2)] := hl
  replace hret : ∀ (r0 : Int32) (H : Heap) (locs : List Loc) (pc : Nat) (ls' : Array Slot), some r0 = some res → narrow .int (.int r0) = .int r0 → gG E A s.heap (rX E ax an asx ay ap ar ai ah aj tf xx ++ (rW E an nn ++ [])) H locs → decode cX11_head pc = .ok (.ireturn, 1) → W p l e (rmD 2 0 0) s m args below meth c H locs 0 0 Q (F0 m pc ls' [.int r0]) := by
    intro r0 H locs pc ls' e0 hn; cases e0; exact hret H locs pc ls' hn
  rw [fX11_head] at h
  refine lv_aload_n hx hb dX11_head_0 rfl (lv_at hl 0 rfl) ?_
  refine gL_f (v := .ref (an 0)) C hG kX11 0 0 rfl (by decide) rfl q539 rfl dX11_head_1 ?_
  refine gL_fN (v := .ref (an 20)) C hG kX10 2 3 rfl (by decide) rfl q361 rfl dX11_head_4 ?_
  refine lv_iload_n hx hb dX11_head_7 rfl (lv_at hl 1 rfl) ?_
  refine lv_iload_n hx hb dX11_head_8 rfl (lv_at hl 2 rfl) ?_
  obtain ⟨r1, hcr1, h⟩ := bnd_some h
  refine gF_i (ws' := (rX E ax an asx ay ap ar ai ah aj tf xx ++ (rW E an nn ++ []))) C hG (pout (pin pnil)) (List.Perm.symm (pout (pin pnil))) (gR_N (As := [.int x1, .int x2]) (rest := []) C hz hl.1 hG (pout (pin pnil)) (c_X3_detail l E an N x1 x2 nn hcr1 H.size) okX3_detail q1169 20 rfl rfl rfl (Nat.le_of_ble_eq_true rfl) (by omega) ⟨Nat.le_refl _, Nat.le_refl _⟩ dX11_head_9) (fun H locs _ hG => ?_)
  exact hret _ _ _ _ _ h rfl hG dX11_head_12
set_option maxHeartbeats 4000000 in
set_option maxRecDepth 100000 in
theorem c_X11_move (l : Launch) (E : GE) (ax an asx ay ap ar ai : Nat → Nat) (ah aj : Nat → Nat → Nat) (tf : Nat → Option Nat) (N : Nat) (x1 : Int32) (x2 : Int32) (xx : RS) (nn : RS) {res : Int32} (h : fX11_move N x1 x2 xx nn = some res) : gMi l E yX11_move cX11_move 4 .int 3 0 0 [.ref (ax 0), .int x1, .int x2] (rX E ax an asx ay ap ar ai ah aj tf xx ++ (rW E an nn ++ [])) (rX E ax an asx ay ap ar ai ah aj tf xx ++ (rW E an nn ++ [])) res := by
  refine gMi_of (own := RX11) (by decide +kernel) rfl (Nat.le_of_ble_eq_true rfl) ?_
  intro p e s m args below meth c A ls Q H locs C hz hl hG hret
  have hx := C.1.1
  have hb := C.1.2.1
  have hts := C.1.2.2.2.2
  have hown := C.1.2.2.2.1
  have hl : lv_has ls 4 [(0, .ref (ax 0)), (1, .int x1), (2, .int x2)] := hl
  replace hret : ∀ (r0 : Int32) (H : Heap) (locs : List Loc) (pc : Nat) (ls' : Array Slot), some r0 = some res → narrow .int (.int r0) = .int r0 → gG E A s.heap (rX E ax an asx ay ap ar ai ah aj tf xx ++ (rW E an nn ++ [])) H locs → decode cX11_move pc = .ok (.ireturn, 1) → W p l e (rmD 3 0 0) s m args below meth c H locs 0 0 Q (F0 m pc ls' [.int r0]) := by
    intro r0 H locs pc ls' e0 hn; cases e0; exact hret H locs pc ls' hn
  rw [fX11_move] at h
  refine lv_aload_n hx hb dX11_move_0 rfl (lv_at hl 0 rfl) ?_
  refine gL_f (v := .ref (an 0)) C hG kX11 0 0 rfl (by decide) rfl q539 rfl dX11_move_1 ?_
  refine gL_fN (v := .ref (an 23)) C hG kX10 2 4 rfl (by decide) rfl q364 rfl dX11_move_4 ?_
  refine lv_astore_n (lv' := [(3, .ref (an 23)), (0, .ref (ax 0)), (1, .int x1), (2, .int x2)]) hx hb dX11_move_7 rfl hl (by decide) rfl (fun ls hl => ?_)
  refine lv_iload_n hx hb dX11_move_8 rfl (lv_at hl 2 rfl) ?_
  refine lv_iconst (v := (-1)) hx hb dX11_move_9 (by decide) ?_
  refine lv_icmp_ne (tgt := 18) hx hb dX11_move_10 (by decide) (fun c10 => ?_) (fun c10 => ?_)
  · replace h := ie c10 h
    refine lv_iload_n hx hb dX11_move_18 rfl (lv_at hl 2 rfl) ?_
    refine lv_if_lt (tgt := 30) hx hb dX11_move_19 (by decide) (fun c19 => ?_) (fun c19 => ?_)
    · replace h := it c19 h
      refine lv_bipush (v := (-2)) hx hb dX11_move_30 (by decide) ?_
      exact hret _ _ _ _ _ h rfl hG dX11_move_32
    · replace h := ie c19 h
      refine lv_iload_n hx hb dX11_move_22 rfl (lv_at hl 2 rfl) ?_
      refine lv_aload_n hx hb dX11_move_23 rfl (lv_at hl 0 rfl) ?_
      refine gL_fN (v := .int (nn 23 0)) C hG kX5 25 0 rfl (by decide) rfl q316 rfl dX11_move_24 ?_
      refine lv_icmp_lt (tgt := 33) hx hb dX11_move_27 (by decide) (fun c27 => ?_) (fun c27 => ?_)
      · replace h := it c27 h
        refine lv_iload_n hx hb dX11_move_33 rfl (lv_at hl 3 rfl) ?_
        refine lv_iconst (v := 3) hx hb dX11_move_34 (by decide) ?_
        refine lv_icmp_ne (tgt := 49) hx hb dX11_move_35 (by decide) (fun c35 => ?_) (fun c35 => ?_)
        · replace h := ie c35 h
          refine lv_aload_n hx hb dX11_move_49 rfl (lv_at hl 0 rfl) ?_
          refine lv_iload_n hx hb dX11_move_50 rfl (lv_at hl 2 rfl) ?_
          refine lv_iload_n hx hb dX11_move_51 rfl (lv_at hl 3 rfl) ?_
          obtain ⟨r1, hcr1, h⟩ := bnd_some h
          refine gF_i (ws' := (rX E ax an asx ay ap ar ai ah aj tf xx ++ (rW E an nn ++ []))) C hG (pout (pin pnil)) (List.Perm.symm (pout (pin pnil))) (gR_N (As := [.int x1, .int x2]) (rest := []) C hz hl.1 hG (pout (pin pnil)) (c_X5_detail l E an N x1 x2 nn hcr1 H.size) okX5_detail q1178 23 rfl rfl rfl (Nat.le_of_ble_eq_true rfl) (by omega) ⟨Nat.le_refl _, Nat.le_refl _⟩ dX11_move_52) (fun H locs _ hG => ?_)
          exact hret _ _ _ _ _ h rfl hG dX11_move_55
        · replace h := it c35 h
          refine lv_aload_n hx hb dX11_move_38 rfl (lv_at hl 1 rfl) ?_
          refine gL_f (v := .ref (an 0)) C hG kX11 0 0 rfl (by decide) rfl q539 rfl dX11_move_39 ?_
          refine lv_iload_n hx hb dX11_move_42 rfl (lv_at hl 2 rfl) ?_
          obtain ⟨r2, hcr2, h⟩ := bnd_some h
          refine gF_i (ws' := (rX E ax an asx ay ap ar ai ah aj tf xx ++ (rW E an nn ++ []))) C hG (pout (pin pnil)) (List.Perm.symm (pout (pin pnil))) (gR_N (As := [.int x1]) (rest := []) C hz hl.1 hG (pout (pin pnil)) (c_X10_blocksToCopy l E an N x1 nn hcr2 H.size) okX10_blocksToCopy q1177 0 rfl rfl rfl (Nat.le_of_ble_eq_true rfl) (by omega) ⟨Nat.le_refl _, Nat.le_refl _⟩ dX11_move_43) (fun H locs _ hG => ?_)
          refine lv_goto (tgt := 55) hx hb dX11_move_46 (by decide) ?_
          exact hret _ _ _ _ _ h rfl hG dX11_move_55
      · replace h := ie c27 h
        refine lv_bipush (v := (-2)) hx hb dX11_move_30 (by decide) ?_
        exact hret _ _ _ _ _ h rfl hG dX11_move_32
  · replace h := it c10 h
    refine lv_aload_n hx hb dX11_move_13 rfl (lv_at hl 0 rfl) ?_
    refine gL_fN (v := .int (nn 23 0)) C hG kX5 25 0 rfl (by decide) rfl q316 rfl dX11_move_14 ?_
    exact hret _ _ _ _ _ h rfl hG dX11_move_17
set_option maxHeartbeats 4000000 in
set_option maxRecDepth 100000 in
theorem c_X11_moveOf (l : Launch) (E : GE) (ax an asx ay ap ar ai : Nat → Nat) (ah aj : Nat → Nat → Nat) (tf : Nat → Option Nat) (N : Nat) (x1 : Int32) (xx : RS) (nn : RS) {res : Int32} (h : fX11_moveOf N x1 xx nn = some res) : gMi l E yX11_moveOf cX11_moveOf 2 .int 2 0 0 [.ref (ax 0), .int x1] (rX E ax an asx ay ap ar ai ah aj tf xx ++ (rW E an nn ++ [])) (rX E ax an asx ay ap ar ai ah aj tf xx ++ (rW E an nn ++ [])) res := by
  refine gMi_of (own := RX11) (by decide +kernel) rfl (Nat.le_of_ble_eq_true rfl) ?_
  intro p e s m args below meth c A ls Q H locs C hz hl hG hret
  have hx := C.1.1
  have hb := C.1.2.1
  have hts := C.1.2.2.2.2
  have hown := C.1.2.2.2.1
  have hl : lv_has ls 2 [(0, .ref (ax 0)), (1, .int x1)] := hl
  replace hret : ∀ (r0 : Int32) (H : Heap) (locs : List Loc) (pc : Nat) (ls' : Array Slot), some r0 = some res → narrow .int (.int r0) = .int r0 → gG E A s.heap (rX E ax an asx ay ap ar ai ah aj tf xx ++ (rW E an nn ++ [])) H locs → decode cX11_moveOf pc = .ok (.ireturn, 1) → W p l e (rmD 2 0 0) s m args below meth c H locs 0 0 Q (F0 m pc ls' [.int r0]) := by
    intro r0 H locs pc ls' e0 hn; cases e0; exact hret H locs pc ls' hn
  rw [fX11_moveOf] at h
  refine lv_aload_n hx hb dX11_moveOf_0 rfl (lv_at hl 0 rfl) ?_
  refine gL_f (v := .ref (an 0)) C hG kX11 0 0 rfl (by decide) rfl q539 rfl dX11_moveOf_1 ?_
  refine gL_fN (v := .ref (an 23)) C hG kX10 2 4 rfl (by decide) rfl q364 rfl dX11_moveOf_4 ?_
  refine lv_iload_n hx hb dX11_moveOf_7 rfl (lv_at hl 1 rfl) ?_
  obtain ⟨r1, hcr1, h⟩ := bnd_some h
  refine gF_i (ws' := (rX E ax an asx ay ap ar ai ah aj tf xx ++ (rW E an nn ++ []))) C hG (pout (pin pnil)) (List.Perm.symm (pout (pin pnil))) (gR_N (As := [.int x1]) (rest := []) C hz hl.1 hG (pout (pin pnil)) (c_X5_find l E an N x1 nn hcr1 H.size) okX5_find q875 23 rfl rfl rfl (Nat.le_of_ble_eq_true rfl) (by omega) ⟨Nat.le_refl _, Nat.le_refl _⟩ dX11_moveOf_8) (fun H locs _ hG => ?_)
  exact hret _ _ _ _ _ h rfl hG dX11_moveOf_11
set_option maxHeartbeats 4000000 in
set_option maxRecDepth 100000 in
theorem c_X11_plan (l : Launch) (E : GE) (ax an asx ay ap ar ai : Nat → Nat) (ah aj : Nat → Nat → Nat) (tf : Nat → Option Nat) (N : Nat) (xx : RS) (nn : RS) (pp : RS) {res : Int32 × RS} (h : fX11_plan N xx nn pp = some res) : gMi l E yX11_plan cX11_plan 1 .int 15 0 0 [.ref (ax 0)] (rX E ax an asx ay ap ar ai ah aj tf xx ++ (rW E an nn ++ (rP E ap pp ++ []))) (rX E ax an asx ay ap ar ai ah aj tf xx ++ (rW E an nn ++ (rP E ap res.2 ++ []))) res.1 := by
  refine gMi_of (own := RX11) (by decide +kernel) rfl (Nat.le_of_ble_eq_true rfl) ?_
  intro p e s m args below meth c A ls Q H locs C hz hl hG hret
  have hx := C.1.1
  have hb := C.1.2.1
  have hts := C.1.2.2.2.2
  have hown := C.1.2.2.2.1
  have hl : lv_has ls 1 [(0, .ref (ax 0))] := hl
  replace hret : ∀ (r0 : Int32) (pp0 : RS) (H : Heap) (locs : List Loc) (pc : Nat) (ls' : Array Slot), some (r0, pp0) = some res → narrow .int (.int r0) = .int r0 → gG E A s.heap (rX E ax an asx ay ap ar ai ah aj tf xx ++ (rW E an nn ++ (rP E ap pp0 ++ []))) H locs → decode cX11_plan pc = .ok (.ireturn, 1) → W p l e (rmD 15 0 0) s m args below meth c H locs 0 0 Q (F0 m pc ls' [.int r0]) := by
    intro r0 pp0 H locs pc ls' e0 hn; cases e0; exact hret H locs pc ls' hn
  rw [fX11_plan] at h
  refine lv_aload_n hx hb dX11_plan_0 rfl (lv_at hl 0 rfl) ?_
  refine gL_f (v := .ref (ap 0)) C hG kX11 0 3 rfl (by decide) rfl q542 rfl dX11_plan_1 ?_
  refine lv_aload_n hx hb dX11_plan_4 rfl (lv_at hl 0 rfl) ?_
  refine gL_f (v := .ref (an 0)) C hG kX11 0 0 rfl (by decide) rfl q539 rfl dX11_plan_5 ?_
  refine lv_aload_n hx hb dX11_plan_8 rfl (lv_at hl 0 rfl) ?_
  refine gL_f (v := .ref (an 0)) C hG kX11 0 0 rfl (by decide) rfl q539 rfl dX11_plan_9 ?_
  refine gL_fN (v := .ref (an 1)) C hG kX10 2 0 rfl (by decide) rfl q354 rfl dX11_plan_12 ?_
  refine lv_iconst (v := 5) hx hb dX11_plan_15 (by decide) ?_
  refine gL_i (v := (nn 1 5)) C hG 3 rfl (vp_in_nI (n := 5) (by decide) (by decide)) (congrArg (nn 1) (nI_clamp (n := 5) (by decide))) dX11_plan_16 ?_
  obtain ⟨r1, hcr1, h⟩ := bnd_some h
  refine gF_v (ws' := (rX E ax an asx ay ap ar ai ah aj tf xx ++ (rW E an nn ++ (rP E ap r1 ++ [])))) C hG (pout (pin (pin pnil))) (List.Perm.symm (pout (pin (pin pnil)))) (gR_N (As := [.ref (an 0), .int (nn 1 5)]) (rest := []) C hz hl.1 hG (pout (pin (pin pnil))) (c_X6_makeFor l E an ap N (nn 1 5) nn pp hcr1 H.size) okX6_makeFor q1190 30 rfl rfl rfl (Nat.le_of_ble_eq_true rfl) (by omega) ⟨Nat.le_refl _, Nat.le_refl _⟩ dX11_plan_17) (fun H locs hG => ?_)
  refine lv_aload_n hx hb dX11_plan_20 rfl (lv_at hl 0 rfl) ?_
  refine gL_f (v := .ref (ap 0)) C hG kX11 0 3 rfl (by decide) rfl q542 rfl dX11_plan_21 ?_
  refine gL_fN (v := .int (r1 0 9)) C hG kX6 32 9 rfl (by decide) rfl q417 rfl dX11_plan_24 ?_
  exact hret _ _ _ _ _ _ h rfl hG dX11_plan_27
set_option maxHeartbeats 4000000 in
set_option maxRecDepth 100000 in
theorem c_X11_worth (l : Launch) (E : GE) (ax an asx ay ap ar ai : Nat → Nat) (ah aj : Nat → Nat → Nat) (tf : Nat → Option Nat) (N : Nat) (x1 : Int32) (xx : RS) (nn : RS) (pp : RS) {res : Int32 × RS} (h : fX11_worth N x1 xx nn pp = some res) : gMi l E yX11_worth cX11_worth 2 .int 15 0 0 [.ref (ax 0), .int x1] (rX E ax an asx ay ap ar ai ah aj tf xx ++ (rW E an nn ++ (rP E ap pp ++ []))) (rX E ax an asx ay ap ar ai ah aj tf xx ++ (rW E an nn ++ (rP E ap res.2 ++ []))) res.1 := by
  refine gMi_of (own := RX11) (by decide +kernel) rfl (Nat.le_of_ble_eq_true rfl) ?_
  intro p e s m args below meth c A ls Q H locs C hz hl hG hret
  have hx := C.1.1
  have hb := C.1.2.1
  have hts := C.1.2.2.2.2
  have hown := C.1.2.2.2.1
  have hl : lv_has ls 2 [(0, .ref (ax 0)), (1, .int x1)] := hl
  replace hret : ∀ (r0 : Int32) (pp0 : RS) (H : Heap) (locs : List Loc) (pc : Nat) (ls' : Array Slot), some (r0, pp0) = some res → narrow .int (.int r0) = .int r0 → gG E A s.heap (rX E ax an asx ay ap ar ai ah aj tf xx ++ (rW E an nn ++ (rP E ap pp0 ++ []))) H locs → decode cX11_worth pc = .ok (.ireturn, 1) → W p l e (rmD 15 0 0) s m args below meth c H locs 0 0 Q (F0 m pc ls' [.int r0]) := by
    intro r0 pp0 H locs pc ls' e0 hn; cases e0; exact hret H locs pc ls' hn
  rw [fX11_worth] at h
  refine lv_iload_n hx hb dX11_worth_0 rfl (lv_at hl 1 rfl) ?_
  refine lv_if_lt (tgt := 10) hx hb dX11_worth_1 (by decide) (fun c1 => ?_) (fun c1 => ?_)
  · replace h := it c1 h
    refine lv_ldc (v := (-2147483648)) hx hb hown (hts _ q1195) dX11_worth_10 ?_
    exact hret _ _ _ _ _ _ h rfl hG dX11_worth_12
  · replace h := ie c1 h
    refine lv_iload_n hx hb dX11_worth_4 rfl (lv_at hl 1 rfl) ?_
    refine lv_bipush (v := 12) hx hb dX11_worth_5 (by decide) ?_
    refine lv_icmp_le (tgt := 13) hx hb dX11_worth_7 (by decide) (fun c7 => ?_) (fun c7 => ?_)
    · replace h := it c7 h
      refine lv_aload_n hx hb dX11_worth_13 rfl (lv_at hl 0 rfl) ?_
      refine gL_f (v := .ref (ap 0)) C hG kX11 0 3 rfl (by decide) rfl q542 rfl dX11_worth_14 ?_
      refine lv_aload_n hx hb dX11_worth_17 rfl (lv_at hl 0 rfl) ?_
      refine gL_f (v := .ref (an 0)) C hG kX11 0 0 rfl (by decide) rfl q539 rfl dX11_worth_18 ?_
      refine lv_iload_n hx hb dX11_worth_21 rfl (lv_at hl 1 rfl) ?_
      obtain ⟨r1, hcr1, h⟩ := bnd_some h
      refine gF_v (ws' := (rX E ax an asx ay ap ar ai ah aj tf xx ++ (rW E an nn ++ (rP E ap r1 ++ [])))) C hG (pout (pin (pin pnil))) (List.Perm.symm (pout (pin (pin pnil)))) (gR_N (As := [.ref (an 0), .int x1]) (rest := []) C hz hl.1 hG (pout (pin (pin pnil))) (c_X6_makeFor l E an ap N x1 nn pp hcr1 H.size) okX6_makeFor q1190 30 rfl rfl rfl (Nat.le_of_ble_eq_true rfl) (by omega) ⟨Nat.le_refl _, Nat.le_refl _⟩ dX11_worth_22) (fun H locs hG => ?_)
      refine lv_aload_n hx hb dX11_worth_25 rfl (lv_at hl 0 rfl) ?_
      refine gL_f (v := .ref (ap 0)) C hG kX11 0 3 rfl (by decide) rfl q542 rfl dX11_worth_26 ?_
      refine gL_fN (v := .int (r1 0 10)) C hG kX6 32 10 rfl (by decide) rfl q419 rfl dX11_worth_29 ?_
      exact hret _ _ _ _ _ _ h rfl hG dX11_worth_32
    · replace h := ie c7 h
      refine lv_ldc (v := (-2147483648)) hx hb hown (hts _ q1195) dX11_worth_10 ?_
      exact hret _ _ _ _ _ _ h rfl hG dX11_worth_12
set_option maxHeartbeats 4000000 in
set_option maxRecDepth 100000 in
theorem c_X11_value (l : Launch) (E : GE) (ax an asx ay ap ar ai : Nat → Nat) (ah aj : Nat → Nat → Nat) (tf : Nat → Option Nat) (N : Nat) (x1 : Int32) (xx : RS) (nn : RS) (pp : RS) {res : Int32 × RS} (h : fX11_value N x1 xx nn pp = some res) : gMi l E yX11_value cX11_value 2 .int 4 0 0 [.ref (ax 0), .int x1] (rX E ax an asx ay ap ar ai ah aj tf xx ++ (rW E an nn ++ (rP E ap pp ++ []))) (rX E ax an asx ay ap ar ai ah aj tf xx ++ (rW E an nn ++ (rP E ap res.2 ++ []))) res.1 := by
  refine gMi_of (own := RX11) (by decide +kernel) rfl (Nat.le_of_ble_eq_true rfl) ?_
  intro p e s m args below meth c A ls Q H locs C hz hl hG hret
  have hx := C.1.1
  have hb := C.1.2.1
  have hts := C.1.2.2.2.2
  have hown := C.1.2.2.2.1
  have hl : lv_has ls 2 [(0, .ref (ax 0)), (1, .int x1)] := hl
  replace hret : ∀ (r0 : Int32) (pp0 : RS) (H : Heap) (locs : List Loc) (pc : Nat) (ls' : Array Slot), some (r0, pp0) = some res → narrow .int (.int r0) = .int r0 → gG E A s.heap (rX E ax an asx ay ap ar ai ah aj tf xx ++ (rW E an nn ++ (rP E ap pp0 ++ []))) H locs → decode cX11_value pc = .ok (.ireturn, 1) → W p l e (rmD 4 0 0) s m args below meth c H locs 0 0 Q (F0 m pc ls' [.int r0]) := by
    intro r0 pp0 H locs pc ls' e0 hn; cases e0; exact hret H locs pc ls' hn
  rw [fX11_value] at h
  refine lv_aload_n hx hb dX11_value_0 rfl (lv_at hl 0 rfl) ?_
  refine gL_f (v := .ref (ap 0)) C hG kX11 0 3 rfl (by decide) rfl q542 rfl dX11_value_1 ?_
  refine lv_aload_n hx hb dX11_value_4 rfl (lv_at hl 0 rfl) ?_
  refine gL_f (v := .ref (an 0)) C hG kX11 0 0 rfl (by decide) rfl q539 rfl dX11_value_5 ?_
  refine lv_aload_n hx hb dX11_value_8 rfl (lv_at hl 0 rfl) ?_
  refine gL_f (v := .ref (an 0)) C hG kX11 0 0 rfl (by decide) rfl q539 rfl dX11_value_9 ?_
  refine gL_fN (v := .ref (an 1)) C hG kX10 2 0 rfl (by decide) rfl q354 rfl dX11_value_12 ?_
  refine lv_iconst (v := 5) hx hb dX11_value_15 (by decide) ?_
  refine gL_i (v := (nn 1 5)) C hG 3 rfl (vp_in_nI (n := 5) (by decide) (by decide)) (congrArg (nn 1) (nI_clamp (n := 5) (by decide))) dX11_value_16 ?_
  obtain ⟨r1, hcr1, h⟩ := bnd_some h
  refine gF_v (ws' := (rX E ax an asx ay ap ar ai ah aj tf xx ++ (rW E an nn ++ (rP E ap r1 ++ [])))) C hG (pout (pin (pin pnil))) (List.Perm.symm (pout (pin (pin pnil)))) (gR_N (As := [.ref (an 0), .int (nn 1 5)]) (rest := []) C hz hl.1 hG (pout (pin (pin pnil))) (c_X6_weigh l E an ap N (nn 1 5) nn pp hcr1 H.size) okX6_weigh q1200 30 rfl rfl rfl (Nat.le_of_ble_eq_true rfl) (by omega) ⟨Nat.le_refl _, Nat.le_refl _⟩ dX11_value_17) (fun H locs hG => ?_)
  refine lv_aload_n hx hb dX11_value_20 rfl (lv_at hl 0 rfl) ?_
  refine gL_f (v := .ref (ap 0)) C hG kX11 0 3 rfl (by decide) rfl q542 rfl dX11_value_21 ?_
  refine lv_iload_n hx hb dX11_value_24 rfl (lv_at hl 1 rfl) ?_
  obtain ⟨r2, hcr2, h⟩ := bnd_some h
  refine gF_i (ws' := (rX E ax an asx ay ap ar ai ah aj tf xx ++ (rW E an nn ++ (rP E ap r1 ++ [])))) C hG (pout (pout (pin pnil))) (List.Perm.symm (pout (pout (pin pnil)))) (gR_N (As := [.int x1]) (rest := []) C hz hl.1 hG (pout (pout (pin pnil))) (c_X6_allows l E ap N x1 r1 hcr2 H.size) okX6_allows q1201 0 rfl rfl rfl (Nat.le_of_ble_eq_true rfl) (by omega) ⟨Nat.le_refl _, Nat.le_refl _⟩ dX11_value_25) (fun H locs z3 hG => ?_)
  refine lv_if_eq (tgt := 42) hx hb dX11_value_28 (by decide) (fun c28 => ?_) (fun c28 => ?_)
  · replace h := it c28 h
    refine lv_ldc (v := (-2147483648)) hx hb hown (hts _ q1195) dX11_value_42 ?_
    exact hret _ _ _ _ _ _ h rfl hG dX11_value_44
  · replace h := ie c28 h
    refine lv_aload_n hx hb dX11_value_31 rfl (lv_at hl 0 rfl) ?_
    refine gL_f (v := .ref (ap 0)) C hG kX11 0 3 rfl (by decide) rfl q542 rfl dX11_value_32 ?_
    refine lv_iload_n hx hb dX11_value_35 rfl (lv_at hl 1 rfl) ?_
    obtain ⟨r4, hcr4, h⟩ := bnd_some h
    refine gF_i (ws' := (rX E ax an asx ay ap ar ai ah aj tf xx ++ (rW E an nn ++ (rP E ap r1 ++ [])))) C hG (pout (pout (pin pnil))) (List.Perm.symm (pout (pout (pin pnil)))) (gR_N (As := [.int x1]) (rest := []) C hz hl.1 hG (pout (pout (pin pnil))) (c_X6_worthOf l E ap N x1 r1 hcr4 H.size) okX6_worthOf q1209 0 rfl rfl rfl (Nat.le_of_ble_eq_true rfl) (by omega) ⟨Nat.le_refl _, Nat.le_refl _⟩ dX11_value_36) (fun H locs _ hG => ?_)
    refine lv_goto (tgt := 44) hx hb dX11_value_39 (by decide) ?_
    exact hret _ _ _ _ _ _ h rfl hG dX11_value_44
set_option maxHeartbeats 4000000 in
set_option maxRecDepth 100000 in
theorem c_X11_needs (l : Launch) (E : GE) (ax an asx ay ap ar ai : Nat → Nat) (ah aj : Nat → Nat → Nat) (tf : Nat → Option Nat) (N : Nat) (x1 : Int32) (xx : RS) (nn : RS) (pp : RS) {res : Int32 × RS} (h : fX11_needs N x1 xx nn pp = some res) : gMi l E yX11_needs cX11_needs 2 .int 4 0 0 [.ref (ax 0), .int x1] (rX E ax an asx ay ap ar ai ah aj tf xx ++ (rW E an nn ++ (rP E ap pp ++ []))) (rX E ax an asx ay ap ar ai ah aj tf xx ++ (rW E an nn ++ (rP E ap res.2 ++ []))) res.1 := by
  refine gMi_of (own := RX11) (by decide +kernel) rfl (Nat.le_of_ble_eq_true rfl) ?_
  intro p e s m args below meth c A ls Q H locs C hz hl hG hret
  have hx := C.1.1
  have hb := C.1.2.1
  have hts := C.1.2.2.2.2
  have hown := C.1.2.2.2.1
  have hl : lv_has ls 2 [(0, .ref (ax 0)), (1, .int x1)] := hl
  replace hret : ∀ (r0 : Int32) (pp0 : RS) (H : Heap) (locs : List Loc) (pc : Nat) (ls' : Array Slot), some (r0, pp0) = some res → narrow .int (.int r0) = .int r0 → gG E A s.heap (rX E ax an asx ay ap ar ai ah aj tf xx ++ (rW E an nn ++ (rP E ap pp0 ++ []))) H locs → decode cX11_needs pc = .ok (.ireturn, 1) → W p l e (rmD 4 0 0) s m args below meth c H locs 0 0 Q (F0 m pc ls' [.int r0]) := by
    intro r0 pp0 H locs pc ls' e0 hn; cases e0; exact hret H locs pc ls' hn
  rw [fX11_needs] at h
  refine lv_aload_n hx hb dX11_needs_0 rfl (lv_at hl 0 rfl) ?_
  refine gL_f (v := .ref (ap 0)) C hG kX11 0 3 rfl (by decide) rfl q542 rfl dX11_needs_1 ?_
  refine lv_aload_n hx hb dX11_needs_4 rfl (lv_at hl 0 rfl) ?_
  refine gL_f (v := .ref (an 0)) C hG kX11 0 0 rfl (by decide) rfl q539 rfl dX11_needs_5 ?_
  refine lv_aload_n hx hb dX11_needs_8 rfl (lv_at hl 0 rfl) ?_
  refine gL_f (v := .ref (an 0)) C hG kX11 0 0 rfl (by decide) rfl q539 rfl dX11_needs_9 ?_
  refine gL_fN (v := .ref (an 1)) C hG kX10 2 0 rfl (by decide) rfl q354 rfl dX11_needs_12 ?_
  refine lv_iconst (v := 5) hx hb dX11_needs_15 (by decide) ?_
  refine gL_i (v := (nn 1 5)) C hG 3 rfl (vp_in_nI (n := 5) (by decide) (by decide)) (congrArg (nn 1) (nI_clamp (n := 5) (by decide))) dX11_needs_16 ?_
  obtain ⟨r1, hcr1, h⟩ := bnd_some h
  refine gF_v (ws' := (rX E ax an asx ay ap ar ai ah aj tf xx ++ (rW E an nn ++ (rP E ap r1 ++ [])))) C hG (pout (pin (pin pnil))) (List.Perm.symm (pout (pin (pin pnil)))) (gR_N (As := [.ref (an 0), .int (nn 1 5)]) (rest := []) C hz hl.1 hG (pout (pin (pin pnil))) (c_X6_weigh l E an ap N (nn 1 5) nn pp hcr1 H.size) okX6_weigh q1200 30 rfl rfl rfl (Nat.le_of_ble_eq_true rfl) (by omega) ⟨Nat.le_refl _, Nat.le_refl _⟩ dX11_needs_17) (fun H locs hG => ?_)
  refine lv_aload_n hx hb dX11_needs_20 rfl (lv_at hl 0 rfl) ?_
  refine gL_f (v := .ref (ap 0)) C hG kX11 0 3 rfl (by decide) rfl q542 rfl dX11_needs_21 ?_
  refine lv_iload_n hx hb dX11_needs_24 rfl (lv_at hl 1 rfl) ?_
  obtain ⟨r2, hcr2, h⟩ := bnd_some h
  refine gF_i (ws' := (rX E ax an asx ay ap ar ai ah aj tf xx ++ (rW E an nn ++ (rP E ap r1 ++ [])))) C hG (pout (pout (pin pnil))) (List.Perm.symm (pout (pout (pin pnil)))) (gR_N (As := [.int x1]) (rest := []) C hz hl.1 hG (pout (pout (pin pnil))) (c_X6_allows l E ap N x1 r1 hcr2 H.size) okX6_allows q1201 0 rfl rfl rfl (Nat.le_of_ble_eq_true rfl) (by omega) ⟨Nat.le_refl _, Nat.le_refl _⟩ dX11_needs_25) (fun H locs z3 hG => ?_)
  refine lv_if_eq (tgt := 42) hx hb dX11_needs_28 (by decide) (fun c28 => ?_) (fun c28 => ?_)
  · replace h := it c28 h
    refine lv_iconst (v := (-1)) hx hb dX11_needs_42 (by decide) ?_
    exact hret _ _ _ _ _ _ h rfl hG dX11_needs_43
  · replace h := ie c28 h
    refine lv_aload_n hx hb dX11_needs_31 rfl (lv_at hl 0 rfl) ?_
    refine gL_f (v := .ref (ap 0)) C hG kX11 0 3 rfl (by decide) rfl q542 rfl dX11_needs_32 ?_
    refine lv_iload_n hx hb dX11_needs_35 rfl (lv_at hl 1 rfl) ?_
    obtain ⟨r4, hcr4, h⟩ := bnd_some h
    refine gF_i (ws' := (rX E ax an asx ay ap ar ai ah aj tf xx ++ (rW E an nn ++ (rP E ap r1 ++ [])))) C hG (pout (pout (pin pnil))) (List.Perm.symm (pout (pout (pin pnil)))) (gR_N (As := [.int x1]) (rest := []) C hz hl.1 hG (pout (pout (pin pnil))) (c_X6_needOf l E ap N x1 r1 hcr4 H.size) okX6_needOf q1217 0 rfl rfl rfl (Nat.le_of_ble_eq_true rfl) (by omega) ⟨Nat.le_refl _, Nat.le_refl _⟩ dX11_needs_36) (fun H locs _ hG => ?_)
    refine lv_goto (tgt := 43) hx hb dX11_needs_39 (by decide) ?_
    exact hret _ _ _ _ _ _ h rfl hG dX11_needs_43
set_option maxHeartbeats 4000000 in
set_option maxRecDepth 100000 in
theorem c_X11_threshold (l : Launch) (E : GE) (ax an asx ay ap ar ai : Nat → Nat) (ah aj : Nat → Nat → Nat) (tf : Nat → Option Nat) (N : Nat) (x1 : Int32) (xx : RS) (nn : RS) (pp : RS) {res : Int32 × RS} (h : fX11_threshold N x1 xx nn pp = some res) : gMi l E yX11_threshold cX11_threshold 2 .int 15 0 0 [.ref (ax 0), .int x1] (rX E ax an asx ay ap ar ai ah aj tf xx ++ (rW E an nn ++ (rP E ap pp ++ []))) (rX E ax an asx ay ap ar ai ah aj tf xx ++ (rW E an nn ++ (rP E ap res.2 ++ []))) res.1 := by
  refine gMi_of (own := RX11) (by decide +kernel) rfl (Nat.le_of_ble_eq_true rfl) ?_
  intro p e s m args below meth c A ls Q H locs C hz hl hG hret
  have hx := C.1.1
  have hb := C.1.2.1
  have hts := C.1.2.2.2.2
  have hown := C.1.2.2.2.1
  have hl : lv_has ls 2 [(0, .ref (ax 0)), (1, .int x1)] := hl
  replace hret : ∀ (r0 : Int32) (pp0 : RS) (H : Heap) (locs : List Loc) (pc : Nat) (ls' : Array Slot), some (r0, pp0) = some res → narrow .int (.int r0) = .int r0 → gG E A s.heap (rX E ax an asx ay ap ar ai ah aj tf xx ++ (rW E an nn ++ (rP E ap pp0 ++ []))) H locs → decode cX11_threshold pc = .ok (.ireturn, 1) → W p l e (rmD 15 0 0) s m args below meth c H locs 0 0 Q (F0 m pc ls' [.int r0]) := by
    intro r0 pp0 H locs pc ls' e0 hn; cases e0; exact hret H locs pc ls' hn
  rw [fX11_threshold] at h
  refine lv_iload_n hx hb dX11_threshold_0 rfl (lv_at hl 1 rfl) ?_
  refine gF_i (ws' := (rX E ax an asx ay ap ar ai ah aj tf xx ++ (rW E an nn ++ (rP E ap pp ++ [])))) C hG pst pst.symm (gR_S (As := [.int x1]) (rest := []) C hz hl.1 hG pst (c_X11_isExtent l E x1 rfl H.size) okX11_isExtent q764 rfl (Nat.le_of_ble_eq_true rfl) (by omega) ⟨Nat.le_refl _, Nat.le_refl _⟩ dX11_threshold_1) (fun H locs z1 hG => ?_)
  refine lv_if_eq (tgt := 22) hx hb dX11_threshold_4 (by decide) (fun c4 => ?_) (fun c4 => ?_)
  · replace h := it c4 h
    refine lv_iconst (v := (-1)) hx hb dX11_threshold_22 (by decide) ?_
    exact hret _ _ _ _ _ _ h rfl hG dX11_threshold_23
  · replace h := ie c4 h
    refine lv_aload_n hx hb dX11_threshold_7 rfl (lv_at hl 0 rfl) ?_
    refine gL_f (v := .ref (ap 0)) C hG kX11 0 3 rfl (by decide) rfl q542 rfl dX11_threshold_8 ?_
    refine lv_aload_n hx hb dX11_threshold_11 rfl (lv_at hl 0 rfl) ?_
    refine gL_f (v := .ref (an 0)) C hG kX11 0 0 rfl (by decide) rfl q539 rfl dX11_threshold_12 ?_
    refine lv_iload_n hx hb dX11_threshold_15 rfl (lv_at hl 1 rfl) ?_
    obtain ⟨r2, hcr2, h⟩ := bnd_some h
    refine gF_i (ws' := (rX E ax an asx ay ap ar ai ah aj tf xx ++ (rW E an nn ++ (rP E ap r2.2 ++ [])))) C hG (pout (pin (pin pnil))) (List.Perm.symm (pout (pin (pin pnil)))) (gR_N (As := [.ref (an 0), .int x1]) (rest := []) C hz hl.1 hG (pout (pin (pin pnil))) (c_X6_leastHeat l E an ap N x1 nn pp hcr2 H.size) okX6_leastHeat q1222 30 rfl rfl rfl (Nat.le_of_ble_eq_true rfl) (by omega) ⟨Nat.le_refl _, Nat.le_refl _⟩ dX11_threshold_16) (fun H locs _ hG => ?_)
    refine lv_goto (tgt := 23) hx hb dX11_threshold_19 (by decide) ?_
    exact hret _ _ _ _ _ _ h rfl hG dX11_threshold_23
set_option maxHeartbeats 4000000 in
set_option maxRecDepth 100000 in
theorem c_X11_displaced (l : Launch) (E : GE) (ax an asx ay ap ar ai : Nat → Nat) (ah aj : Nat → Nat → Nat) (tf : Nat → Option Nat) (N : Nat) (x1 : Int32) (xx : RS) (nn : RS) (pp : RS) {res : Int32 × RS} (h : fX11_displaced N x1 xx nn pp = some res) : gMi l E yX11_displaced cX11_displaced 3 .int 15 0 0 [.ref (ax 0), .int x1] (rX E ax an asx ay ap ar ai ah aj tf xx ++ (rW E an nn ++ (rP E ap pp ++ []))) (rX E ax an asx ay ap ar ai ah aj tf xx ++ (rW E an nn ++ (rP E ap res.2 ++ []))) res.1 := by
  refine gMi_of (own := RX11) (by decide +kernel) rfl (Nat.le_of_ble_eq_true rfl) ?_
  intro p e s m args below meth c A ls Q H locs C hz hl hG hret
  have hx := C.1.1
  have hb := C.1.2.1
  have hts := C.1.2.2.2.2
  have hown := C.1.2.2.2.1
  have hl : lv_has ls 3 [(0, .ref (ax 0)), (1, .int x1)] := hl
  replace hret : ∀ (r0 : Int32) (pp0 : RS) (H : Heap) (locs : List Loc) (pc : Nat) (ls' : Array Slot), some (r0, pp0) = some res → narrow .int (.int r0) = .int r0 → gG E A s.heap (rX E ax an asx ay ap ar ai ah aj tf xx ++ (rW E an nn ++ (rP E ap pp0 ++ []))) H locs → decode cX11_displaced pc = .ok (.ireturn, 1) → W p l e (rmD 15 0 0) s m args below meth c H locs 0 0 Q (F0 m pc ls' [.int r0]) := by
    intro r0 pp0 H locs pc ls' e0 hn; cases e0; exact hret H locs pc ls' hn
  rw [fX11_displaced] at h
  refine lv_iload_n hx hb dX11_displaced_0 rfl (lv_at hl 1 rfl) ?_
  refine gF_i (ws' := (rX E ax an asx ay ap ar ai ah aj tf xx ++ (rW E an nn ++ (rP E ap pp ++ [])))) C hG pst pst.symm (gR_S (As := [.int x1]) (rest := []) C hz hl.1 hG pst (c_X11_isExtent l E x1 rfl H.size) okX11_isExtent q764 rfl (Nat.le_of_ble_eq_true rfl) (by omega) ⟨Nat.le_refl _, Nat.le_refl _⟩ dX11_displaced_1) (fun H locs z1 hG => ?_)
  refine lv_if_eq (tgt := 23) hx hb dX11_displaced_4 (by decide) (fun c4 => ?_) (fun c4 => ?_)
  · replace h := it c4 h
    refine lv_iconst (v := (-1)) hx hb dX11_displaced_23 (by decide) ?_
    exact hret _ _ _ _ _ _ h rfl hG dX11_displaced_24
  · replace h := ie c4 h
    refine lv_aload_n hx hb dX11_displaced_7 rfl (lv_at hl 0 rfl) ?_
    refine gL_f (v := .ref (ap 0)) C hG kX11 0 3 rfl (by decide) rfl q542 rfl dX11_displaced_8 ?_
    refine lv_aload_n hx hb dX11_displaced_11 rfl (lv_at hl 0 rfl) ?_
    refine gL_f (v := .ref (an 0)) C hG kX11 0 0 rfl (by decide) rfl q539 rfl dX11_displaced_12 ?_
    refine lv_iload_n hx hb dX11_displaced_15 rfl (lv_at hl 1 rfl) ?_
    obtain ⟨r2, hcr2, h⟩ := bnd_some h
    refine gF_i (ws' := (rX E ax an asx ay ap ar ai ah aj tf xx ++ (rW E an nn ++ (rP E ap r2.2 ++ [])))) C hG (pout (pin (pin pnil))) (List.Perm.symm (pout (pin (pin pnil)))) (gR_N (As := [.ref (an 0), .int x1]) (rest := []) C hz hl.1 hG (pout (pin (pin pnil))) (c_X6_leastHeat l E an ap N x1 nn pp hcr2 H.size) okX6_leastHeat q1222 30 rfl rfl rfl (Nat.le_of_ble_eq_true rfl) (by omega) ⟨Nat.le_refl _, Nat.le_refl _⟩ dX11_displaced_16) (fun H locs _ hG => ?_)
    refine lv_iconst (v := (-1)) hx hb dX11_displaced_19 (by decide) ?_
    refine lv_icmp_ne (tgt := 25) hx hb dX11_displaced_20 (by decide) (fun c20 => ?_) (fun c20 => ?_)
    · replace h := ie c20 h
      refine lv_aload_n hx hb dX11_displaced_25 rfl (lv_at hl 0 rfl) ?_
      refine gL_f (v := .ref (ap 0)) C hG kX11 0 3 rfl (by decide) rfl q542 rfl dX11_displaced_26 ?_
      refine gL_fN (v := .int (r2.2 0 9)) C hG kX6 32 9 rfl (by decide) rfl q417 rfl dX11_displaced_29 ?_
      obtain ⟨x2_3, ex2_3, h⟩ := thn_some h
      refine g_int ex2_3 ?_
      refine lv_istore_n (lv' := [(2, .int x2_3), (0, .ref (ax 0)), (1, .int x1)]) hx hb dX11_displaced_32 rfl hl (by decide) rfl (fun ls hl => ?_)
      refine lv_aload_n hx hb dX11_displaced_33 rfl (lv_at hl 1 rfl) ?_
      refine gL_f (v := .ref (ap 0)) C hG kX11 0 3 rfl (by decide) rfl q542 rfl dX11_displaced_34 ?_
      refine lv_aload_n hx hb dX11_displaced_37 rfl (lv_at hl 1 rfl) ?_
      refine gL_f (v := .ref (an 0)) C hG kX11 0 0 rfl (by decide) rfl q539 rfl dX11_displaced_38 ?_
      refine lv_aload_n hx hb dX11_displaced_41 rfl (lv_at hl 1 rfl) ?_
      refine gL_f (v := .ref (an 0)) C hG kX11 0 0 rfl (by decide) rfl q539 rfl dX11_displaced_42 ?_
      refine gL_fN (v := .ref (an 1)) C hG kX10 2 0 rfl (by decide) rfl q354 rfl dX11_displaced_45 ?_
      refine lv_iconst (v := 5) hx hb dX11_displaced_48 (by decide) ?_
      refine gL_i (v := (nn 1 5)) C hG 3 rfl (vp_in_nI (n := 5) (by decide) (by decide)) (congrArg (nn 1) (nI_clamp (n := 5) (by decide))) dX11_displaced_49 ?_
      obtain ⟨r4, hcr4, h⟩ := bnd_some h
      refine gF_v (ws' := (rX E ax an asx ay ap ar ai ah aj tf xx ++ (rW E an nn ++ (rP E ap r4 ++ [])))) C hG (pout (pin (pin pnil))) (List.Perm.symm (pout (pin (pin pnil)))) (gR_N (As := [.ref (an 0), .int (nn 1 5)]) (rest := []) C hz hl.1 hG (pout (pin (pin pnil))) (c_X6_makeFor l E an ap N (nn 1 5) nn r2.2 hcr4 H.size) okX6_makeFor q1190 30 rfl rfl rfl (Nat.le_of_ble_eq_true rfl) (by omega) ⟨Nat.le_refl _, Nat.le_refl _⟩ dX11_displaced_50) (fun H locs hG => ?_)
      refine lv_aload_n hx hb dX11_displaced_53 rfl (lv_at hl 1 rfl) ?_
      refine gL_f (v := .ref (ap 0)) C hG kX11 0 3 rfl (by decide) rfl q542 rfl dX11_displaced_54 ?_
      refine gL_fN (v := .int (r4 0 9)) C hG kX6 32 9 rfl (by decide) rfl q417 rfl dX11_displaced_57 ?_
      refine lv_iload_n hx hb dX11_displaced_60 rfl (lv_at hl 0 rfl) ?_
      refine lv_iconst (v := (-1)) hx hb dX11_displaced_61 (by decide) ?_
      refine lv_ixor hx hb dX11_displaced_62 ?_
      refine lv_iand hx hb dX11_displaced_63 ?_
      exact hret _ _ _ _ _ _ h rfl hG dX11_displaced_64
    · replace h := it c20 h
      refine lv_iconst (v := (-1)) hx hb dX11_displaced_23 (by decide) ?_
      exact hret _ _ _ _ _ _ h rfl hG dX11_displaced_24
set_option maxHeartbeats 4000000 in
set_option maxRecDepth 100000 in
theorem c_X11_may (l : Launch) (E : GE) (ax an asx ay ap ar ai : Nat → Nat) (ah aj : Nat → Nat → Nat) (tf : Nat → Option Nat) (N : Nat) (x1 : Int32) (x2 : Int32) (xx : RS) (nn : RS) (pp : RS) {res : Int32 × RS} (h : fX11_may N x1 x2 xx nn pp = some res) : gMi l E yX11_may cX11_may 3 .boolean 14 0 0 [.ref (ax 0), .int x1, .int x2] (rX E ax an asx ay ap ar ai ah aj tf xx ++ (rW E an nn ++ (rP E ap pp ++ []))) (rX E ax an asx ay ap ar ai ah aj tf xx ++ (rW E an nn ++ (rP E ap res.2 ++ []))) res.1 := by
  refine gMi_of (own := RX11) (by decide +kernel) rfl (Nat.le_of_ble_eq_true rfl) ?_
  intro p e s m args below meth c A ls Q H locs C hz hl hG hret
  have hx := C.1.1
  have hb := C.1.2.1
  have hts := C.1.2.2.2.2
  have hown := C.1.2.2.2.1
  have hl : lv_has ls 3 [(0, .ref (ax 0)), (1, .int x1), (2, .int x2)] := hl
  replace hret : ∀ (r0 : Int32) (pp0 : RS) (H : Heap) (locs : List Loc) (pc : Nat) (ls' : Array Slot), some (r0, pp0) = some res → narrow .boolean (.int r0) = .int r0 → gG E A s.heap (rX E ax an asx ay ap ar ai ah aj tf xx ++ (rW E an nn ++ (rP E ap pp0 ++ []))) H locs → decode cX11_may pc = .ok (.ireturn, 1) → W p l e (rmD 14 0 0) s m args below meth c H locs 0 0 Q (F0 m pc ls' [.int r0]) := by
    intro r0 pp0 H locs pc ls' e0 hn; cases e0; exact hret H locs pc ls' hn
  rw [fX11_may] at h
  refine lv_iload_n hx hb dX11_may_0 rfl (lv_at hl 1 rfl) ?_
  refine gF_i (ws' := (rX E ax an asx ay ap ar ai ah aj tf xx ++ (rW E an nn ++ (rP E ap pp ++ [])))) C hG pst pst.symm (gR_S (As := [.int x1]) (rest := []) C hz hl.1 hG pst (c_X11_isExtent l E x1 rfl H.size) okX11_isExtent q764 rfl (Nat.le_of_ble_eq_true rfl) (by omega) ⟨Nat.le_refl _, Nat.le_refl _⟩ dX11_may_1) (fun H locs z1 hG => ?_)
  refine lv_if_ne (tgt := 9) hx hb dX11_may_4 (by decide) (fun c4 => ?_) (fun c4 => ?_)
  · replace h := ie c4 h
    refine lv_aload_n hx hb dX11_may_9 rfl (lv_at hl 0 rfl) ?_
    refine gL_f (v := .ref (ap 0)) C hG kX11 0 3 rfl (by decide) rfl q542 rfl dX11_may_10 ?_
    refine lv_aload_n hx hb dX11_may_13 rfl (lv_at hl 0 rfl) ?_
    refine gL_f (v := .ref (an 0)) C hG kX11 0 0 rfl (by decide) rfl q539 rfl dX11_may_14 ?_
    refine lv_aload_n hx hb dX11_may_17 rfl (lv_at hl 0 rfl) ?_
    refine gL_f (v := .ref (an 0)) C hG kX11 0 0 rfl (by decide) rfl q539 rfl dX11_may_18 ?_
    refine gL_fN (v := .ref (an 1)) C hG kX10 2 0 rfl (by decide) rfl q354 rfl dX11_may_21 ?_
    refine lv_iconst (v := 5) hx hb dX11_may_24 (by decide) ?_
    refine gL_i (v := (nn 1 5)) C hG 3 rfl (vp_in_nI (n := 5) (by decide) (by decide)) (congrArg (nn 1) (nI_clamp (n := 5) (by decide))) dX11_may_25 ?_
    obtain ⟨r2, hcr2, h⟩ := bnd_some h
    refine gF_v (ws' := (rX E ax an asx ay ap ar ai ah aj tf xx ++ (rW E an nn ++ (rP E ap r2 ++ [])))) C hG (pout (pin (pin pnil))) (List.Perm.symm (pout (pin (pin pnil)))) (gR_N (As := [.ref (an 0), .int (nn 1 5)]) (rest := []) C hz hl.1 hG (pout (pin (pin pnil))) (c_X6_weigh l E an ap N (nn 1 5) nn pp hcr2 H.size) okX6_weigh q1200 30 rfl rfl rfl (Nat.le_of_ble_eq_true rfl) (by omega) ⟨Nat.le_refl _, Nat.le_refl _⟩ dX11_may_26) (fun H locs hG => ?_)
    refine lv_aload_n hx hb dX11_may_29 rfl (lv_at hl 0 rfl) ?_
    refine gL_f (v := .ref (ap 0)) C hG kX11 0 3 rfl (by decide) rfl q542 rfl dX11_may_30 ?_
    refine lv_iload_n hx hb dX11_may_33 rfl (lv_at hl 1 rfl) ?_
    refine lv_iload_n hx hb dX11_may_34 rfl (lv_at hl 2 rfl) ?_
    obtain ⟨r3, hcr3, h⟩ := bnd_some h
    refine gF_v (ws' := (rX E ax an asx ay ap ar ai ah aj tf xx ++ (rW E an nn ++ (rP E ap r3 ++ [])))) C hG (pout (pout (pin pnil))) (List.Perm.symm (pout (pout (pin pnil)))) (gR_N (As := [.int x1, .int x2]) (rest := []) C hz hl.1 hG (pout (pout (pin pnil))) (c_X6_force l E ap N x1 x2 r2 hcr3 H.size) okX6_force q1241 0 rfl rfl rfl (Nat.le_of_ble_eq_true rfl) (by omega) ⟨Nat.le_refl _, Nat.le_refl _⟩ dX11_may_35) (fun H locs hG => ?_)
    refine lv_aload_n hx hb dX11_may_38 rfl (lv_at hl 0 rfl) ?_
    refine gL_f (v := .ref (ap 0)) C hG kX11 0 3 rfl (by decide) rfl q542 rfl dX11_may_39 ?_
    obtain ⟨r4, hcr4, h⟩ := bnd_some h
    refine gF_i (ws' := (rX E ax an asx ay ap ar ai ah aj tf xx ++ (rW E an nn ++ (rP E ap r4.2 ++ [])))) C hG (pout (pout (pin pnil))) (List.Perm.symm (pout (pout (pin pnil)))) (gR_N (As := []) (rest := []) C hz hl.1 hG (pout (pout (pin pnil))) (c_X6_choose l E ap N r3 hcr4 H.size) okX6_choose q1242 0 rfl rfl rfl (Nat.le_of_ble_eq_true rfl) (by omega) ⟨Nat.le_refl _, Nat.le_refl _⟩ dX11_may_42) (fun H locs z5 hG => ?_)
    exact hret _ _ _ _ _ _ h (z5) hG dX11_may_45
  · replace h := it c4 h
    refine lv_iconst (v := 0) hx hb dX11_may_7 (by decide) ?_
    exact hret _ _ _ _ _ _ h rfl hG dX11_may_8
set_option maxHeartbeats 4000000 in
set_option maxRecDepth 100000 in
theorem c_X11_next (l : Launch) (E : GE) (ax an asx ay ap ar ai : Nat → Nat) (ah aj : Nat → Nat → Nat) (tf : Nat → Option Nat) (N : Nat) (x1 : Int32) (xx : RS) (nn : RS) (pp : RS) {res : Int32 × RS} (h : fX11_next N x1 xx nn pp = some res) : gMi l E yX11_next cX11_next 2 .int 15 0 0 [.ref (ax 0), .int x1] (rX E ax an asx ay ap ar ai ah aj tf xx ++ (rW E an nn ++ (rP E ap pp ++ []))) (rX E ax an asx ay ap ar ai ah aj tf xx ++ (rW E an nn ++ (rP E ap res.2 ++ []))) res.1 := by
  refine gMi_of (own := RX11) (by decide +kernel) rfl (Nat.le_of_ble_eq_true rfl) ?_
  intro p e s m args below meth c A ls Q H locs C hz hl hG hret
  have hx := C.1.1
  have hb := C.1.2.1
  have hts := C.1.2.2.2.2
  have hown := C.1.2.2.2.1
  have hl : lv_has ls 2 [(0, .ref (ax 0)), (1, .int x1)] := hl
  replace hret : ∀ (r0 : Int32) (pp0 : RS) (H : Heap) (locs : List Loc) (pc : Nat) (ls' : Array Slot), some (r0, pp0) = some res → narrow .int (.int r0) = .int r0 → gG E A s.heap (rX E ax an asx ay ap ar ai ah aj tf xx ++ (rW E an nn ++ (rP E ap pp0 ++ []))) H locs → decode cX11_next pc = .ok (.ireturn, 1) → W p l e (rmD 15 0 0) s m args below meth c H locs 0 0 Q (F0 m pc ls' [.int r0]) := by
    intro r0 pp0 H locs pc ls' e0 hn; cases e0; exact hret H locs pc ls' hn
  rw [fX11_next] at h
  refine lv_aload_n hx hb dX11_next_0 rfl (lv_at hl 0 rfl) ?_
  refine gL_f (v := .ref (ap 0)) C hG kX11 0 3 rfl (by decide) rfl q542 rfl dX11_next_1 ?_
  refine lv_aload_n hx hb dX11_next_4 rfl (lv_at hl 0 rfl) ?_
  refine gL_f (v := .ref (an 0)) C hG kX11 0 0 rfl (by decide) rfl q539 rfl dX11_next_5 ?_
  refine lv_aload_n hx hb dX11_next_8 rfl (lv_at hl 0 rfl) ?_
  refine gL_f (v := .ref (an 0)) C hG kX11 0 0 rfl (by decide) rfl q539 rfl dX11_next_9 ?_
  refine gL_fN (v := .ref (an 1)) C hG kX10 2 0 rfl (by decide) rfl q354 rfl dX11_next_12 ?_
  refine lv_iconst (v := 5) hx hb dX11_next_15 (by decide) ?_
  refine gL_i (v := (nn 1 5)) C hG 3 rfl (vp_in_nI (n := 5) (by decide) (by decide)) (congrArg (nn 1) (nI_clamp (n := 5) (by decide))) dX11_next_16 ?_
  obtain ⟨r1, hcr1, h⟩ := bnd_some h
  refine gF_v (ws' := (rX E ax an asx ay ap ar ai ah aj tf xx ++ (rW E an nn ++ (rP E ap r1 ++ [])))) C hG (pout (pin (pin pnil))) (List.Perm.symm (pout (pin (pin pnil)))) (gR_N (As := [.ref (an 0), .int (nn 1 5)]) (rest := []) C hz hl.1 hG (pout (pin (pin pnil))) (c_X6_makeFor l E an ap N (nn 1 5) nn pp hcr1 H.size) okX6_makeFor q1190 30 rfl rfl rfl (Nat.le_of_ble_eq_true rfl) (by omega) ⟨Nat.le_refl _, Nat.le_refl _⟩ dX11_next_17) (fun H locs hG => ?_)
  refine lv_aload_n hx hb dX11_next_20 rfl (lv_at hl 0 rfl) ?_
  refine gL_f (v := .ref (ap 0)) C hG kX11 0 3 rfl (by decide) rfl q542 rfl dX11_next_21 ?_
  refine lv_aload_n hx hb dX11_next_24 rfl (lv_at hl 0 rfl) ?_
  refine gL_f (v := .ref (an 0)) C hG kX11 0 0 rfl (by decide) rfl q539 rfl dX11_next_25 ?_
  refine gL_fN (v := .ref (an 2)) C hG kX10 2 1 rfl (by decide) rfl q357 rfl dX11_next_28 ?_
  obtain ⟨r2, hcr2, h⟩ := bnd_some h
  refine gF_v (ws' := (rX E ax an asx ay ap ar ai ah aj tf xx ++ (rW E an nn ++ (rP E ap r2 ++ [])))) C hG (pout (pin (pin pnil))) (List.Perm.symm (pout (pin (pin pnil)))) (gR_N (As := [.ref (an 2)]) (rest := []) C hz hl.1 hG (pout (pin (pin pnil))) (c_X6_listMoves l E an ap N nn r1 hcr2 H.size) okX6_listMoves q1247 30 rfl rfl rfl (Nat.le_of_ble_eq_true rfl) (by omega) ⟨Nat.le_refl _, Nat.le_refl _⟩ dX11_next_31) (fun H locs hG => ?_)
  refine lv_iload_n hx hb dX11_next_34 rfl (lv_at hl 1 rfl) ?_
  refine lv_iconst (v := (-1)) hx hb dX11_next_35 (by decide) ?_
  refine lv_icmp_ne (tgt := 47) hx hb dX11_next_36 (by decide) (fun c36 => ?_) (fun c36 => ?_)
  · replace h := ie c36 h
    refine lv_iload_n hx hb dX11_next_47 rfl (lv_at hl 1 rfl) ?_
    refine lv_if_lt (tgt := 74) hx hb dX11_next_48 (by decide) (fun c48 => ?_) (fun c48 => ?_)
    · replace h := it c48 h
      refine lv_bipush (v := (-2)) hx hb dX11_next_74 (by decide) ?_
      exact hret _ _ _ _ _ _ h rfl hG dX11_next_76
    · replace h := ie c48 h
      refine lv_iload_n hx hb dX11_next_51 rfl (lv_at hl 1 rfl) ?_
      refine lv_aload_n hx hb dX11_next_52 rfl (lv_at hl 0 rfl) ?_
      refine gL_f (v := .ref (ap 0)) C hG kX11 0 3 rfl (by decide) rfl q542 rfl dX11_next_53 ?_
      refine gL_fN (v := .int (r2 0 12)) C hG kX6 32 12 rfl (by decide) rfl q425 rfl dX11_next_56 ?_
      refine lv_icmp_ge (tgt := 74) hx hb dX11_next_59 (by decide) (fun c59 => ?_) (fun c59 => ?_)
      · replace h := it c59 h
        refine lv_bipush (v := (-2)) hx hb dX11_next_74 (by decide) ?_
        exact hret _ _ _ _ _ _ h rfl hG dX11_next_76
      · replace h := ie c59 h
        refine lv_aload_n hx hb dX11_next_62 rfl (lv_at hl 0 rfl) ?_
        refine gL_f (v := .ref (ap 0)) C hG kX11 0 3 rfl (by decide) rfl q542 rfl dX11_next_63 ?_
        refine gL_fN (v := .ref (ap 8)) C hG kX6 32 11 rfl (by decide) rfl q422 rfl dX11_next_66 ?_
        refine lv_iload_n hx hb dX11_next_69 rfl (lv_at hl 1 rfl) ?_
        obtain ⟨b3, h⟩ := ck_some h
        refine gL_i (v := (r2 8 x1.toNatClampNeg)) C hG 40 rfl (inb_in b3) rfl dX11_next_70 ?_
        refine lv_goto (tgt := 76) hx hb dX11_next_71 (by decide) ?_
        exact hret _ _ _ _ _ _ h rfl hG dX11_next_76
  · replace h := it c36 h
    refine lv_aload_n hx hb dX11_next_39 rfl (lv_at hl 0 rfl) ?_
    refine gL_f (v := .ref (ap 0)) C hG kX11 0 3 rfl (by decide) rfl q542 rfl dX11_next_40 ?_
    refine gL_fN (v := .int (r2 0 12)) C hG kX6 32 12 rfl (by decide) rfl q425 rfl dX11_next_43 ?_
    exact hret _ _ _ _ _ _ h rfl hG dX11_next_46
set_option maxHeartbeats 4000000 in
set_option maxRecDepth 100000 in
theorem c_X11_enough (l : Launch) (E : GE) (ax an asx ay ap ar ai : Nat → Nat) (ah aj : Nat → Nat → Nat) (tf : Nat → Option Nat) (N : Nat) (xx : RS) (nn : RS) (pp : RS) {res : Int32 × RS} (h : fX11_enough N xx nn pp = some res) : gMi l E yX11_enough cX11_enough 3 .int 15 0 0 [.ref (ax 0)] (rX E ax an asx ay ap ar ai ah aj tf xx ++ (rW E an nn ++ (rP E ap pp ++ []))) (rX E ax an asx ay ap ar ai ah aj tf xx ++ (rW E an nn ++ (rP E ap res.2 ++ []))) res.1 := by
  refine gMi_of (own := RX11) (by decide +kernel) rfl (Nat.le_of_ble_eq_true rfl) ?_
  intro p e s m args below meth c A ls Q H locs C hz hl hG hret
  have hx := C.1.1
  have hb := C.1.2.1
  have hts := C.1.2.2.2.2
  have hown := C.1.2.2.2.1
  have hl : lv_has ls 3 [(0, .ref (ax 0))] := hl
  replace hret : ∀ (r0 : Int32) (pp0 : RS) (H : Heap) (locs : List Loc) (pc : Nat) (ls' : Array Slot), some (r0, pp0) = some res → narrow .int (.int r0) = .int r0 → gG E A s.heap (rX E ax an asx ay ap ar ai ah aj tf xx ++ (rW E an nn ++ (rP E ap pp0 ++ []))) H locs → decode cX11_enough pc = .ok (.ireturn, 1) → W p l e (rmD 15 0 0) s m args below meth c H locs 0 0 Q (F0 m pc ls' [.int r0]) := by
    intro r0 pp0 H locs pc ls' e0 hn; cases e0; exact hret H locs pc ls' hn
  have K23 : ∀ (k : Nat), ∀  (x1 : Int32) (x2 : Int32) (pp : RS) (H : Heap) (locs : List Loc) (ls : Array Slot), gG E A s.heap (rX E ax an asx ay ap ar ai ah aj tf xx ++ (rW E an nn ++ (rP E ap pp ++ []))) H locs → lv_has ls 3 [(0, .ref (ax 0)), (1, .int x1), (2, .int x2)] → fX11_enough_L23 N xx nn k x1 x2 pp = some res → W p l e (rmD 15 0 0) s m args below meth c H locs 0 0 Q (F0 m 23 ls []) := by
    intro k
    induction k with
    | zero => intro x1 x2 pp H locs ls hG hl h; exact absurd (show none = _ from h) (by simp)
    | succ k ih =>
      intro x1 x2 pp H locs ls hG hl h
      rw [fX11_enough_L23] at h
      refine lv_iload_n hx hb dX11_enough_23 rfl (lv_at hl 2 rfl) ?_
      refine lv_bipush (v := 12) hx hb dX11_enough_24 (by decide) ?_
      refine lv_icmp_ge (tgt := 60) hx hb dX11_enough_26 (by decide) (fun c26 => ?_) (fun c26 => ?_)
      · replace h := it c26 h
        refine lv_bipush (v := 12) hx hb dX11_enough_60 (by decide) ?_
        exact hret _ _ _ _ _ _ h rfl hG dX11_enough_62
      · replace h := ie c26 h
        refine lv_aload_n hx hb dX11_enough_29 rfl (lv_at hl 0 rfl) ?_
        refine gL_f (v := .ref (ap 0)) C hG kX11 0 3 rfl (by decide) rfl q542 rfl dX11_enough_30 ?_
        refine lv_aload_n hx hb dX11_enough_33 rfl (lv_at hl 0 rfl) ?_
        refine gL_f (v := .ref (an 0)) C hG kX11 0 0 rfl (by decide) rfl q539 rfl dX11_enough_34 ?_
        refine lv_iload_n hx hb dX11_enough_37 rfl (lv_at hl 2 rfl) ?_
        obtain ⟨r1, hcr1, h⟩ := bnd_some h
        refine gF_v (ws' := (rX E ax an asx ay ap ar ai ah aj tf xx ++ (rW E an nn ++ (rP E ap r1 ++ [])))) C hG (pout (pin (pin pnil))) (List.Perm.symm (pout (pin (pin pnil)))) (gR_N (As := [.ref (an 0), .int x2]) (rest := []) C hz hl.1 hG (pout (pin (pin pnil))) (c_X6_makeFor l E an ap N x2 nn pp hcr1 H.size) okX6_makeFor q1190 30 rfl rfl rfl (Nat.le_of_ble_eq_true rfl) (by omega) ⟨Nat.le_refl _, Nat.le_refl _⟩ dX11_enough_38) (fun H locs hG => ?_)
        refine lv_aload_n hx hb dX11_enough_41 rfl (lv_at hl 0 rfl) ?_
        refine gL_f (v := .ref (ap 0)) C hG kX11 0 3 rfl (by decide) rfl q542 rfl dX11_enough_42 ?_
        refine gL_fN (v := .int (r1 0 10)) C hG kX6 32 10 rfl (by decide) rfl q419 rfl dX11_enough_45 ?_
        refine lv_iload_n hx hb dX11_enough_48 rfl (lv_at hl 1 rfl) ?_
        refine lv_icmp_ne (tgt := 54) hx hb dX11_enough_49 (by decide) (fun c49 => ?_) (fun c49 => ?_)
        · replace h := ie c49 h
          refine lv_iinc (v := (x2 + 1)) (lv' := [(2, .int (x2 + 1)), (0, .ref (ax 0)), (1, .int x1)]) hx hb dX11_enough_54 hl (k := 2) rfl (congrArg (x2 + ·) (by decide : Int32.ofInt 1 = 1)) (by decide) rfl (fun ls hl => ?_)
          refine lv_goto (tgt := 23) hx hb dX11_enough_57 (by decide) ?_
          exact ih x1 (x2 + 1) r1 _ _ _ hG (lv_sub hl [1, 2, 0] rfl) h
        · replace h := it c49 h
          refine lv_iload_n hx hb dX11_enough_52 rfl (lv_at hl 2 rfl) ?_
          exact hret _ _ _ _ _ _ h rfl hG dX11_enough_53
  rw [fX11_enough] at h
  refine lv_aload_n hx hb dX11_enough_0 rfl (lv_at hl 0 rfl) ?_
  refine gL_f (v := .ref (ap 0)) C hG kX11 0 3 rfl (by decide) rfl q542 rfl dX11_enough_1 ?_
  refine lv_aload_n hx hb dX11_enough_4 rfl (lv_at hl 0 rfl) ?_
  refine gL_f (v := .ref (an 0)) C hG kX11 0 0 rfl (by decide) rfl q539 rfl dX11_enough_5 ?_
  refine lv_bipush (v := 12) hx hb dX11_enough_8 (by decide) ?_
  obtain ⟨r1, hcr1, h⟩ := bnd_some h
  refine gF_v (ws' := (rX E ax an asx ay ap ar ai ah aj tf xx ++ (rW E an nn ++ (rP E ap r1 ++ [])))) C hG (pout (pin (pin pnil))) (List.Perm.symm (pout (pin (pin pnil)))) (gR_N (As := [.ref (an 0), .int 12]) (rest := []) C hz hl.1 hG (pout (pin (pin pnil))) (c_X6_makeFor l E an ap N 12 nn pp hcr1 H.size) okX6_makeFor q1190 30 rfl rfl rfl (Nat.le_of_ble_eq_true rfl) (by omega) ⟨Nat.le_refl _, Nat.le_refl _⟩ dX11_enough_10) (fun H locs hG => ?_)
  refine lv_aload_n hx hb dX11_enough_13 rfl (lv_at hl 0 rfl) ?_
  refine gL_f (v := .ref (ap 0)) C hG kX11 0 3 rfl (by decide) rfl q542 rfl dX11_enough_14 ?_
  refine gL_fN (v := .int (r1 0 10)) C hG kX6 32 10 rfl (by decide) rfl q419 rfl dX11_enough_17 ?_
  obtain ⟨x1_2, ex1_2, h⟩ := thn_some h
  refine g_int ex1_2 ?_
  refine lv_istore_n (lv' := [(1, .int x1_2), (0, .ref (ax 0))]) hx hb dX11_enough_20 rfl hl (by decide) rfl (fun ls hl => ?_)
  refine lv_iconst (v := 0) hx hb dX11_enough_21 (by decide) ?_
  refine lv_istore_n (lv' := [(2, .int 0), (1, .int x1_2), (0, .ref (ax 0))]) hx hb dX11_enough_22 rfl hl (by decide) rfl (fun ls hl => ?_)
  exact K23 N x1_2 0 r1 _ _ _ hG (lv_sub hl [2, 1, 0] rfl) h
set_option maxHeartbeats 4000000 in
set_option maxRecDepth 100000 in
theorem c_X11_gained (l : Launch) (E : GE) (ax an asx ay ap ar ai : Nat → Nat) (ah aj : Nat → Nat → Nat) (tf : Nat → Option Nat) (N : Nat) (x1 : Int32) (xx : RS) (nn : RS) {res : Int32} (h : fX11_gained N x1 xx nn = some res) : gMi l E yX11_gained cX11_gained 2 .int 2 0 0 [.ref (ax 0), .int x1] (rX E ax an asx ay ap ar ai ah aj tf xx ++ (rW E an nn ++ [])) (rX E ax an asx ay ap ar ai ah aj tf xx ++ (rW E an nn ++ [])) res := by
  refine gMi_of (own := RX11) (by decide +kernel) rfl (Nat.le_of_ble_eq_true rfl) ?_
  intro p e s m args below meth c A ls Q H locs C hz hl hG hret
  have hx := C.1.1
  have hb := C.1.2.1
  have hts := C.1.2.2.2.2
  have hown := C.1.2.2.2.1
  have hl : lv_has ls 2 [(0, .ref (ax 0)), (1, .int x1)] := hl
  replace hret : ∀ (r0 : Int32) (H : Heap) (locs : List Loc) (pc : Nat) (ls' : Array Slot), some r0 = some res → narrow .int (.int r0) = .int r0 → gG E A s.heap (rX E ax an asx ay ap ar ai ah aj tf xx ++ (rW E an nn ++ [])) H locs → decode cX11_gained pc = .ok (.ireturn, 1) → W p l e (rmD 2 0 0) s m args below meth c H locs 0 0 Q (F0 m pc ls' [.int r0]) := by
    intro r0 H locs pc ls' e0 hn; cases e0; exact hret H locs pc ls' hn
  rw [fX11_gained] at h
  refine lv_iload_n hx hb dX11_gained_0 rfl (lv_at hl 1 rfl) ?_
  refine gF_i (ws' := (rX E ax an asx ay ap ar ai ah aj tf xx ++ (rW E an nn ++ []))) C hG pst pst.symm (gR_S (As := [.int x1]) (rest := []) C hz hl.1 hG pst (c_X11_isExtent l E x1 rfl H.size) okX11_isExtent q764 rfl (Nat.le_of_ble_eq_true rfl) (by omega) ⟨Nat.le_refl _, Nat.le_refl _⟩ dX11_gained_1) (fun H locs z1 hG => ?_)
  refine lv_if_eq (tgt := 22) hx hb dX11_gained_4 (by decide) (fun c4 => ?_) (fun c4 => ?_)
  · replace h := it c4 h
    refine lv_ldc (v := (-2147483648)) hx hb hown (hts _ q1195) dX11_gained_22 ?_
    exact hret _ _ _ _ _ h rfl hG dX11_gained_24
  · replace h := ie c4 h
    refine lv_aload_n hx hb dX11_gained_7 rfl (lv_at hl 0 rfl) ?_
    refine gL_f (v := .ref (an 0)) C hG kX11 0 0 rfl (by decide) rfl q539 rfl dX11_gained_8 ?_
    refine gL_fN (v := .ref (an 2)) C hG kX10 2 1 rfl (by decide) rfl q357 rfl dX11_gained_11 ?_
    refine gL_fN (v := .ref (an 3)) C hG kX2 4 0 rfl (by decide) rfl q213 rfl dX11_gained_14 ?_
    refine lv_iload_n hx hb dX11_gained_17 rfl (lv_at hl 1 rfl) ?_
    obtain ⟨b2, h⟩ := ck_some h
    refine gL_i (v := (nn 3 x1.toNatClampNeg)) C hG 5 rfl (inb_in b2) rfl dX11_gained_18 ?_
    refine lv_if_ne (tgt := 25) hx hb dX11_gained_19 (by decide) (fun c19 => ?_) (fun c19 => ?_)
    · replace h := ie c19 h
      refine lv_aload_n hx hb dX11_gained_25 rfl (lv_at hl 0 rfl) ?_
      refine gL_f (v := .ref (an 0)) C hG kX11 0 0 rfl (by decide) rfl q539 rfl dX11_gained_26 ?_
      refine gL_fN (v := .ref (an 2)) C hG kX10 2 1 rfl (by decide) rfl q357 rfl dX11_gained_29 ?_
      refine gL_fN (v := .ref (an 8)) C hG kX2 4 5 rfl (by decide) rfl q227 rfl dX11_gained_32 ?_
      refine lv_iload_n hx hb dX11_gained_35 rfl (lv_at hl 1 rfl) ?_
      refine gL_i (v := (nn 8 x1.toNatClampNeg)) C hG 10 rfl (inb_in b2) rfl dX11_gained_36 ?_
      refine lv_bipush (v := 9) hx hb dX11_gained_37 (by decide) ?_
      refine gT_z C hG q767 dX11_gained_39 ?_
      refine lv_iload_n hx hb dX11_gained_42 rfl (lv_at hl 1 rfl) ?_
      refine gT_zi (v := (sizeT x1.toNatClampNeg)) C hG (inb_in b2) rfl dX11_gained_43 ?_
      refine lv_imul hx hb dX11_gained_44 ?_
      refine lv_isub hx hb dX11_gained_45 ?_
      exact hret _ _ _ _ _ h rfl hG dX11_gained_46
    · replace h := it c19 h
      refine lv_ldc (v := (-2147483648)) hx hb hown (hts _ q1195) dX11_gained_22 ?_
      exact hret _ _ _ _ _ h rfl hG dX11_gained_24
set_option maxHeartbeats 4000000 in
set_option maxRecDepth 100000 in
theorem c_X11_foretold (l : Launch) (E : GE) (ax an asx ay ap ar ai : Nat → Nat) (ah aj : Nat → Nat → Nat) (tf : Nat → Option Nat) (N : Nat) (x1 : Int32) (x2 : Int32) (xx : RS) (nn : RS) (ss : RS) (pp : RS) {res : Int32 × RS × RS} (h : fX11_foretold N x1 x2 xx nn ss pp = some res) : gMi l E yX11_foretold cX11_foretold 3 .int 18 0 0 [.ref (ax 0), .int x1, .int x2] (rX E ax an asx ay ap ar ai ah aj tf xx ++ (rW E an nn ++ (rW E asx ss ++ (rP E ap pp ++ [])))) (rX E ax an asx ay ap ar ai ah aj tf xx ++ (rW E an nn ++ (rW E asx res.2.1 ++ (rP E ap res.2.2 ++ [])))) res.1 := by
  refine gMi_of (own := RX11) (by decide +kernel) rfl (Nat.le_of_ble_eq_true rfl) ?_
  intro p e s m args below meth c A ls Q H locs C hz hl hG hret
  have hx := C.1.1
  have hb := C.1.2.1
  have hts := C.1.2.2.2.2
  have hown := C.1.2.2.2.1
  have hl : lv_has ls 3 [(0, .ref (ax 0)), (1, .int x1), (2, .int x2)] := hl
  replace hret : ∀ (r0 : Int32) (ss0 : RS) (pp0 : RS) (H : Heap) (locs : List Loc) (pc : Nat) (ls' : Array Slot), some (r0, ss0, pp0) = some res → narrow .int (.int r0) = .int r0 → gG E A s.heap (rX E ax an asx ay ap ar ai ah aj tf xx ++ (rW E an nn ++ (rW E asx ss0 ++ (rP E ap pp0 ++ [])))) H locs → decode cX11_foretold pc = .ok (.ireturn, 1) → W p l e (rmD 18 0 0) s m args below meth c H locs 0 0 Q (F0 m pc ls' [.int r0]) := by
    intro r0 ss0 pp0 H locs pc ls' e0 hn; cases e0; exact hret H locs pc ls' hn
  rw [fX11_foretold] at h
  refine lv_iload_n hx hb dX11_foretold_0 rfl (lv_at hl 1 rfl) ?_
  refine gF_i (ws' := (rX E ax an asx ay ap ar ai ah aj tf xx ++ (rW E an nn ++ (rW E asx ss ++ (rP E ap pp ++ []))))) C hG pst pst.symm (gR_S (As := [.int x1]) (rest := []) C hz hl.1 hG pst (c_X11_isDays l E x1 rfl H.size) okX11_isDays q907 rfl (Nat.le_of_ble_eq_true rfl) (by omega) ⟨Nat.le_refl _, Nat.le_refl _⟩ dX11_foretold_1) (fun H locs z1 hG => ?_)
  refine lv_if_eq (tgt := 14) hx hb dX11_foretold_4 (by decide) (fun c4 => ?_) (fun c4 => ?_)
  · replace h := it c4 h
    refine lv_iconst (v := (-1)) hx hb dX11_foretold_14 (by decide) ?_
    exact hret _ _ _ _ _ _ _ h rfl hG dX11_foretold_15
  · replace h := ie c4 h
    refine lv_iload_n hx hb dX11_foretold_7 rfl (lv_at hl 2 rfl) ?_
    refine gF_i (ws' := (rX E ax an asx ay ap ar ai ah aj tf xx ++ (rW E an nn ++ (rW E asx ss ++ (rP E ap pp ++ []))))) C hG pst pst.symm (gR_S (As := [.int x2]) (rest := []) C hz hl.1 hG pst (c_X11_isExtent l E x2 rfl H.size) okX11_isExtent q764 rfl (Nat.le_of_ble_eq_true rfl) (by omega) ⟨Nat.le_refl _, Nat.le_refl _⟩ dX11_foretold_8) (fun H locs z2 hG => ?_)
    refine lv_if_ne (tgt := 16) hx hb dX11_foretold_11 (by decide) (fun c11 => ?_) (fun c11 => ?_)
    · replace h := ie c11 h
      refine lv_aload_n hx hb dX11_foretold_16 rfl (lv_at hl 0 rfl) ?_
      refine gL_f (v := .ref (asx 0)) C hG kX11 0 1 rfl (by decide) rfl q540 rfl dX11_foretold_17 ?_
      refine lv_aload_n hx hb dX11_foretold_20 rfl (lv_at hl 0 rfl) ?_
      refine gL_f (v := .ref (an 0)) C hG kX11 0 0 rfl (by decide) rfl q539 rfl dX11_foretold_21 ?_
      obtain ⟨r3, hcr3, h⟩ := thn_some h
      refine gF_v (ws' := (rX E ax an asx ay ap ar ai ah aj tf xx ++ (rW E an nn ++ (rW E asx r3 ++ (rP E ap pp ++ []))))) C hG (pcons (pnext (pnext (pfst))) (pcons (pnext (pfst)) pst)) (List.Perm.symm (pcons (pnext (pnext (pfst))) (pcons (pnext (pfst)) pst))) (gR_N (As := [.ref (an 0)]) (rest := []) C hz hl.1 hG (pcons (pnext (pnext (pfst))) (pcons (pnext (pfst)) pst)) (c_X10_copyFrom l E asx an ss nn hcr3.symm H.size) okX10_copyFrom q1260 0 rfl rfl rfl (Nat.le_of_ble_eq_true rfl) (by omega) ⟨Nat.le_refl _, Nat.le_refl _⟩ dX11_foretold_24) (fun H locs hG => ?_)
      refine lv_aload_n hx hb dX11_foretold_27 rfl (lv_at hl 0 rfl) ?_
      refine gL_f (v := .ref (asx 0)) C hG kX11 0 1 rfl (by decide) rfl q540 rfl dX11_foretold_28 ?_
      refine lv_iload_n hx hb dX11_foretold_31 rfl (lv_at hl 1 rfl) ?_
      refine lv_aload_n hx hb dX11_foretold_32 rfl (lv_at hl 0 rfl) ?_
      refine gL_f (v := .ref (ap 0)) C hG kX11 0 3 rfl (by decide) rfl q542 rfl dX11_foretold_33 ?_
      obtain ⟨r4, hcr4, h⟩ := bnd_some h
      refine gF_v (ws' := (rX E ax an asx ay ap ar ai ah aj tf xx ++ (rW E an nn ++ (rW E asx r4.1 ++ (rP E ap r4.2 ++ []))))) C hG (pout (pout (pin (pin pnil)))) (List.Perm.symm (pout (pout (pin (pin pnil))))) (gR_N (As := [.int x1, .ref (ap 0)]) (rest := []) C hz hl.1 hG (pout (pout (pin (pin pnil)))) (c_X10_pass l E asx ap N x1 r3 pp hcr4 H.size) okX10_pass q910 0 rfl rfl rfl (Nat.le_of_ble_eq_true rfl) (by omega) ⟨Nat.le_refl _, Nat.le_refl _⟩ dX11_foretold_36) (fun H locs hG => ?_)
      refine lv_aload_n hx hb dX11_foretold_39 rfl (lv_at hl 0 rfl) ?_
      refine gL_f (v := .ref (asx 0)) C hG kX11 0 1 rfl (by decide) rfl q540 rfl dX11_foretold_40 ?_
      refine gL_fN (v := .ref (asx 2)) C hG kX10 32 1 rfl (by decide) rfl q357 rfl dX11_foretold_43 ?_
      refine gL_fN (v := .ref (asx 3)) C hG kX2 34 0 rfl (by decide) rfl q213 rfl dX11_foretold_46 ?_
      refine lv_iload_n hx hb dX11_foretold_49 rfl (lv_at hl 2 rfl) ?_
      obtain ⟨b5, h⟩ := ck_some h
      refine gL_i (v := (r4.1 3 x2.toNatClampNeg)) C hG 35 rfl (inb_in b5) rfl dX11_foretold_50 ?_
      exact hret _ _ _ _ _ _ _ h rfl hG dX11_foretold_51
    · replace h := it c11 h
      refine lv_iconst (v := (-1)) hx hb dX11_foretold_14 (by decide) ?_
      exact hret _ _ _ _ _ _ _ h rfl hG dX11_foretold_15
set_option maxHeartbeats 4000000 in
set_option maxRecDepth 100000 in
theorem c_X11_copies (l : Launch) (E : GE) (ax an asx ay ap ar ai : Nat → Nat) (ah aj : Nat → Nat → Nat) (tf : Nat → Option Nat) (N : Nat) (x1 : Int32) (xx : RS) (nn : RS) (ss : RS) (pp : RS) {res : Int32 × RS × RS} (h : fX11_copies N x1 xx nn ss pp = some res) : gMi l E yX11_copies cX11_copies 2 .int 18 0 0 [.ref (ax 0), .int x1] (rX E ax an asx ay ap ar ai ah aj tf xx ++ (rW E an nn ++ (rW E asx ss ++ (rP E ap pp ++ [])))) (rX E ax an asx ay ap ar ai ah aj tf xx ++ (rW E an nn ++ (rW E asx res.2.1 ++ (rP E ap res.2.2 ++ [])))) res.1 := by
  refine gMi_of (own := RX11) (by decide +kernel) rfl (Nat.le_of_ble_eq_true rfl) ?_
  intro p e s m args below meth c A ls Q H locs C hz hl hG hret
  have hx := C.1.1
  have hb := C.1.2.1
  have hts := C.1.2.2.2.2
  have hown := C.1.2.2.2.1
  have hl : lv_has ls 2 [(0, .ref (ax 0)), (1, .int x1)] := hl
  replace hret : ∀ (r0 : Int32) (ss0 : RS) (pp0 : RS) (H : Heap) (locs : List Loc) (pc : Nat) (ls' : Array Slot), some (r0, ss0, pp0) = some res → narrow .int (.int r0) = .int r0 → gG E A s.heap (rX E ax an asx ay ap ar ai ah aj tf xx ++ (rW E an nn ++ (rW E asx ss0 ++ (rP E ap pp0 ++ [])))) H locs → decode cX11_copies pc = .ok (.ireturn, 1) → W p l e (rmD 18 0 0) s m args below meth c H locs 0 0 Q (F0 m pc ls' [.int r0]) := by
    intro r0 ss0 pp0 H locs pc ls' e0 hn; cases e0; exact hret H locs pc ls' hn
  rw [fX11_copies] at h
  refine lv_iload_n hx hb dX11_copies_0 rfl (lv_at hl 1 rfl) ?_
  refine gF_i (ws' := (rX E ax an asx ay ap ar ai ah aj tf xx ++ (rW E an nn ++ (rW E asx ss ++ (rP E ap pp ++ []))))) C hG pst pst.symm (gR_S (As := [.int x1]) (rest := []) C hz hl.1 hG pst (c_X11_isDays l E x1 rfl H.size) okX11_isDays q907 rfl (Nat.le_of_ble_eq_true rfl) (by omega) ⟨Nat.le_refl _, Nat.le_refl _⟩ dX11_copies_1) (fun H locs z1 hG => ?_)
  refine lv_if_ne (tgt := 9) hx hb dX11_copies_4 (by decide) (fun c4 => ?_) (fun c4 => ?_)
  · replace h := ie c4 h
    refine lv_aload_n hx hb dX11_copies_9 rfl (lv_at hl 0 rfl) ?_
    refine gL_f (v := .ref (asx 0)) C hG kX11 0 1 rfl (by decide) rfl q540 rfl dX11_copies_10 ?_
    refine lv_aload_n hx hb dX11_copies_13 rfl (lv_at hl 0 rfl) ?_
    refine gL_f (v := .ref (an 0)) C hG kX11 0 0 rfl (by decide) rfl q539 rfl dX11_copies_14 ?_
    obtain ⟨r2, hcr2, h⟩ := thn_some h
    refine gF_v (ws' := (rX E ax an asx ay ap ar ai ah aj tf xx ++ (rW E an nn ++ (rW E asx r2 ++ (rP E ap pp ++ []))))) C hG (pcons (pnext (pnext (pfst))) (pcons (pnext (pfst)) pst)) (List.Perm.symm (pcons (pnext (pnext (pfst))) (pcons (pnext (pfst)) pst))) (gR_N (As := [.ref (an 0)]) (rest := []) C hz hl.1 hG (pcons (pnext (pnext (pfst))) (pcons (pnext (pfst)) pst)) (c_X10_copyFrom l E asx an ss nn hcr2.symm H.size) okX10_copyFrom q1260 0 rfl rfl rfl (Nat.le_of_ble_eq_true rfl) (by omega) ⟨Nat.le_refl _, Nat.le_refl _⟩ dX11_copies_17) (fun H locs hG => ?_)
    refine lv_aload_n hx hb dX11_copies_20 rfl (lv_at hl 0 rfl) ?_
    refine gL_f (v := .ref (asx 0)) C hG kX11 0 1 rfl (by decide) rfl q540 rfl dX11_copies_21 ?_
    refine lv_iload_n hx hb dX11_copies_24 rfl (lv_at hl 1 rfl) ?_
    refine lv_aload_n hx hb dX11_copies_25 rfl (lv_at hl 0 rfl) ?_
    refine gL_f (v := .ref (ap 0)) C hG kX11 0 3 rfl (by decide) rfl q542 rfl dX11_copies_26 ?_
    obtain ⟨r3, hcr3, h⟩ := bnd_some h
    refine gF_v (ws' := (rX E ax an asx ay ap ar ai ah aj tf xx ++ (rW E an nn ++ (rW E asx r3.1 ++ (rP E ap r3.2 ++ []))))) C hG (pout (pout (pin (pin pnil)))) (List.Perm.symm (pout (pout (pin (pin pnil))))) (gR_N (As := [.int x1, .ref (ap 0)]) (rest := []) C hz hl.1 hG (pout (pout (pin (pin pnil)))) (c_X10_pass l E asx ap N x1 r2 pp hcr3 H.size) okX10_pass q910 0 rfl rfl rfl (Nat.le_of_ble_eq_true rfl) (by omega) ⟨Nat.le_refl _, Nat.le_refl _⟩ dX11_copies_29) (fun H locs hG => ?_)
    refine lv_aload_n hx hb dX11_copies_32 rfl (lv_at hl 0 rfl) ?_
    refine gL_f (v := .ref (asx 0)) C hG kX11 0 1 rfl (by decide) rfl q540 rfl dX11_copies_33 ?_
    refine gL_fN (v := .ref (asx 1)) C hG kX10 32 0 rfl (by decide) rfl q354 rfl dX11_copies_36 ?_
    refine lv_bipush (v := 10) hx hb dX11_copies_39 (by decide) ?_
    refine gL_i (v := (r3.1 1 10)) C hG 33 rfl (vp_in_nI (n := 10) (by decide) (by decide)) (congrArg (r3.1 1) (nI_clamp (n := 10) (by decide))) dX11_copies_41 ?_
    refine lv_aload_n hx hb dX11_copies_42 rfl (lv_at hl 0 rfl) ?_
    refine gL_f (v := .ref (an 0)) C hG kX11 0 0 rfl (by decide) rfl q539 rfl dX11_copies_43 ?_
    refine gL_fN (v := .ref (an 1)) C hG kX10 2 0 rfl (by decide) rfl q354 rfl dX11_copies_46 ?_
    refine lv_bipush (v := 10) hx hb dX11_copies_49 (by decide) ?_
    refine gL_i (v := (nn 1 10)) C hG 3 rfl (vp_in_nI (n := 10) (by decide) (by decide)) (congrArg (nn 1) (nI_clamp (n := 10) (by decide))) dX11_copies_51 ?_
    refine lv_isub hx hb dX11_copies_52 ?_
    exact hret _ _ _ _ _ _ _ h rfl hG dX11_copies_53
  · replace h := it c4 h
    refine lv_iconst (v := (-1)) hx hb dX11_copies_7 (by decide) ?_
    exact hret _ _ _ _ _ _ _ h rfl hG dX11_copies_8
set_option maxHeartbeats 4000000 in
set_option maxRecDepth 100000 in
theorem c_X11_rank (l : Launch) (E : GE) (ax an asx ay ap ar ai : Nat → Nat) (ah aj : Nat → Nat → Nat) (tf : Nat → Option Nat) (N : Nat) (x1 : Int32) (xx : RS) (nn : RS) {res : Int32} (h : fX11_rank N x1 xx nn = some res) : gMi l E yX11_rank cX11_rank 3 .int 3 0 0 [.ref (ax 0), .int x1] (rX E ax an asx ay ap ar ai ah aj tf xx ++ (rW E an nn ++ [])) (rX E ax an asx ay ap ar ai ah aj tf xx ++ (rW E an nn ++ [])) res := by
  refine gMi_of (own := RX11) (by decide +kernel) rfl (Nat.le_of_ble_eq_true rfl) ?_
  intro p e s m args below meth c A ls Q H locs C hz hl hG hret
  have hx := C.1.1
  have hb := C.1.2.1
  have hts := C.1.2.2.2.2
  have hown := C.1.2.2.2.1
  have hl : lv_has ls 3 [(0, .ref (ax 0)), (1, .int x1)] := hl
  replace hret : ∀ (r0 : Int32) (H : Heap) (locs : List Loc) (pc : Nat) (ls' : Array Slot), some r0 = some res → narrow .int (.int r0) = .int r0 → gG E A s.heap (rX E ax an asx ay ap ar ai ah aj tf xx ++ (rW E an nn ++ [])) H locs → decode cX11_rank pc = .ok (.ireturn, 1) → W p l e (rmD 3 0 0) s m args below meth c H locs 0 0 Q (F0 m pc ls' [.int r0]) := by
    intro r0 H locs pc ls' e0 hn; cases e0; exact hret H locs pc ls' hn
  have K2 : ∀ (k : Nat), ∀  (x2 : Int32) (H : Heap) (locs : List Loc) (ls : Array Slot), gG E A s.heap (rX E ax an asx ay ap ar ai ah aj tf xx ++ (rW E an nn ++ [])) H locs → lv_has ls 3 [(0, .ref (ax 0)), (1, .int x1), (2, .int x2)] → fX11_rank_L2 N x1 xx nn k x2 = some res → W p l e (rmD 3 0 0) s m args below meth c H locs 0 0 Q (F0 m 2 ls []) := by
    intro k
    induction k with
    | zero => intro x2 H locs ls hG hl h; exact absurd (show none = _ from h) (by simp)
    | succ k ih =>
      intro x2 H locs ls hG hl h
      rw [fX11_rank_L2] at h
      refine lv_iload_n hx hb dX11_rank_2 rfl (lv_at hl 2 rfl) ?_
      refine lv_bipush (v := 10) hx hb dX11_rank_3 (by decide) ?_
      refine lv_icmp_ge (tgt := 31) hx hb dX11_rank_5 (by decide) (fun c5 => ?_) (fun c5 => ?_)
      · replace h := it c5 h
        refine lv_iconst (v := (-1)) hx hb dX11_rank_31 (by decide) ?_
        exact hret _ _ _ _ _ h rfl hG dX11_rank_32
      · replace h := ie c5 h
        refine lv_aload_n hx hb dX11_rank_8 rfl (lv_at hl 0 rfl) ?_
        refine gL_f (v := .ref (an 0)) C hG kX11 0 0 rfl (by decide) rfl q539 rfl dX11_rank_9 ?_
        refine gL_fN (v := .ref (an 2)) C hG kX10 2 1 rfl (by decide) rfl q357 rfl dX11_rank_12 ?_
        refine lv_iload_n hx hb dX11_rank_15 rfl (lv_at hl 2 rfl) ?_
        obtain ⟨r1, hcr1, h⟩ := bnd_some h
        refine gF_i (ws' := (rX E ax an asx ay ap ar ai ah aj tf xx ++ (rW E an nn ++ []))) C hG (pout (pin pnil)) (List.Perm.symm (pout (pin pnil))) (gR_N (As := [.int x2]) (rest := []) C hz hl.1 hG (pout (pin pnil)) (c_X2_hotterThan l E an N x2 nn hcr1 H.size) okX2_hotterThan q1277 2 rfl rfl rfl (Nat.le_of_ble_eq_true rfl) (by omega) ⟨Nat.le_refl _, Nat.le_refl _⟩ dX11_rank_16) (fun H locs _ hG => ?_)
        refine lv_iload_n hx hb dX11_rank_19 rfl (lv_at hl 1 rfl) ?_
        refine lv_icmp_ne (tgt := 25) hx hb dX11_rank_20 (by decide) (fun c20 => ?_) (fun c20 => ?_)
        · replace h := ie c20 h
          refine lv_iinc (v := (x2 + 1)) (lv' := [(2, .int (x2 + 1)), (0, .ref (ax 0)), (1, .int x1)]) hx hb dX11_rank_25 hl (k := 2) rfl (congrArg (x2 + ·) (by decide : Int32.ofInt 1 = 1)) (by decide) rfl (fun ls hl => ?_)
          refine lv_goto (tgt := 2) hx hb dX11_rank_28 (by decide) ?_
          exact ih (x2 + 1) _ _ _ hG (lv_sub hl [1, 2, 0] rfl) h
        · replace h := it c20 h
          refine lv_iload_n hx hb dX11_rank_23 rfl (lv_at hl 2 rfl) ?_
          exact hret _ _ _ _ _ h rfl hG dX11_rank_24
  rw [fX11_rank] at h
  refine lv_iconst (v := 0) hx hb dX11_rank_0 (by decide) ?_
  refine lv_istore_n (lv' := [(2, .int 0), (0, .ref (ax 0)), (1, .int x1)]) hx hb dX11_rank_1 rfl hl (by decide) rfl (fun ls hl => ?_)
  exact K2 N 0 _ _ _ hG (lv_sub hl [1, 2, 0] rfl) h
set_option maxHeartbeats 4000000 in
set_option maxRecDepth 100000 in
theorem c_X11_coldest (l : Launch) (E : GE) (ax an asx ay ap ar ai : Nat → Nat) (ah aj : Nat → Nat → Nat) (tf : Nat → Option Nat) (N : Nat) (x1 : Int32) (xx : RS) (nn : RS) {res : Int32} (h : fX11_coldest N x1 xx nn = some res) : gMi l E yX11_coldest cX11_coldest 4 .int 2 0 0 [.ref (ax 0), .int x1] (rX E ax an asx ay ap ar ai ah aj tf xx ++ (rW E an nn ++ [])) (rX E ax an asx ay ap ar ai ah aj tf xx ++ (rW E an nn ++ [])) res := by
  refine gMi_of (own := RX11) (by decide +kernel) rfl (Nat.le_of_ble_eq_true rfl) ?_
  intro p e s m args below meth c A ls Q H locs C hz hl hG hret
  have hx := C.1.1
  have hb := C.1.2.1
  have hts := C.1.2.2.2.2
  have hown := C.1.2.2.2.1
  have hl : lv_has ls 4 [(0, .ref (ax 0)), (1, .int x1)] := hl
  replace hret : ∀ (r0 : Int32) (H : Heap) (locs : List Loc) (pc : Nat) (ls' : Array Slot), some r0 = some res → narrow .int (.int r0) = .int r0 → gG E A s.heap (rX E ax an asx ay ap ar ai ah aj tf xx ++ (rW E an nn ++ [])) H locs → decode cX11_coldest pc = .ok (.ireturn, 1) → W p l e (rmD 2 0 0) s m args below meth c H locs 0 0 Q (F0 m pc ls' [.int r0]) := by
    intro r0 H locs pc ls' e0 hn; cases e0; exact hret H locs pc ls' hn
  have K48 : ∀ (k4 : (Int32 → Int32 → Option (Int32))) (hk4 : ∀  (x2 : Int32) (x3 : Int32) (H : Heap) (locs : List Loc) (ls : Array Slot), gG E A s.heap (rX E ax an asx ay ap ar ai ah aj tf xx ++ (rW E an nn ++ [])) H locs → lv_has ls 4 [(0, .ref (ax 0)), (1, .int x1), (2, .int x2), (3, .int x3)] → k4 x2 x3 = some res → W p l e (rmD 2 0 0) s m args below meth c H locs 0 0 Q (F0 m 4 ls [])), ∀  (x2 : Int32) (x3 : Int32) (H : Heap) (locs : List Loc) (ls : Array Slot), gG E A s.heap (rX E ax an asx ay ap ar ai ah aj tf xx ++ (rW E an nn ++ [])) H locs → lv_has ls 4 [(0, .ref (ax 0)), (1, .int x1), (2, .int x2), (3, .int x3)] → fX11_coldest_L48 N x1 xx nn k4 x2 x3 = some res → W p l e (rmD 2 0 0) s m args below meth c H locs 0 0 Q (F0 m 48 ls []) := by
    intro k4 hk4 x2 x3 H locs ls hG hl h
    rw [fX11_coldest_L48] at h
    refine lv_iinc (v := (x3 + 1)) (lv' := [(3, .int (x3 + 1)), (0, .ref (ax 0)), (1, .int x1), (2, .int x2)]) hx hb dX11_coldest_48 hl (k := 3) rfl (congrArg (x3 + ·) (by decide : Int32.ofInt 1 = 1)) (by decide) rfl (fun ls hl => ?_)
    refine lv_goto (tgt := 4) hx hb dX11_coldest_51 (by decide) ?_
    exact hk4 x2 (x3 + 1) _ _ _ hG (lv_sub hl [1, 2, 3, 0] rfl) h
  have K46 : ∀ (k4 : (Int32 → Int32 → Option (Int32))) (hk4 : ∀  (x2 : Int32) (x3 : Int32) (H : Heap) (locs : List Loc) (ls : Array Slot), gG E A s.heap (rX E ax an asx ay ap ar ai ah aj tf xx ++ (rW E an nn ++ [])) H locs → lv_has ls 4 [(0, .ref (ax 0)), (1, .int x1), (2, .int x2), (3, .int x3)] → k4 x2 x3 = some res → W p l e (rmD 2 0 0) s m args below meth c H locs 0 0 Q (F0 m 4 ls [])), ∀  (x3 : Int32) (H : Heap) (locs : List Loc) (ls : Array Slot), gG E A s.heap (rX E ax an asx ay ap ar ai ah aj tf xx ++ (rW E an nn ++ [])) H locs → lv_has ls 4 [(0, .ref (ax 0)), (1, .int x1), (3, .int x3)] → fX11_coldest_L46 N x1 xx nn k4 x3 = some res → W p l e (rmD 2 0 0) s m args below meth c H locs 0 0 Q (F0 m 46 ls []) := by
    intro k4 hk4 x3 H locs ls hG hl h
    rw [fX11_coldest_L46] at h
    refine lv_iload_n hx hb dX11_coldest_46 rfl (lv_at hl 2 rfl) ?_
    refine lv_istore_n (lv' := [(2, .int x3), (0, .ref (ax 0)), (1, .int x1), (3, .int x3)]) hx hb dX11_coldest_47 rfl hl (by decide) rfl (fun ls hl => ?_)
    exact K48 _ hk4 x3 x3 _ _ _ hG (lv_sub hl [1, 2, 0, 3] rfl) h
  have K4 : ∀ (k : Nat), ∀  (x2 : Int32) (x3 : Int32) (H : Heap) (locs : List Loc) (ls : Array Slot), gG E A s.heap (rX E ax an asx ay ap ar ai ah aj tf xx ++ (rW E an nn ++ [])) H locs → lv_has ls 4 [(0, .ref (ax 0)), (1, .int x1), (2, .int x2), (3, .int x3)] → fX11_coldest_L4 N x1 xx nn k x2 x3 = some res → W p l e (rmD 2 0 0) s m args below meth c H locs 0 0 Q (F0 m 4 ls []) := by
    intro k
    induction k with
    | zero => intro x2 x3 H locs ls hG hl h; exact absurd (show none = _ from h) (by simp)
    | succ k ih =>
      intro x2 x3 H locs ls hG hl h
      rw [fX11_coldest_L4] at h
      refine lv_iload_n hx hb dX11_coldest_4 rfl (lv_at hl 3 rfl) ?_
      refine lv_bipush (v := 10) hx hb dX11_coldest_5 (by decide) ?_
      refine lv_icmp_ge (tgt := 54) hx hb dX11_coldest_7 (by decide) (fun c7 => ?_) (fun c7 => ?_)
      · replace h := it c7 h
        refine lv_iload_n hx hb dX11_coldest_54 rfl (lv_at hl 2 rfl) ?_
        exact hret _ _ _ _ _ h rfl hG dX11_coldest_55
      · replace h := ie c7 h
        refine lv_aload_n hx hb dX11_coldest_10 rfl (lv_at hl 0 rfl) ?_
        refine gL_f (v := .ref (an 0)) C hG kX11 0 0 rfl (by decide) rfl q539 rfl dX11_coldest_11 ?_
        refine gL_fN (v := .ref (an 2)) C hG kX10 2 1 rfl (by decide) rfl q357 rfl dX11_coldest_14 ?_
        refine gL_fN (v := .ref (an 3)) C hG kX2 4 0 rfl (by decide) rfl q213 rfl dX11_coldest_17 ?_
        refine lv_iload_n hx hb dX11_coldest_20 rfl (lv_at hl 3 rfl) ?_
        obtain ⟨b1, h⟩ := ck_some h
        refine gL_i (v := (nn 3 x3.toNatClampNeg)) C hG 5 rfl (inb_in b1) rfl dX11_coldest_21 ?_
        refine lv_iload_n hx hb dX11_coldest_22 rfl (lv_at hl 1 rfl) ?_
        refine lv_icmp_ne (tgt := 48) hx hb dX11_coldest_23 (by decide) (fun c23 => ?_) (fun c23 => ?_)
        · replace h := ie c23 h
          exact K48 _ ih x2 x3 _ _ _ hG (lv_sub hl [0, 1, 2, 3] rfl) h
        · replace h := it c23 h
          refine lv_iload_n hx hb dX11_coldest_26 rfl (lv_at hl 2 rfl) ?_
          refine lv_iconst (v := (-1)) hx hb dX11_coldest_27 (by decide) ?_
          refine lv_icmp_eq (tgt := 46) hx hb dX11_coldest_28 (by decide) (fun c28 => ?_) (fun c28 => ?_)
          · replace h := it c28 h
            exact K46 _ ih x3 _ _ _ hG (lv_sub hl [0, 1, 3] rfl) h
          · replace h := ie c28 h
            refine lv_aload_n hx hb dX11_coldest_31 rfl (lv_at hl 0 rfl) ?_
            refine gL_f (v := .ref (an 0)) C hG kX11 0 0 rfl (by decide) rfl q539 rfl dX11_coldest_32 ?_
            refine gL_fN (v := .ref (an 2)) C hG kX10 2 1 rfl (by decide) rfl q357 rfl dX11_coldest_35 ?_
            refine lv_iload_n hx hb dX11_coldest_38 rfl (lv_at hl 2 rfl) ?_
            refine lv_iload_n hx hb dX11_coldest_39 rfl (lv_at hl 3 rfl) ?_
            obtain ⟨r2, hcr2, h⟩ := bnd_some h
            refine gF_i (ws' := (rX E ax an asx ay ap ar ai ah aj tf xx ++ (rW E an nn ++ []))) C hG (pout (pin pnil)) (List.Perm.symm (pout (pin pnil))) (gR_N (As := [.int x2, .int x3]) (rest := []) C hz hl.1 hG (pout (pin pnil)) (c_X2_hotter l E an N x2 x3 nn hcr2 H.size) okX2_hotter q1286 2 rfl rfl rfl (Nat.le_of_ble_eq_true rfl) (by omega) ⟨Nat.le_refl _, Nat.le_refl _⟩ dX11_coldest_40) (fun H locs z3 hG => ?_)
            refine lv_if_eq (tgt := 48) hx hb dX11_coldest_43 (by decide) (fun c43 => ?_) (fun c43 => ?_)
            · replace h := it c43 h
              exact K48 _ ih x2 x3 _ _ _ hG (lv_sub hl [0, 1, 2, 3] rfl) h
            · replace h := ie c43 h
              exact K46 _ ih x3 _ _ _ hG (lv_sub hl [0, 1, 3] rfl) h
  rw [fX11_coldest] at h
  refine lv_iconst (v := (-1)) hx hb dX11_coldest_0 (by decide) ?_
  refine lv_istore_n (lv' := [(2, .int (-1)), (0, .ref (ax 0)), (1, .int x1)]) hx hb dX11_coldest_1 rfl hl (by decide) rfl (fun ls hl => ?_)
  refine lv_iconst (v := 0) hx hb dX11_coldest_2 (by decide) ?_
  refine lv_istore_n (lv' := [(3, .int 0), (2, .int (-1)), (0, .ref (ax 0)), (1, .int x1)]) hx hb dX11_coldest_3 rfl hl (by decide) rfl (fun ls hl => ?_)
  exact K4 N (-1) 0 _ _ _ hG (lv_sub hl [2, 3, 1, 0] rfl) h
set_option maxHeartbeats 4000000 in
set_option maxRecDepth 100000 in
theorem c_X11_warmth (l : Launch) (E : GE) (ax an asx ay ap ar ai : Nat → Nat) (ah aj : Nat → Nat → Nat) (tf : Nat → Option Nat) (N : Nat) (x1 : Int32) (xx : RS) (nn : RS) {res : Int32} (h : fX11_warmth N x1 xx nn = some res) : gMi l E yX11_warmth cX11_warmth 4 .int 1 0 0 [.ref (ax 0), .int x1] (rX E ax an asx ay ap ar ai ah aj tf xx ++ (rW E an nn ++ [])) (rX E ax an asx ay ap ar ai ah aj tf xx ++ (rW E an nn ++ [])) res := by
  refine gMi_of (own := RX11) (by decide +kernel) rfl (Nat.le_of_ble_eq_true rfl) ?_
  intro p e s m args below meth c A ls Q H locs C hz hl hG hret
  have hx := C.1.1
  have hb := C.1.2.1
  have hts := C.1.2.2.2.2
  have hown := C.1.2.2.2.1
  have hl : lv_has ls 4 [(0, .ref (ax 0)), (1, .int x1)] := hl
  replace hret : ∀ (r0 : Int32) (H : Heap) (locs : List Loc) (pc : Nat) (ls' : Array Slot), some r0 = some res → narrow .int (.int r0) = .int r0 → gG E A s.heap (rX E ax an asx ay ap ar ai ah aj tf xx ++ (rW E an nn ++ [])) H locs → decode cX11_warmth pc = .ok (.ireturn, 1) → W p l e (rmD 1 0 0) s m args below meth c H locs 0 0 Q (F0 m pc ls' [.int r0]) := by
    intro r0 H locs pc ls' e0 hn; cases e0; exact hret H locs pc ls' hn
  have K54 : ∀ (k15 : (Int32 → Int32 → Option (Int32))) (hk15 : ∀  (x2 : Int32) (x3 : Int32) (H : Heap) (locs : List Loc) (ls : Array Slot), gG E A s.heap (rX E ax an asx ay ap ar ai ah aj tf xx ++ (rW E an nn ++ [])) H locs → lv_has ls 4 [(0, .ref (ax 0)), (1, .int x1), (2, .int x2), (3, .int x3)] → k15 x2 x3 = some res → W p l e (rmD 1 0 0) s m args below meth c H locs 0 0 Q (F0 m 15 ls [])), ∀  (x3 : Int32) (s0 : Int32) (s1 : Int32) (H : Heap) (locs : List Loc) (ls : Array Slot), gG E A s.heap (rX E ax an asx ay ap ar ai ah aj tf xx ++ (rW E an nn ++ [])) H locs → lv_has ls 4 [(0, .ref (ax 0)), (1, .int x1), (3, .int x3)] → fX11_warmth_L54 N x1 xx nn k15 x3 s0 s1 = some res → W p l e (rmD 1 0 0) s m args below meth c H locs 0 0 Q (F0 m 54 ls [.int s1, .int s0]) := by
    intro k15 hk15 x3 s0 s1 H locs ls hG hl h
    rw [fX11_warmth_L54] at h
    refine lv_iadd hx hb dX11_warmth_54 ?_
    obtain ⟨x2_1, ex2_1, h⟩ := thn_some h
    refine g_int ex2_1 ?_
    refine lv_istore_n (lv' := [(2, .int x2_1), (0, .ref (ax 0)), (1, .int x1), (3, .int x3)]) hx hb dX11_warmth_55 rfl hl (by decide) rfl (fun ls hl => ?_)
    refine lv_iinc (v := (x3 + 1)) (lv' := [(3, .int (x3 + 1)), (2, .int x2_1), (0, .ref (ax 0)), (1, .int x1)]) hx hb dX11_warmth_56 hl (k := 3) rfl (congrArg (x3 + ·) (by decide : Int32.ofInt 1 = 1)) (by decide) rfl (fun ls hl => ?_)
    refine lv_goto (tgt := 15) hx hb dX11_warmth_59 (by decide) ?_
    exact hk15 x2_1 (x3 + 1) _ _ _ hG (lv_sub hl [2, 3, 1, 0] rfl) h
  have K15 : ∀ (k : Nat), ∀  (x2 : Int32) (x3 : Int32) (H : Heap) (locs : List Loc) (ls : Array Slot), gG E A s.heap (rX E ax an asx ay ap ar ai ah aj tf xx ++ (rW E an nn ++ [])) H locs → lv_has ls 4 [(0, .ref (ax 0)), (1, .int x1), (2, .int x2), (3, .int x3)] → fX11_warmth_L15 N x1 xx nn k x2 x3 = some res → W p l e (rmD 1 0 0) s m args below meth c H locs 0 0 Q (F0 m 15 ls []) := by
    intro k
    induction k with
    | zero => intro x2 x3 H locs ls hG hl h; exact absurd (show none = _ from h) (by simp)
    | succ k ih =>
      intro x2 x3 H locs ls hG hl h
      rw [fX11_warmth_L15] at h
      refine lv_iload_n hx hb dX11_warmth_15 rfl (lv_at hl 3 rfl) ?_
      refine lv_bipush (v := 10) hx hb dX11_warmth_16 (by decide) ?_
      refine lv_icmp_ge (tgt := 62) hx hb dX11_warmth_18 (by decide) (fun c18 => ?_) (fun c18 => ?_)
      · replace h := it c18 h
        refine lv_iload_n hx hb dX11_warmth_62 rfl (lv_at hl 2 rfl) ?_
        exact hret _ _ _ _ _ h rfl hG dX11_warmth_63
      · replace h := ie c18 h
        refine lv_iload_n hx hb dX11_warmth_21 rfl (lv_at hl 2 rfl) ?_
        refine lv_aload_n hx hb dX11_warmth_22 rfl (lv_at hl 0 rfl) ?_
        refine gL_f (v := .ref (an 0)) C hG kX11 0 0 rfl (by decide) rfl q539 rfl dX11_warmth_23 ?_
        refine gL_fN (v := .ref (an 2)) C hG kX10 2 1 rfl (by decide) rfl q357 rfl dX11_warmth_26 ?_
        refine gL_fN (v := .ref (an 3)) C hG kX2 4 0 rfl (by decide) rfl q213 rfl dX11_warmth_29 ?_
        refine lv_iload_n hx hb dX11_warmth_32 rfl (lv_at hl 3 rfl) ?_
        obtain ⟨b1, h⟩ := ck_some h
        refine gL_i (v := (nn 3 x3.toNatClampNeg)) C hG 5 rfl (inb_in b1) rfl dX11_warmth_33 ?_
        refine lv_iload_n hx hb dX11_warmth_34 rfl (lv_at hl 1 rfl) ?_
        refine lv_icmp_ne (tgt := 53) hx hb dX11_warmth_35 (by decide) (fun c35 => ?_) (fun c35 => ?_)
        · replace h := ie c35 h
          refine lv_iconst (v := 0) hx hb dX11_warmth_53 (by decide) ?_
          exact K54 _ ih x3 x2 0 _ _ _ hG (lv_sub hl [0, 1, 3] rfl) h
        · replace h := it c35 h
          refine lv_aload_n hx hb dX11_warmth_38 rfl (lv_at hl 0 rfl) ?_
          refine gL_f (v := .ref (an 0)) C hG kX11 0 0 rfl (by decide) rfl q539 rfl dX11_warmth_39 ?_
          refine gL_fN (v := .ref (an 2)) C hG kX10 2 1 rfl (by decide) rfl q357 rfl dX11_warmth_42 ?_
          refine gL_fN (v := .ref (an 9)) C hG kX2 4 6 rfl (by decide) rfl q230 rfl dX11_warmth_45 ?_
          refine lv_iload_n hx hb dX11_warmth_48 rfl (lv_at hl 3 rfl) ?_
          refine gL_i (v := (nn 9 x3.toNatClampNeg)) C hG 11 rfl (inb_in b1) rfl dX11_warmth_49 ?_
          refine lv_goto (tgt := 54) hx hb dX11_warmth_50 (by decide) ?_
          exact K54 _ ih x3 x2 (nn 9 x3.toNatClampNeg) _ _ _ hG (lv_sub hl [0, 1, 3] rfl) h
  have K11 : ∀  (H : Heap) (locs : List Loc) (ls : Array Slot), gG E A s.heap (rX E ax an asx ay ap ar ai ah aj tf xx ++ (rW E an nn ++ [])) H locs → lv_has ls 4 [(0, .ref (ax 0)), (1, .int x1)] → fX11_warmth_L11 N x1 xx nn = some res → W p l e (rmD 1 0 0) s m args below meth c H locs 0 0 Q (F0 m 11 ls []) := by
    intro H locs ls hG hl h
    rw [fX11_warmth_L11] at h
    refine lv_iconst (v := 0) hx hb dX11_warmth_11 (by decide) ?_
    refine lv_istore_n (lv' := [(2, .int 0), (0, .ref (ax 0)), (1, .int x1)]) hx hb dX11_warmth_12 rfl hl (by decide) rfl (fun ls hl => ?_)
    refine lv_iconst (v := 0) hx hb dX11_warmth_13 (by decide) ?_
    refine lv_istore_n (lv' := [(3, .int 0), (2, .int 0), (0, .ref (ax 0)), (1, .int x1)]) hx hb dX11_warmth_14 rfl hl (by decide) rfl (fun ls hl => ?_)
    exact K15 N 0 0 _ _ _ hG (lv_sub hl [2, 3, 1, 0] rfl) h
  rw [fX11_warmth] at h
  refine lv_iload_n hx hb dX11_warmth_0 rfl (lv_at hl 1 rfl) ?_
  refine lv_if_eq (tgt := 11) hx hb dX11_warmth_1 (by decide) (fun c1 => ?_) (fun c1 => ?_)
  · replace h := it c1 h
    exact K11 _ _ _ hG (lv_sub hl [0, 1] rfl) h
  · replace h := ie c1 h
    refine lv_iload_n hx hb dX11_warmth_4 rfl (lv_at hl 1 rfl) ?_
    refine lv_iconst (v := 1) hx hb dX11_warmth_5 (by decide) ?_
    refine lv_icmp_eq (tgt := 11) hx hb dX11_warmth_6 (by decide) (fun c6 => ?_) (fun c6 => ?_)
    · replace h := it c6 h
      exact K11 _ _ _ hG (lv_sub hl [0, 1] rfl) h
    · replace h := ie c6 h
      refine lv_iconst (v := (-1)) hx hb dX11_warmth_9 (by decide) ?_
      exact hret _ _ _ _ _ h rfl hG dX11_warmth_10
set_option maxHeartbeats 4000000 in
set_option maxRecDepth 100000 in
theorem c_X11_cools (l : Launch) (E : GE) (ax an asx ay ap ar ai : Nat → Nat) (ah aj : Nat → Nat → Nat) (tf : Nat → Option Nat) (N : Nat) (x1 : Int32) (xx : RS) (nn : RS) {res : Int32} (h : fX11_cools N x1 xx nn = some res) : gMi l E yX11_cools cX11_cools 2 .int 2 0 0 [.ref (ax 0), .int x1] (rX E ax an asx ay ap ar ai ah aj tf xx ++ (rW E an nn ++ [])) (rX E ax an asx ay ap ar ai ah aj tf xx ++ (rW E an nn ++ [])) res := by
  refine gMi_of (own := RX11) (by decide +kernel) rfl (Nat.le_of_ble_eq_true rfl) ?_
  intro p e s m args below meth c A ls Q H locs C hz hl hG hret
  have hx := C.1.1
  have hb := C.1.2.1
  have hts := C.1.2.2.2.2
  have hown := C.1.2.2.2.1
  have hl : lv_has ls 2 [(0, .ref (ax 0)), (1, .int x1)] := hl
  replace hret : ∀ (r0 : Int32) (H : Heap) (locs : List Loc) (pc : Nat) (ls' : Array Slot), some r0 = some res → narrow .int (.int r0) = .int r0 → gG E A s.heap (rX E ax an asx ay ap ar ai ah aj tf xx ++ (rW E an nn ++ [])) H locs → decode cX11_cools pc = .ok (.ireturn, 1) → W p l e (rmD 2 0 0) s m args below meth c H locs 0 0 Q (F0 m pc ls' [.int r0]) := by
    intro r0 H locs pc ls' e0 hn; cases e0; exact hret H locs pc ls' hn
  rw [fX11_cools] at h
  refine lv_iload_n hx hb dX11_cools_0 rfl (lv_at hl 1 rfl) ?_
  refine gF_i (ws' := (rX E ax an asx ay ap ar ai ah aj tf xx ++ (rW E an nn ++ []))) C hG pst pst.symm (gR_S (As := [.int x1]) (rest := []) C hz hl.1 hG pst (c_X11_isExtent l E x1 rfl H.size) okX11_isExtent q764 rfl (Nat.le_of_ble_eq_true rfl) (by omega) ⟨Nat.le_refl _, Nat.le_refl _⟩ dX11_cools_1) (fun H locs z1 hG => ?_)
  refine lv_if_ne (tgt := 9) hx hb dX11_cools_4 (by decide) (fun c4 => ?_) (fun c4 => ?_)
  · replace h := ie c4 h
    refine lv_bipush (v := 32) hx hb dX11_cools_9 (by decide) ?_
    refine lv_aload_n hx hb dX11_cools_11 rfl (lv_at hl 0 rfl) ?_
    refine gL_f (v := .ref (an 0)) C hG kX11 0 0 rfl (by decide) rfl q539 rfl dX11_cools_12 ?_
    refine gL_fN (v := .ref (an 2)) C hG kX10 2 1 rfl (by decide) rfl q357 rfl dX11_cools_15 ?_
    refine gL_fN (v := .ref (an 9)) C hG kX2 4 6 rfl (by decide) rfl q230 rfl dX11_cools_18 ?_
    refine lv_iload_n hx hb dX11_cools_21 rfl (lv_at hl 1 rfl) ?_
    obtain ⟨b2, h⟩ := ck_some h
    refine gL_i (v := (nn 9 x1.toNatClampNeg)) C hG 11 rfl (inb_in b2) rfl dX11_cools_22 ?_
    refine gF_i (ws' := (rX E ax an asx ay ap ar ai ah aj tf xx ++ (rW E an nn ++ []))) C hG pst pst.symm (gR_S (As := [.int (nn 9 x1.toNatClampNeg)]) (rest := [.int 32]) C hz hl.1 hG pst (c_J6_numberOfLeadingZeros_0f7a4 l E (nn 9 x1.toNatClampNeg) rfl H.size) okJ6_numberOfLeadingZeros_0f7a4 q1295 rfl (Nat.le_of_ble_eq_true rfl) (by omega) ⟨Nat.le_refl _, Nat.le_refl _⟩ dX11_cools_23) (fun H locs _ hG => ?_)
    refine lv_isub hx hb dX11_cools_26 ?_
    exact hret _ _ _ _ _ h rfl hG dX11_cools_27
  · replace h := it c4 h
    refine lv_iconst (v := (-1)) hx hb dX11_cools_7 (by decide) ?_
    exact hret _ _ _ _ _ h rfl hG dX11_cools_8
set_option maxHeartbeats 4000000 in
set_option maxRecDepth 100000 in
theorem c_X11_bitsOf (l : Launch) (E : GE) (N : Nat) (x0 : UInt64) (x2 : Int32) (x3 : Int32) {res : Int64} (h : fX11_bitsOf N x0 x2 x3 = some res) : gMl l E yX11_bitsOf cX11_bitsOf 9 1 0 0 [.double x0, .int x2, .int x3] [] [] res := by
  refine gMl_of (own := RX11) (by decide +kernel) rfl (Nat.le_of_ble_eq_true rfl) ?_
  intro p e s m args below meth c A ls Q H locs C hz hl hG hret
  have hx := C.1.1
  have hb := C.1.2.1
  have hts := C.1.2.2.2.2
  have hown := C.1.2.2.2.1
  have hl : lv_has ls 9 [(0, .double x0), (2, .int x2), (3, .int x3)] := hl
  replace hret : ∀ (r0 : Int64) (H : Heap) (locs : List Loc) (pc : Nat) (ls' : Array Slot), some r0 = some res → gG E A s.heap [] H locs → decode cX11_bitsOf pc = .ok (.lreturn, 1) → W p l e (rmD 1 0 0) s m args below meth c H locs 0 0 Q (F0 m pc ls' [.long r0]) := by
    intro r0 H locs pc ls' e0; cases e0; exact hret H locs pc ls'
  have K84 : ∀  (x4 : UInt64) (x6 : Int32) (H : Heap) (locs : List Loc) (ls : Array Slot), gG E A s.heap [] H locs → lv_has ls 9 [(2, .int x2), (4, .double x4), (6, .int x6)] → fX11_bitsOf_L84 N x0 x2 x3 x4 x6 = some res → W p l e (rmD 1 0 0) s m args below meth c H locs 0 0 Q (F0 m 84 ls []) := by
    intro x4 x6 H locs ls hG hl h
    rw [fX11_bitsOf_L84] at h
    refine lv_lconst (v := 1) hx hb dX11_bitsOf_84 (by decide) ?_
    refine lv_iload_n hx hb dX11_bitsOf_85 rfl (lv_at hl 0 rfl) ?_
    refine lv_lshl (v := (lshl 1 x2)) hx hb dX11_bitsOf_86 rfl ?_
    obtain ⟨x7_1, ex7_1, h⟩ := thn_some h
    refine g_long ex7_1 ?_
    refine lv_lstore (lv' := [(7, .long x7_1), (2, .int x2), (4, .double x4), (6, .int x6)]) hx hb dX11_bitsOf_87 hl (by decide) rfl (fun ls hl => ?_)
    refine lv_iload hx hb dX11_bitsOf_89 (lv_at hl 3 rfl) ?_
    refine lv_i2l hx hb dX11_bitsOf_91 rfl ?_
    refine lv_lload hx hb dX11_bitsOf_92 (lv_at hl 0 rfl) ?_
    refine lv_lmul hx hb dX11_bitsOf_94 ?_
    refine lv_dload hx hb dX11_bitsOf_95 (lv_at hl 2 rfl) ?_
    refine lv_dconst1 hx hb dX11_bitsOf_97 ?_
    obtain ⟨b2, h⟩ := ck_some h
    refine lv_dsub hx hb dX11_bitsOf_98 (n64_n b2) ?_
    refine lv_lload hx hb dX11_bitsOf_99 (lv_at hl 0 rfl) ?_
    refine lv_l2d hx hb dX11_bitsOf_101 ?_
    obtain ⟨b3, h⟩ := ck_some h
    refine lv_dmul hx hb dX11_bitsOf_102 (n64_n b3) ?_
    refine lv_d2l hx hb dX11_bitsOf_103 ?_
    refine lv_ladd hx hb dX11_bitsOf_104 ?_
    exact hret _ _ _ _ _ h hG dX11_bitsOf_105
  have K53 : ∀ (k : Nat), ∀  (x4 : UInt64) (x6 : Int32) (x7 : Int32) (H : Heap) (locs : List Loc) (ls : Array Slot), gG E A s.heap [] H locs → lv_has ls 9 [(2, .int x2), (4, .double x4), (6, .int x6), (7, .int x7)] → fX11_bitsOf_L53 N x0 x2 x3 k x4 x6 x7 = some res → W p l e (rmD 1 0 0) s m args below meth c H locs 0 0 Q (F0 m 53 ls []) := by
    intro k
    induction k with
    | zero => intro x4 x6 x7 H locs ls hG hl h; exact absurd (show none = _ from h) (by simp)
    | succ k ih =>
      intro x4 x6 x7 H locs ls hG hl h
      rw [fX11_bitsOf_L53] at h
      refine lv_iload hx hb dX11_bitsOf_53 (lv_at hl 3 rfl) ?_
      refine lv_bipush (v := 64) hx hb dX11_bitsOf_55 (by decide) ?_
      refine lv_icmp_ge (tgt := 84) hx hb dX11_bitsOf_57 (by decide) (fun c57 => ?_) (fun c57 => ?_)
      · replace h := it c57 h
        exact K84 x4 x6 _ _ _ hG (lv_sub hl [0, 1, 2] rfl) h
      · replace h := ie c57 h
        refine lv_dload hx hb dX11_bitsOf_60 (lv_at hl 1 rfl) ?_
        refine lv_dconst1 hx hb dX11_bitsOf_62 ?_
        refine lv_dcmp hx hb dX11_bitsOf_63 ?_
        refine lv_if_ge (tgt := 84) hx hb dX11_bitsOf_64 (by decide) (fun c64 => ?_) (fun c64 => ?_)
        · replace h := it c64 h
          exact K84 x4 x6 _ _ _ hG (lv_sub hl [0, 1, 2] rfl) h
        · replace h := ie c64 h
          refine lv_dload hx hb dX11_bitsOf_67 (lv_at hl 1 rfl) ?_
          refine lv_ldc2d (v := 4611686018427387904) hx hb hown (hts _ q1306) dX11_bitsOf_69 ?_
          obtain ⟨b1, h⟩ := ck_some h
          refine lv_dmul hx hb dX11_bitsOf_72 (n64_n b1) ?_
          obtain ⟨x4_2, ex4_2, h⟩ := thn_some h
          refine g_double ex4_2 ?_
          refine lv_dstore (lv' := [(4, .double x4_2), (2, .int x2), (6, .int x6), (7, .int x7)]) hx hb dX11_bitsOf_73 hl (by decide) rfl (fun ls hl => ?_)
          refine lv_iinc (v := (x6 + (-1))) (lv' := [(6, .int (x6 + (-1))), (4, .double x4_2), (2, .int x2), (7, .int x7)]) hx hb dX11_bitsOf_75 hl (k := 2) rfl (congrArg (x6 + ·) (by decide : Int32.ofInt (-1) = (-1))) (by decide) rfl (fun ls hl => ?_)
          refine lv_iinc (v := (x7 + 1)) (lv' := [(7, .int (x7 + 1)), (6, .int (x6 + (-1))), (4, .double x4_2), (2, .int x2)]) hx hb dX11_bitsOf_78 hl (k := 3) rfl (congrArg (x7 + ·) (by decide : Int32.ofInt 1 = 1)) (by decide) rfl (fun ls hl => ?_)
          refine lv_goto (tgt := 53) hx hb dX11_bitsOf_81 (by decide) ?_
          exact ih x4_2 (x6 + (-1)) (x7 + 1) _ _ _ hG (lv_sub hl [3, 2, 1, 0] rfl) h
  have K50 : ∀  (x4 : UInt64) (x6 : Int32) (H : Heap) (locs : List Loc) (ls : Array Slot), gG E A s.heap [] H locs → lv_has ls 9 [(2, .int x2), (4, .double x4), (6, .int x6)] → fX11_bitsOf_L50 N x0 x2 x3 x4 x6 = some res → W p l e (rmD 1 0 0) s m args below meth c H locs 0 0 Q (F0 m 50 ls []) := by
    intro x4 x6 H locs ls hG hl h
    rw [fX11_bitsOf_L50] at h
    refine lv_iconst (v := 0) hx hb dX11_bitsOf_50 (by decide) ?_
    refine lv_istore (lv' := [(7, .int 0), (2, .int x2), (4, .double x4), (6, .int x6)]) hx hb dX11_bitsOf_51 hl (by decide) rfl (fun ls hl => ?_)
    exact K53 N x4 x6 0 _ _ _ hG (lv_sub hl [1, 2, 3, 0] rfl) h
  have K17 : ∀ (k : Nat), ∀  (x4 : UInt64) (x6 : Int32) (x7 : Int32) (H : Heap) (locs : List Loc) (ls : Array Slot), gG E A s.heap [] H locs → lv_has ls 9 [(2, .int x2), (4, .double x4), (6, .int x6), (7, .int x7)] → fX11_bitsOf_L17 N x0 x2 x3 k x4 x6 x7 = some res → W p l e (rmD 1 0 0) s m args below meth c H locs 0 0 Q (F0 m 17 ls []) := by
    intro k
    induction k with
    | zero => intro x4 x6 x7 H locs ls hG hl h; exact absurd (show none = _ from h) (by simp)
    | succ k ih =>
      intro x4 x6 x7 H locs ls hG hl h
      rw [fX11_bitsOf_L17] at h
      refine lv_iload hx hb dX11_bitsOf_17 (lv_at hl 3 rfl) ?_
      refine lv_bipush (v := 64) hx hb dX11_bitsOf_19 (by decide) ?_
      refine lv_icmp_ge (tgt := 50) hx hb dX11_bitsOf_21 (by decide) (fun c21 => ?_) (fun c21 => ?_)
      · replace h := it c21 h
        exact K50 x4 x6 _ _ _ hG (lv_sub hl [0, 1, 2] rfl) h
      · replace h := ie c21 h
        refine lv_dload hx hb dX11_bitsOf_24 (lv_at hl 1 rfl) ?_
        refine lv_ldc2d (v := 4611686018427387904) hx hb hown (hts _ q1306) dX11_bitsOf_26 ?_
        refine lv_dcmp hx hb dX11_bitsOf_29 ?_
        refine lv_if_lt (tgt := 50) hx hb dX11_bitsOf_30 (by decide) (fun c30 => ?_) (fun c30 => ?_)
        · replace h := it c30 h
          exact K50 x4 x6 _ _ _ hG (lv_sub hl [0, 1, 2] rfl) h
        · replace h := ie c30 h
          refine lv_dload hx hb dX11_bitsOf_33 (lv_at hl 1 rfl) ?_
          refine lv_ldc2d (v := 4611686018427387904) hx hb hown (hts _ q1306) dX11_bitsOf_35 ?_
          obtain ⟨b1, h⟩ := ck_some h
          refine lv_ddiv hx hb dX11_bitsOf_38 (n64_n b1) ?_
          obtain ⟨x4_2, ex4_2, h⟩ := thn_some h
          refine g_double ex4_2 ?_
          refine lv_dstore (lv' := [(4, .double x4_2), (2, .int x2), (6, .int x6), (7, .int x7)]) hx hb dX11_bitsOf_39 hl (by decide) rfl (fun ls hl => ?_)
          refine lv_iinc (v := (x6 + 1)) (lv' := [(6, .int (x6 + 1)), (4, .double x4_2), (2, .int x2), (7, .int x7)]) hx hb dX11_bitsOf_41 hl (k := 2) rfl (congrArg (x6 + ·) (by decide : Int32.ofInt 1 = 1)) (by decide) rfl (fun ls hl => ?_)
          refine lv_iinc (v := (x7 + 1)) (lv' := [(7, .int (x7 + 1)), (6, .int (x6 + 1)), (4, .double x4_2), (2, .int x2)]) hx hb dX11_bitsOf_44 hl (k := 3) rfl (congrArg (x7 + ·) (by decide : Int32.ofInt 1 = 1)) (by decide) rfl (fun ls hl => ?_)
          refine lv_goto (tgt := 17) hx hb dX11_bitsOf_47 (by decide) ?_
          exact ih x4_2 (x6 + 1) (x7 + 1) _ _ _ hG (lv_sub hl [3, 2, 1, 0] rfl) h
  rw [fX11_bitsOf] at h
  refine lv_dload_n hx hb dX11_bitsOf_0 rfl (lv_at hl 0 rfl) ?_
  refine lv_dconst0 hx hb dX11_bitsOf_1 ?_
  refine lv_dcmp hx hb dX11_bitsOf_2 ?_
  refine lv_if_gt (tgt := 8) hx hb dX11_bitsOf_3 (by decide) (fun c3 => ?_) (fun c3 => ?_)
  · replace h := it c3 h
    refine lv_dload_n hx hb dX11_bitsOf_8 rfl (lv_at hl 0 rfl) ?_
    refine lv_dstore (lv' := [(4, .double x0), (0, .double x0), (2, .int x2), (3, .int x3)]) hx hb dX11_bitsOf_9 hl (by decide) rfl (fun ls hl => ?_)
    refine lv_iload_n hx hb dX11_bitsOf_11 rfl (lv_at hl 3 rfl) ?_
    refine lv_istore (lv' := [(6, .int x3), (4, .double x0), (0, .double x0), (2, .int x2), (3, .int x3)]) hx hb dX11_bitsOf_12 hl (by decide) rfl (fun ls hl => ?_)
    refine lv_iconst (v := 0) hx hb dX11_bitsOf_14 (by decide) ?_
    refine lv_istore (lv' := [(7, .int 0), (6, .int x3), (4, .double x0), (0, .double x0), (2, .int x2), (3, .int x3)]) hx hb dX11_bitsOf_15 hl (by decide) rfl (fun ls hl => ?_)
    exact K17 N x0 x3 0 _ _ _ hG (lv_sub hl [4, 2, 1, 0] rfl) h
  · replace h := ie c3 h
    refine lv_lconst (v := 0) hx hb dX11_bitsOf_6 (by decide) ?_
    exact hret _ _ _ _ _ h hG dX11_bitsOf_7
set_option maxHeartbeats 4000000 in
set_option maxRecDepth 100000 in
theorem c_X11_share (l : Launch) (E : GE) (ax an asx ay ap ar ai : Nat → Nat) (ah aj : Nat → Nat → Nat) (tf : Nat → Option Nat) (N : Nat) (xx : RS) (nn : RS) {res : Int32} (h : fX11_share N xx nn = some res) : gMi l E yX11_share cX11_share 3 .int 2 0 0 [.ref (ax 0)] (rX E ax an asx ay ap ar ai ah aj tf xx ++ (rW E an nn ++ [])) (rX E ax an asx ay ap ar ai ah aj tf xx ++ (rW E an nn ++ [])) res := by
  refine gMi_of (own := RX11) (by decide +kernel) rfl (Nat.le_of_ble_eq_true rfl) ?_
  intro p e s m args below meth c A ls Q H locs C hz hl hG hret
  have hx := C.1.1
  have hb := C.1.2.1
  have hts := C.1.2.2.2.2
  have hown := C.1.2.2.2.1
  have hl : lv_has ls 3 [(0, .ref (ax 0))] := hl
  replace hret : ∀ (r0 : Int32) (H : Heap) (locs : List Loc) (pc : Nat) (ls' : Array Slot), some r0 = some res → narrow .int (.int r0) = .int r0 → gG E A s.heap (rX E ax an asx ay ap ar ai ah aj tf xx ++ (rW E an nn ++ [])) H locs → decode cX11_share pc = .ok (.ireturn, 1) → W p l e (rmD 2 0 0) s m args below meth c H locs 0 0 Q (F0 m pc ls' [.int r0]) := by
    intro r0 H locs pc ls' e0 hn; cases e0; exact hret H locs pc ls' hn
  rw [fX11_share] at h
  refine lv_aload_n hx hb dX11_share_0 rfl (lv_at hl 0 rfl) ?_
  refine gL_f (v := .ref (an 0)) C hG kX11 0 0 rfl (by decide) rfl q539 rfl dX11_share_1 ?_
  refine gL_fN (v := .ref (an 1)) C hG kX10 2 0 rfl (by decide) rfl q354 rfl dX11_share_4 ?_
  refine lv_bipush (v := 7) hx hb dX11_share_7 (by decide) ?_
  refine gL_i (v := (nn 1 7)) C hG 3 rfl (vp_in_nI (n := 7) (by decide) (by decide)) (congrArg (nn 1) (nI_clamp (n := 7) (by decide))) dX11_share_9 ?_
  obtain ⟨x1_1, ex1_1, h⟩ := thn_some h
  refine g_int ex1_1 ?_
  refine lv_istore_n (lv' := [(1, .int x1_1), (0, .ref (ax 0))]) hx hb dX11_share_10 rfl hl (by decide) rfl (fun ls hl => ?_)
  refine lv_iload_n hx hb dX11_share_11 rfl (lv_at hl 0 rfl) ?_
  refine lv_if_ne (tgt := 17) hx hb dX11_share_12 (by decide) (fun c12 => ?_) (fun c12 => ?_)
  · replace h := ie c12 h
    refine lv_aload_n hx hb dX11_share_17 rfl (lv_at hl 1 rfl) ?_
    refine gL_f (v := .ref (an 0)) C hG kX11 0 0 rfl (by decide) rfl q539 rfl dX11_share_18 ?_
    refine gL_fN (v := .ref (an 1)) C hG kX10 2 0 rfl (by decide) rfl q354 rfl dX11_share_21 ?_
    refine lv_bipush (v := 8) hx hb dX11_share_24 (by decide) ?_
    refine gL_i (v := (nn 1 8)) C hG 3 rfl (vp_in_nI (n := 8) (by decide) (by decide)) (congrArg (nn 1) (nI_clamp (n := 8) (by decide))) dX11_share_26 ?_
    refine lv_i2f hx hb dX11_share_27 ?_
    refine lv_iload_n hx hb dX11_share_28 rfl (lv_at hl 0 rfl) ?_
    refine lv_i2f hx hb dX11_share_29 ?_
    obtain ⟨b2, h⟩ := ck_some h
    refine lv_fdiv hx hb dX11_share_30 (n32_n b2) ?_
    obtain ⟨x2_3, ex2_3, h⟩ := thn_some h
    refine g_float ex2_3 ?_
    refine lv_fstore_n (lv' := [(2, .float x2_3), (1, .int x1_1), (0, .ref (ax 0))]) hx hb dX11_share_31 rfl hl (by decide) rfl (fun ls hl => ?_)
    refine lv_fload_n hx hb dX11_share_32 rfl (lv_at hl 0 rfl) ?_
    obtain ⟨b4, h⟩ := ck_some h
    refine lv_f2d hx hb dX11_share_33 (n64_n b4) ?_
    refine lv_bipush (v := 23) hx hb dX11_share_34 (by decide) ?_
    refine lv_bipush (v := 127) hx hb dX11_share_36 (by decide) ?_
    obtain ⟨r5, hcr5, h⟩ := bnd_some h
    refine gF_l (ws' := (rX E ax an asx ay ap ar ai ah aj tf xx ++ (rW E an nn ++ []))) C hG pst pst.symm (gR_S (As := [.double (FP.f2d x2_3), .int 23, .int 127]) (rest := []) C hz hl.1 hG pst (c_X11_bitsOf l E N (FP.f2d x2_3) 23 127 hcr5 H.size) okX11_bitsOf q1303 rfl (Nat.le_of_ble_eq_true rfl) (by omega) ⟨Nat.le_refl _, Nat.le_refl _⟩ dX11_share_38) (fun H locs hG => ?_)
    refine lv_l2i hx hb dX11_share_41 rfl ?_
    exact hret _ _ _ _ _ h rfl hG dX11_share_42
  · replace h := it c12 h
    refine lv_iconst (v := 0) hx hb dX11_share_15 (by decide) ?_
    exact hret _ _ _ _ _ h rfl hG dX11_share_16
set_option maxHeartbeats 4000000 in
set_option maxRecDepth 100000 in
theorem c_X11_mean (l : Launch) (E : GE) (ax an asx ay ap ar ai : Nat → Nat) (ah aj : Nat → Nat → Nat) (tf : Nat → Option Nat) (N : Nat) (xx : RS) (nn : RS) {res : Int64} (h : fX11_mean N xx nn = some res) : gMl l E yX11_mean cX11_mean 2 2 0 0 [.ref (ax 0)] (rX E ax an asx ay ap ar ai ah aj tf xx ++ (rW E an nn ++ [])) (rX E ax an asx ay ap ar ai ah aj tf xx ++ (rW E an nn ++ [])) res := by
  refine gMl_of (own := RX11) (by decide +kernel) rfl (Nat.le_of_ble_eq_true rfl) ?_
  intro p e s m args below meth c A ls Q H locs C hz hl hG hret
  have hx := C.1.1
  have hb := C.1.2.1
  have hts := C.1.2.2.2.2
  have hown := C.1.2.2.2.1
  have hl : lv_has ls 2 [(0, .ref (ax 0))] := hl
  replace hret : ∀ (r0 : Int64) (H : Heap) (locs : List Loc) (pc : Nat) (ls' : Array Slot), some r0 = some res → gG E A s.heap (rX E ax an asx ay ap ar ai ah aj tf xx ++ (rW E an nn ++ [])) H locs → decode cX11_mean pc = .ok (.lreturn, 1) → W p l e (rmD 2 0 0) s m args below meth c H locs 0 0 Q (F0 m pc ls' [.long r0]) := by
    intro r0 H locs pc ls' e0; cases e0; exact hret H locs pc ls'
  rw [fX11_mean] at h
  refine lv_aload_n hx hb dX11_mean_0 rfl (lv_at hl 0 rfl) ?_
  refine gL_f (v := .ref (an 0)) C hG kX11 0 0 rfl (by decide) rfl q539 rfl dX11_mean_1 ?_
  refine gL_fN (v := .ref (an 1)) C hG kX10 2 0 rfl (by decide) rfl q354 rfl dX11_mean_4 ?_
  refine lv_bipush (v := 7) hx hb dX11_mean_7 (by decide) ?_
  refine gL_i (v := (nn 1 7)) C hG 3 rfl (vp_in_nI (n := 7) (by decide) (by decide)) (congrArg (nn 1) (nI_clamp (n := 7) (by decide))) dX11_mean_9 ?_
  obtain ⟨x1_1, ex1_1, h⟩ := thn_some h
  refine g_int ex1_1 ?_
  refine lv_istore_n (lv' := [(1, .int x1_1), (0, .ref (ax 0))]) hx hb dX11_mean_10 rfl hl (by decide) rfl (fun ls hl => ?_)
  refine lv_iload_n hx hb dX11_mean_11 rfl (lv_at hl 0 rfl) ?_
  refine lv_if_ne (tgt := 17) hx hb dX11_mean_12 (by decide) (fun c12 => ?_) (fun c12 => ?_)
  · replace h := ie c12 h
    refine lv_aload_n hx hb dX11_mean_17 rfl (lv_at hl 1 rfl) ?_
    refine gL_f (v := .ref (an 0)) C hG kX11 0 0 rfl (by decide) rfl q539 rfl dX11_mean_18 ?_
    refine gL_fN (v := .ref (an 1)) C hG kX10 2 0 rfl (by decide) rfl q354 rfl dX11_mean_21 ?_
    refine lv_iconst (v := 3) hx hb dX11_mean_24 (by decide) ?_
    refine gL_i (v := (nn 1 3)) C hG 3 rfl (vp_in_nI (n := 3) (by decide) (by decide)) (congrArg (nn 1) (nI_clamp (n := 3) (by decide))) dX11_mean_25 ?_
    refine lv_i2d hx hb dX11_mean_26 ?_
    refine lv_iload_n hx hb dX11_mean_27 rfl (lv_at hl 0 rfl) ?_
    refine lv_i2d hx hb dX11_mean_28 ?_
    obtain ⟨b2, h⟩ := ck_some h
    refine lv_ddiv hx hb dX11_mean_29 (n64_n b2) ?_
    refine lv_bipush (v := 52) hx hb dX11_mean_30 (by decide) ?_
    refine lv_sipush (v := 1023) hx hb dX11_mean_32 (by decide) ?_
    obtain ⟨r3, hcr3, h⟩ := bnd_some h
    refine gF_l (ws' := (rX E ax an asx ay ap ar ai ah aj tf xx ++ (rW E an nn ++ []))) C hG pst pst.symm (gR_S (As := [.double (FP.ddiv (FP.i2d (nn 1 3)) (FP.i2d x1_1)), .int 52, .int 1023]) (rest := []) C hz hl.1 hG pst (c_X11_bitsOf l E N (FP.ddiv (FP.i2d (nn 1 3)) (FP.i2d x1_1)) 52 1023 hcr3 H.size) okX11_bitsOf q1303 rfl (Nat.le_of_ble_eq_true rfl) (by omega) ⟨Nat.le_refl _, Nat.le_refl _⟩ dX11_mean_35) (fun H locs hG => ?_)
    exact hret _ _ _ _ _ h hG dX11_mean_38
  · replace h := it c12 h
    refine lv_lconst (v := 0) hx hb dX11_mean_15 (by decide) ?_
    exact hret _ _ _ _ _ h hG dX11_mean_16
set_option maxHeartbeats 4000000 in
set_option maxRecDepth 100000 in
theorem c_X11_book (l : Launch) (E : GE) (ax an asx ay ap ar ai : Nat → Nat) (ah aj : Nat → Nat → Nat) (tf : Nat → Option Nat) (N : Nat) (x1 : Int32) (x2 : Int32) (xx : RS) (nn : RS) {res : Int32} (h : fX11_book N x1 x2 xx nn = some res) : gMi l E yX11_book cX11_book 3 .int 2 0 0 [.ref (ax 0), .int x1, .int x2] (rX E ax an asx ay ap ar ai ah aj tf xx ++ (rW E an nn ++ [])) (rX E ax an asx ay ap ar ai ah aj tf xx ++ (rW E an nn ++ [])) res := by
  refine gMi_of (own := RX11) (by decide +kernel) rfl (Nat.le_of_ble_eq_true rfl) ?_
  intro p e s m args below meth c A ls Q H locs C hz hl hG hret
  have hx := C.1.1
  have hb := C.1.2.1
  have hts := C.1.2.2.2.2
  have hown := C.1.2.2.2.1
  have hl : lv_has ls 3 [(0, .ref (ax 0)), (1, .int x1), (2, .int x2)] := hl
  replace hret : ∀ (r0 : Int32) (H : Heap) (locs : List Loc) (pc : Nat) (ls' : Array Slot), some r0 = some res → narrow .int (.int r0) = .int r0 → gG E A s.heap (rX E ax an asx ay ap ar ai ah aj tf xx ++ (rW E an nn ++ [])) H locs → decode cX11_book pc = .ok (.ireturn, 1) → W p l e (rmD 2 0 0) s m args below meth c H locs 0 0 Q (F0 m pc ls' [.int r0]) := by
    intro r0 H locs pc ls' e0 hn; cases e0; exact hret H locs pc ls' hn
  rw [fX11_book] at h
  refine lv_aload_n hx hb dX11_book_0 rfl (lv_at hl 0 rfl) ?_
  refine gL_f (v := .ref (an 0)) C hG kX11 0 0 rfl (by decide) rfl q539 rfl dX11_book_1 ?_
  refine gL_fN (v := .ref (an 28)) C hG kX10 2 5 rfl (by decide) rfl q366 rfl dX11_book_4 ?_
  refine lv_iload_n hx hb dX11_book_7 rfl (lv_at hl 1 rfl) ?_
  refine lv_iload_n hx hb dX11_book_8 rfl (lv_at hl 2 rfl) ?_
  obtain ⟨r1, hcr1, h⟩ := bnd_some h
  refine gF_i (ws' := (rX E ax an asx ay ap ar ai ah aj tf xx ++ (rW E an nn ++ []))) C hG (pout (pin pnil)) (List.Perm.symm (pout (pin pnil))) (gR_N (As := [.int x1, .int x2]) (rest := []) C hz hl.1 hG (pout (pin pnil)) (c_X0_detail l E an N x1 x2 nn hcr1 H.size) okX0_detail q1315 28 rfl rfl rfl (Nat.le_of_ble_eq_true rfl) (by omega) ⟨Nat.le_refl _, Nat.le_refl _⟩ dX11_book_9) (fun H locs _ hG => ?_)
  exact hret _ _ _ _ _ h rfl hG dX11_book_12
set_option maxHeartbeats 4000000 in
set_option maxRecDepth 100000 in
theorem c_X11_ledger (l : Launch) (E : GE) (ax an asx ay ap ar ai : Nat → Nat) (ah aj : Nat → Nat → Nat) (tf : Nat → Option Nat) (N : Nat) (x1 : Int32) (xx : RS) (nn : RS) {res : Int32} (h : fX11_ledger N x1 xx nn = some res) : gMi l E yX11_ledger cX11_ledger 2 .int 2 0 0 [.ref (ax 0), .int x1] (rX E ax an asx ay ap ar ai ah aj tf xx ++ (rW E an nn ++ [])) (rX E ax an asx ay ap ar ai ah aj tf xx ++ (rW E an nn ++ [])) res := by
  refine gMi_of (own := RX11) (by decide +kernel) rfl (Nat.le_of_ble_eq_true rfl) ?_
  intro p e s m args below meth c A ls Q H locs C hz hl hG hret
  have hx := C.1.1
  have hb := C.1.2.1
  have hts := C.1.2.2.2.2
  have hown := C.1.2.2.2.1
  have hl : lv_has ls 2 [(0, .ref (ax 0)), (1, .int x1)] := hl
  replace hret : ∀ (r0 : Int32) (H : Heap) (locs : List Loc) (pc : Nat) (ls' : Array Slot), some r0 = some res → narrow .int (.int r0) = .int r0 → gG E A s.heap (rX E ax an asx ay ap ar ai ah aj tf xx ++ (rW E an nn ++ [])) H locs → decode cX11_ledger pc = .ok (.ireturn, 1) → W p l e (rmD 2 0 0) s m args below meth c H locs 0 0 Q (F0 m pc ls' [.int r0]) := by
    intro r0 H locs pc ls' e0 hn; cases e0; exact hret H locs pc ls' hn
  rw [fX11_ledger] at h
  refine lv_iload_n hx hb dX11_ledger_0 rfl (lv_at hl 1 rfl) ?_
  refine lv_if_lt (tgt := 24) hx hb dX11_ledger_1 (by decide) (fun c1 => ?_) (fun c1 => ?_)
  · replace h := it c1 h
    refine lv_iconst (v := (-1)) hx hb dX11_ledger_24 (by decide) ?_
    exact hret _ _ _ _ _ h rfl hG dX11_ledger_25
  · replace h := ie c1 h
    refine lv_iload_n hx hb dX11_ledger_4 rfl (lv_at hl 1 rfl) ?_
    refine lv_bipush (v := 6) hx hb dX11_ledger_5 (by decide) ?_
    refine lv_icmp_ge (tgt := 24) hx hb dX11_ledger_7 (by decide) (fun c7 => ?_) (fun c7 => ?_)
    · replace h := it c7 h
      refine lv_iconst (v := (-1)) hx hb dX11_ledger_24 (by decide) ?_
      exact hret _ _ _ _ _ h rfl hG dX11_ledger_25
    · replace h := ie c7 h
      refine lv_aload_n hx hb dX11_ledger_10 rfl (lv_at hl 0 rfl) ?_
      refine gL_f (v := .ref (an 0)) C hG kX11 0 0 rfl (by decide) rfl q539 rfl dX11_ledger_11 ?_
      refine gL_fN (v := .ref (an 28)) C hG kX10 2 5 rfl (by decide) rfl q366 rfl dX11_ledger_14 ?_
      refine lv_iload_n hx hb dX11_ledger_17 rfl (lv_at hl 1 rfl) ?_
      obtain ⟨r1, hcr1, h⟩ := bnd_some h
      refine gF_i (ws' := (rX E ax an asx ay ap ar ai ah aj tf xx ++ (rW E an nn ++ []))) C hG (pout (pin pnil)) (List.Perm.symm (pout (pin pnil))) (gR_N (As := [.int x1]) (rest := []) C hz hl.1 hG (pout (pin pnil)) (c_X0_linesOf l E an N x1 nn hcr1 H.size) okX0_linesOf q1323 28 rfl rfl rfl (Nat.le_of_ble_eq_true rfl) (by omega) ⟨Nat.le_refl _, Nat.le_refl _⟩ dX11_ledger_18) (fun H locs _ hG => ?_)
      refine lv_goto (tgt := 25) hx hb dX11_ledger_21 (by decide) ?_
      exact hret _ _ _ _ _ h rfl hG dX11_ledger_25
set_option maxHeartbeats 4000000 in
set_option maxRecDepth 100000 in
theorem c_X4_copyFrom (l : Launch) (E : GE) (ah : Nat → Nat → Nat) (aj : Nat → Nat → Nat) (N : Nat) (hh : HS) (jj : HS) {res : HS} (h : fX4_copyFrom N hh jj = some res) : gMv l E yX4_copyFrom cX4_copyFrom 3 3 0 0 [.ref (ah 0 0), .ref (aj 0 0)] (rH E ah hh ++ (rH E aj jj ++ [])) (rH E ah res ++ (rH E aj jj ++ [])) := by
  refine gMv_of (own := RX4) (by decide +kernel) rfl (Nat.le_of_ble_eq_true rfl) ?_
  intro p e s m args below meth c A ls Q H locs C hz hl hG hin hret
  have hx := C.1.1
  have hb := C.1.2.1
  have hts := C.1.2.2.2.2
  have hown := C.1.2.2.2.1
  have hl : lv_has ls 3 [(0, .ref (ah 0 0)), (1, .ref (aj 0 0))] := hl
  replace hret : ∀ (hh0 : HS) (H : Heap) (locs : List Loc) (pc : Nat) (ls' : Array Slot), some hh0 = some res → gG E A s.heap (rH E ah hh0 ++ (rH E aj jj ++ [])) H locs → decode cX4_copyFrom pc = .ok (.return_, 1) → W p l e (rmD 3 0 0) s m args below meth c H locs 0 0 Q (F0 m pc ls' []) := by
    intro hh0 H locs pc ls' e0; cases e0; exact hret H locs pc ls'
  have K15 : ∀ (k : Nat), ∀  (x2 : Int32) (hh : HS) (H : Heap) (locs : List Loc) (ls : Array Slot), gG E A s.heap (rH E ah hh ++ (rH E aj jj ++ [])) H locs → lv_has ls 3 [(0, .ref (ah 0 0)), (1, .ref (aj 0 0)), (2, .int x2)] → fX4_copyFrom_L15 N jj k x2 hh = some res → W p l e (rmD 3 0 0) s m args below meth c H locs 0 0 Q (F0 m 15 ls []) := by
    intro k
    induction k with
    | zero => intro x2 hh H locs ls hG hl h; exact absurd (show none = _ from h) (by simp)
    | succ k ih =>
      intro x2 hh H locs ls hG hl h
      rw [fX4_copyFrom_L15] at h
      refine lv_iload_n hx hb dX4_copyFrom_15 rfl (lv_at hl 2 rfl) ?_
      refine lv_aload_n hx hb dX4_copyFrom_16 rfl (lv_at hl 0 rfl) ?_
      refine gL_f (v := .int (hh 0 0 2)) C hG kX4 0 2 rfl (by decide) rfl q391 rfl dX4_copyFrom_17 ?_
      refine lv_icmp_ge (tgt := 52) hx hb dX4_copyFrom_20 (by decide) (fun c20 => ?_) (fun c20 => ?_)
      · replace h := it c20 h
        exact hret _ _ _ _ _ h hG dX4_copyFrom_52
      · replace h := ie c20 h
        refine lv_aload_n hx hb dX4_copyFrom_23 rfl (lv_at hl 0 rfl) ?_
        refine gL_f (v := .ref (ah 0 1)) C hG kX4 0 0 rfl (by decide) rfl q389 rfl dX4_copyFrom_24 ?_
        refine lv_iload_n hx hb dX4_copyFrom_27 rfl (lv_at hl 2 rfl) ?_
        obtain ⟨b1, h⟩ := ck_some h
        refine va_aldq hx hb C.2.1 hG.1 1 3 rfl rfl (inb_in b1) dX4_copyFrom_28 ?_
        refine g_ref (v := .ref (ah (x2.toNatClampNeg + 1) 0)) rfl ?_
        refine lv_aload_n hx hb dX4_copyFrom_29 rfl (lv_at hl 1 rfl) ?_
        obtain ⟨kq2, hkq2⟩ := List.getElem?_of_mem (l := (rH E ah hh ++ (rH E aj jj ++ []))) (a := ((aj 0 0, .inr (4, [.ref (aj 0 1), .int (jj 0 0 1), .int (jj 0 0 2)])) : Nat × va_E)) (List.mem_append_right _ (List.mem_append_left _ List.mem_cons_self))
        refine gL_f (v := .ref (aj 0 1)) C hG kX4 kq2 0 hkq2 (by decide) rfl q389 rfl dX4_copyFrom_30 ?_
        refine lv_aload_n hx hb dX4_copyFrom_33 rfl (lv_at hl 1 rfl) ?_
        obtain ⟨kq3, hkq3⟩ := List.getElem?_of_mem (l := (rH E ah hh ++ (rH E aj jj ++ []))) (a := ((aj 0 0, .inr (4, [.ref (aj 0 1), .int (jj 0 0 1), .int (jj 0 0 2)])) : Nat × va_E)) (List.mem_append_right _ (List.mem_append_left _ List.mem_cons_self))
        refine gL_f (v := .int (jj 0 0 1)) C hG kX4 kq3 1 hkq3 (by decide) rfl q390 rfl dX4_copyFrom_34 ?_
        refine lv_iload_n hx hb dX4_copyFrom_37 rfl (lv_at hl 2 rfl) ?_
        refine lv_iadd hx hb dX4_copyFrom_38 ?_
        refine lv_bipush (v := 30) hx hb dX4_copyFrom_39 (by decide) ?_
        refine lv_irem hx hb dX4_copyFrom_41 (by decide) ?_
        refine g_int (v := (irem ((jj 0 0 1) + x2) 30)) rfl ?_
        obtain ⟨b4, h⟩ := ck_some h
        obtain ⟨kq5, hkq5⟩ := List.getElem?_of_mem (l := (rH E ah hh ++ (rH E aj jj ++ []))) (a := ((aj 0 1, .inl (E.2.1 3, 30, .inr (.inr (.inr (.inr (fun i => some (aj (i + 1) 0))))))) : Nat × va_E)) (List.mem_append_right _ (List.mem_append_left _ (List.mem_cons_of_mem _ List.mem_cons_self)))
        refine va_aldq hx hb C.2.1 hG.1 kq5 3 hkq5 rfl (inb_in b4) dX4_copyFrom_42 ?_
        refine g_ref (v := .ref (aj ((irem ((jj 0 0 1) + x2) 30).toNatClampNeg + 1) 0)) rfl ?_
        obtain ⟨r6, hcr6, h⟩ := thn_some h
        obtain ⟨hh_7, ehh_7, h⟩ := thn_some h
        refine gF_v (ws' := (rH E ah hh_7 ++ (rH E aj jj ++ []))) C hG (ph3 (inb_lt b1) (inb_lt b4)) (by rw [ehh_7]; exact ph3b (inb_lt b1) (inb_lt b4)) (gR_N (As := [.ref (aj ((irem ((jj 0 0 1) + x2) 30).toNatClampNeg + 1) 0)]) (rest := []) C hz hl.1 hG (ph3 (inb_lt b1) (inb_lt b4)) (c_X10_copyFrom l E (ah (x2.toNatClampNeg + 1)) (aj ((irem ((jj 0 0 1) + x2) 30).toNatClampNeg + 1)) (hh (x2.toNatClampNeg + 1)) (jj ((irem ((jj 0 0 1) + x2) 30).toNatClampNeg + 1)) hcr6.symm H.size) okX10_copyFrom q773 0 rfl rfl rfl (Nat.le_of_ble_eq_true rfl) (by omega) ⟨Nat.le_refl _, Nat.le_refl _⟩ dX4_copyFrom_43) (fun H locs hG => ?_)
        refine lv_iinc (v := (x2 + 1)) (lv' := [(2, .int (x2 + 1)), (0, .ref (ah 0 0)), (1, .ref (aj 0 0))]) hx hb dX4_copyFrom_46 hl (k := 2) rfl (congrArg (x2 + ·) (by decide : Int32.ofInt 1 = 1)) (by decide) rfl (fun ls hl => ?_)
        refine lv_goto (tgt := 15) hx hb dX4_copyFrom_49 (by decide) ?_
        exact ih (x2 + 1) hh_7 _ _ _ hG (lv_sub hl [1, 2, 0] rfl) h
  rw [fX4_copyFrom] at h
  refine lv_aload_n hx hb dX4_copyFrom_0 rfl (lv_at hl 0 rfl) ?_
  refine lv_aload_n hx hb dX4_copyFrom_1 rfl (lv_at hl 1 rfl) ?_
  obtain ⟨kq1, hkq1⟩ := List.getElem?_of_mem (l := (rH E ah hh ++ (rH E aj jj ++ []))) (a := ((aj 0 0, .inr (4, [.ref (aj 0 1), .int (jj 0 0 1), .int (jj 0 0 2)])) : Nat × va_E)) (List.mem_append_right _ (List.mem_append_left _ List.mem_cons_self))
  refine gL_f (v := .int (jj 0 0 2)) C hG kX4 kq1 2 hkq1 (by decide) rfl q391 rfl dX4_copyFrom_2 ?_
  obtain ⟨hh_2, ehh_2, h⟩ := thn_some h
  refine gS_f (v := .int (jj 0 0 2)) (ws' := (rH E ah hh_2 ++ (rH E aj jj ++ []))) C hG kX4 0 2 rfl (by decide) q391 rfl rfl rfl rfl (by show 2 < 3; decide) dX4_copyFrom_5 (by rw [ehh_2]; rfl) (fun H locs hG => ?_)
  refine lv_aload_n hx hb dX4_copyFrom_8 rfl (lv_at hl 0 rfl) ?_
  refine lv_iconst (v := 0) hx hb dX4_copyFrom_9 (by decide) ?_
  obtain ⟨hh_3, ehh_3, h⟩ := thn_some h
  refine gS_f (v := .int 0) (ws' := (rH E ah hh_3 ++ (rH E aj jj ++ []))) C hG kX4 0 1 rfl (by decide) q390 rfl rfl rfl rfl (by show 1 < 3; decide) dX4_copyFrom_10 (by rw [ehh_3]; rfl) (fun H locs hG => ?_)
  refine lv_iconst (v := 0) hx hb dX4_copyFrom_13 (by decide) ?_
  refine lv_istore_n (lv' := [(2, .int 0), (0, .ref (ah 0 0)), (1, .ref (aj 0 0))]) hx hb dX4_copyFrom_14 rfl hl (by decide) rfl (fun ls hl => ?_)
  exact K15 N 0 hh_3 _ _ _ hG (lv_sub hl [1, 2, 0] rfl) h
set_option maxHeartbeats 4000000 in
set_option maxRecDepth 100000 in
theorem c_X11_image (l : Launch) (E : GE) (ax an asx ay ap ar ai : Nat → Nat) (ah aj : Nat → Nat → Nat) (tf : Nat → Option Nat) (N : Nat) (xx : RS) (nn : RS) (ii : RS) (hh : HS) (jj : HS) {res : Int32 × RS × RS × HS} (h : fX11_image N xx nn ii hh jj = some res) : gMi l E yX11_image cX11_image 1 .int 4 0 0 [.ref (ax 0)] (rX E ax an asx ay ap ar ai ah aj tf xx ++ (rW E an nn ++ (rW E ai ii ++ (rH E ah hh ++ (rH E aj jj ++ []))))) (rX E ax an asx ay ap ar ai ah aj tf res.2.1 ++ (rW E an nn ++ (rW E ai res.2.2.1 ++ (rH E ah hh ++ (rH E aj res.2.2.2 ++ []))))) res.1 := by
  refine gMi_of (own := RX11) (by decide +kernel) rfl (Nat.le_of_ble_eq_true rfl) ?_
  intro p e s m args below meth c A ls Q H locs C hz hl hG hret
  have hx := C.1.1
  have hb := C.1.2.1
  have hts := C.1.2.2.2.2
  have hown := C.1.2.2.2.1
  have hl : lv_has ls 1 [(0, .ref (ax 0))] := hl
  replace hret : ∀ (r0 : Int32) (xx0 : RS) (ii0 : RS) (jj0 : HS) (H : Heap) (locs : List Loc) (pc : Nat) (ls' : Array Slot), some (r0, xx0, ii0, jj0) = some res → narrow .int (.int r0) = .int r0 → gG E A s.heap (rX E ax an asx ay ap ar ai ah aj tf xx0 ++ (rW E an nn ++ (rW E ai ii0 ++ (rH E ah hh ++ (rH E aj jj0 ++ []))))) H locs → decode cX11_image pc = .ok (.ireturn, 1) → W p l e (rmD 4 0 0) s m args below meth c H locs 0 0 Q (F0 m pc ls' [.int r0]) := by
    intro r0 xx0 ii0 jj0 H locs pc ls' e0 hn; cases e0; exact hret H locs pc ls' hn
  rw [fX11_image] at h
  refine lv_aload_n hx hb dX11_image_0 rfl (lv_at hl 0 rfl) ?_
  refine gL_f (v := .ref (ai 0)) C hG kX11 0 8 rfl (by decide) rfl q547 rfl dX11_image_1 ?_
  refine lv_aload_n hx hb dX11_image_4 rfl (lv_at hl 0 rfl) ?_
  refine gL_f (v := .ref (an 0)) C hG kX11 0 0 rfl (by decide) rfl q539 rfl dX11_image_5 ?_
  obtain ⟨r1, hcr1, h⟩ := thn_some h
  refine gF_v (ws' := (rX E ax an asx ay ap ar ai ah aj tf xx ++ (rW E an nn ++ (rW E ai r1 ++ (rH E ah hh ++ (rH E aj jj ++ [])))))) C hG (pcons (pnext (pnext (pfst))) (pcons (pnext (pfst)) pst)) (List.Perm.symm (pcons (pnext (pnext (pfst))) (pcons (pnext (pfst)) pst))) (gR_N (As := [.ref (an 0)]) (rest := []) C hz hl.1 hG (pcons (pnext (pnext (pfst))) (pcons (pnext (pfst)) pst)) (c_X10_copyFrom l E ai an ii nn hcr1.symm H.size) okX10_copyFrom q1260 0 rfl rfl rfl (Nat.le_of_ble_eq_true rfl) (by omega) ⟨Nat.le_refl _, Nat.le_refl _⟩ dX11_image_8) (fun H locs hG => ?_)
  refine lv_aload_n hx hb dX11_image_11 rfl (lv_at hl 0 rfl) ?_
  refine gL_f (v := .ref (aj 0 0)) C hG kX11 0 9 rfl (by decide) rfl q548 rfl dX11_image_12 ?_
  refine lv_aload_n hx hb dX11_image_15 rfl (lv_at hl 0 rfl) ?_
  refine gL_f (v := .ref (ah 0 0)) C hG kX11 0 2 rfl (by decide) rfl q541 rfl dX11_image_16 ?_
  obtain ⟨r2, hcr2, h⟩ := bnd_some h
  refine gF_v (ws' := (rX E ax an asx ay ap ar ai ah aj tf xx ++ (rW E an nn ++ (rW E ai r1 ++ (rH E ah hh ++ (rH E aj r2 ++ [])))))) C hG (pcons (pnext (pnext (pnext (pnext (pfst))))) (pcons (pnext (pnext (pnext (pfst)))) pst)) (List.Perm.symm (pcons (pnext (pnext (pnext (pnext (pfst))))) (pcons (pnext (pnext (pnext (pfst)))) pst))) (gR_N (As := [.ref (ah 0 0)]) (rest := []) C hz hl.1 hG (pcons (pnext (pnext (pnext (pnext (pfst))))) (pcons (pnext (pnext (pnext (pfst)))) pst)) (c_X4_copyFrom l E aj ah N jj hh hcr2 H.size) okX4_copyFrom q1331 0 rfl rfl rfl (Nat.le_of_ble_eq_true rfl) (by omega) ⟨Nat.le_refl _, Nat.le_refl _⟩ dX11_image_19) (fun H locs hG => ?_)
  refine lv_aload_n hx hb dX11_image_22 rfl (lv_at hl 0 rfl) ?_
  refine lv_aload_n hx hb dX11_image_23 rfl (lv_at hl 0 rfl) ?_
  refine gL_f (v := .int (xx 0 7)) C hG kX11 0 7 rfl (by decide) rfl q546 rfl dX11_image_24 ?_
  obtain ⟨xx_3, exx_3, h⟩ := thn_some h
  refine gS_f (v := .int (xx 0 7)) (ws' := (rX E ax an asx ay ap ar ai ah aj tf xx_3 ++ (rW E an nn ++ (rW E ai r1 ++ (rH E ah hh ++ (rH E aj r2 ++ [])))))) C hG kX11 0 10 rfl (by decide) q549 rfl rfl rfl rfl (by show 10 < 11; decide) dX11_image_27 (by rw [exx_3]; rfl) (fun H locs hG => ?_)
  refine lv_aload_n hx hb dX11_image_30 rfl (lv_at hl 0 rfl) ?_
  refine gL_f (v := .ref (an 0)) C hG kX11 0 0 rfl (by decide) rfl q539 rfl dX11_image_31 ?_
  refine gL_fN (v := .ref (an 1)) C hG kX10 2 0 rfl (by decide) rfl q354 rfl dX11_image_34 ?_
  refine lv_iconst (v := 0) hx hb dX11_image_37 (by decide) ?_
  refine gL_i (v := (nn 1 0)) C hG 3 rfl (vp_in_nI (n := 0) (by decide) (by decide)) (congrArg (nn 1) (nI_clamp (n := 0) (by decide))) dX11_image_38 ?_
  exact hret _ _ _ _ _ _ _ _ h rfl hG dX11_image_39
set_option maxHeartbeats 4000000 in
set_option maxRecDepth 100000 in
theorem c_X11_back (l : Launch) (E : GE) (ax an asx ay ap ar ai : Nat → Nat) (ah aj : Nat → Nat → Nat) (tf : Nat → Option Nat) (N : Nat) (xx : RS) (nn : RS) (ii : RS) (hh : HS) (jj : HS) {res : Int32 × RS × RS × HS} (h : fX11_back N xx nn ii hh jj = some res) : gMi l E yX11_back cX11_back 1 .int 4 0 0 [.ref (ax 0)] (rX E ax an asx ay ap ar ai ah aj tf xx ++ (rW E an nn ++ (rW E ai ii ++ (rH E ah hh ++ (rH E aj jj ++ []))))) (rX E ax an asx ay ap ar ai ah aj tf res.2.1 ++ (rW E an res.2.2.1 ++ (rW E ai ii ++ (rH E ah res.2.2.2 ++ (rH E aj jj ++ []))))) res.1 := by
  refine gMi_of (own := RX11) (by decide +kernel) rfl (Nat.le_of_ble_eq_true rfl) ?_
  intro p e s m args below meth c A ls Q H locs C hz hl hG hret
  have hx := C.1.1
  have hb := C.1.2.1
  have hts := C.1.2.2.2.2
  have hown := C.1.2.2.2.1
  have hl : lv_has ls 1 [(0, .ref (ax 0))] := hl
  replace hret : ∀ (r0 : Int32) (xx0 : RS) (nn0 : RS) (hh0 : HS) (H : Heap) (locs : List Loc) (pc : Nat) (ls' : Array Slot), some (r0, xx0, nn0, hh0) = some res → narrow .int (.int r0) = .int r0 → gG E A s.heap (rX E ax an asx ay ap ar ai ah aj tf xx0 ++ (rW E an nn0 ++ (rW E ai ii ++ (rH E ah hh0 ++ (rH E aj jj ++ []))))) H locs → decode cX11_back pc = .ok (.ireturn, 1) → W p l e (rmD 4 0 0) s m args below meth c H locs 0 0 Q (F0 m pc ls' [.int r0]) := by
    intro r0 xx0 nn0 hh0 H locs pc ls' e0 hn; cases e0; exact hret H locs pc ls' hn
  rw [fX11_back] at h
  refine lv_aload_n hx hb dX11_back_0 rfl (lv_at hl 0 rfl) ?_
  refine gL_f (v := .ref (an 0)) C hG kX11 0 0 rfl (by decide) rfl q539 rfl dX11_back_1 ?_
  refine lv_aload_n hx hb dX11_back_4 rfl (lv_at hl 0 rfl) ?_
  refine gL_f (v := .ref (ai 0)) C hG kX11 0 8 rfl (by decide) rfl q547 rfl dX11_back_5 ?_
  obtain ⟨r1, hcr1, h⟩ := thn_some h
  refine gF_v (ws' := (rX E ax an asx ay ap ar ai ah aj tf xx ++ (rW E an r1 ++ (rW E ai ii ++ (rH E ah hh ++ (rH E aj jj ++ [])))))) C hG (pout (pin (pin (pout (pout pnil))))) (List.Perm.symm (pout (pin (pin (pout (pout pnil)))))) (gR_N (As := [.ref (ai 0)]) (rest := []) C hz hl.1 hG (pout (pin (pin (pout (pout pnil))))) (c_X10_copyFrom l E an ai nn ii hcr1.symm H.size) okX10_copyFrom q1260 0 rfl rfl rfl (Nat.le_of_ble_eq_true rfl) (by omega) ⟨Nat.le_refl _, Nat.le_refl _⟩ dX11_back_8) (fun H locs hG => ?_)
  refine lv_aload_n hx hb dX11_back_11 rfl (lv_at hl 0 rfl) ?_
  refine gL_f (v := .ref (ah 0 0)) C hG kX11 0 2 rfl (by decide) rfl q541 rfl dX11_back_12 ?_
  refine lv_aload_n hx hb dX11_back_15 rfl (lv_at hl 0 rfl) ?_
  refine gL_f (v := .ref (aj 0 0)) C hG kX11 0 9 rfl (by decide) rfl q548 rfl dX11_back_16 ?_
  obtain ⟨r2, hcr2, h⟩ := bnd_some h
  refine gF_v (ws' := (rX E ax an asx ay ap ar ai ah aj tf xx ++ (rW E an r1 ++ (rW E ai ii ++ (rH E ah r2 ++ (rH E aj jj ++ [])))))) C hG (pout (pout (pout (pin (pin pnil))))) (List.Perm.symm (pout (pout (pout (pin (pin pnil)))))) (gR_N (As := [.ref (aj 0 0)]) (rest := []) C hz hl.1 hG (pout (pout (pout (pin (pin pnil))))) (c_X4_copyFrom l E ah aj N hh jj hcr2 H.size) okX4_copyFrom q1331 0 rfl rfl rfl (Nat.le_of_ble_eq_true rfl) (by omega) ⟨Nat.le_refl _, Nat.le_refl _⟩ dX11_back_19) (fun H locs hG => ?_)
  refine lv_aload_n hx hb dX11_back_22 rfl (lv_at hl 0 rfl) ?_
  refine lv_aload_n hx hb dX11_back_23 rfl (lv_at hl 0 rfl) ?_
  refine gL_f (v := .int (xx 0 10)) C hG kX11 0 10 rfl (by decide) rfl q549 rfl dX11_back_24 ?_
  obtain ⟨xx_3, exx_3, h⟩ := thn_some h
  refine gS_f (v := .int (xx 0 10)) (ws' := (rX E ax an asx ay ap ar ai ah aj tf xx_3 ++ (rW E an r1 ++ (rW E ai ii ++ (rH E ah r2 ++ (rH E aj jj ++ [])))))) C hG kX11 0 7 rfl (by decide) q546 rfl rfl rfl rfl (by show 7 < 11; decide) dX11_back_27 (by rw [exx_3]; rfl) (fun H locs hG => ?_)
  refine lv_aload_n hx hb dX11_back_30 rfl (lv_at hl 0 rfl) ?_
  refine gL_f (v := .ref (an 0)) C hG kX11 0 0 rfl (by decide) rfl q539 rfl dX11_back_31 ?_
  refine gL_fN (v := .ref (an 1)) C hG kX10 2 0 rfl (by decide) rfl q354 rfl dX11_back_34 ?_
  refine lv_iconst (v := 0) hx hb dX11_back_37 (by decide) ?_
  refine gL_i (v := (r1 1 0)) C hG 3 rfl (vp_in_nI (n := 0) (by decide) (by decide)) (congrArg (r1 1) (nI_clamp (n := 0) (by decide))) dX11_back_38 ?_
  exact hret _ _ _ _ _ _ _ _ h rfl hG dX11_back_39
set_option maxHeartbeats 4000000 in
set_option maxRecDepth 100000 in
theorem c_X11_about (l : Launch) (E : GE) (ax an asx ay ap ar ai : Nat → Nat) (ah aj : Nat → Nat → Nat) (tf : Nat → Option Nat) (x1 : Int32) (xx : RS) (rr : RS) (hh : HS) {res : Int32} (h : fX11_about x1 xx rr hh = res) : gMi l E yX11_about cX11_about 2 .int 1 0 0 [.ref (ax 0), .int x1] (rX E ax an asx ay ap ar ai ah aj tf xx ++ (rR E ar rr ++ (rH E ah hh ++ []))) (rX E ax an asx ay ap ar ai ah aj tf xx ++ (rR E ar rr ++ (rH E ah hh ++ []))) res := by
  refine gMi_of (own := RX11) (by decide +kernel) rfl (Nat.le_of_ble_eq_true rfl) ?_
  intro p e s m args below meth c A ls Q H locs C hz hl hG hret
  have hx := C.1.1
  have hb := C.1.2.1
  have hts := C.1.2.2.2.2
  have hown := C.1.2.2.2.1
  have hl : lv_has ls 2 [(0, .ref (ax 0)), (1, .int x1)] := hl
  replace hret : ∀ (r0 : Int32) (H : Heap) (locs : List Loc) (pc : Nat) (ls' : Array Slot), r0 = res → narrow .int (.int r0) = .int r0 → gG E A s.heap (rX E ax an asx ay ap ar ai ah aj tf xx ++ (rR E ar rr ++ (rH E ah hh ++ []))) H locs → decode cX11_about pc = .ok (.ireturn, 1) → W p l e (rmD 1 0 0) s m args below meth c H locs 0 0 Q (F0 m pc ls' [.int r0]) := by
    intro r0 H locs pc ls' e0 hn; cases e0; exact hret H locs pc ls' hn
  rw [fX11_about] at h
  refine lv_iload_n hx hb dX11_about_0 rfl (lv_at hl 1 rfl) ?_
  by_cases w1_0 : x1 = 0
  · replace h := it w1_0 h
    refine lv_tableIn (tgt := 28) hx hb dX11_about_1 (by rw [w1_0]; decide) (by rw [w1_0]; decide) (off := 27) (by rw [w1_0]; decide) (by decide) ?_
    refine lv_aload_n hx hb dX11_about_28 rfl (lv_at hl 0 rfl) ?_
    refine gL_f (v := .int (xx 0 7)) C hG kX11 0 7 rfl (by decide) rfl q546 rfl dX11_about_29 ?_
    exact hret _ _ _ _ _ h rfl hG dX11_about_32
  · replace h := ie w1_0 h
    by_cases w1_1 : x1 = 1
    · replace h := it w1_1 h
      refine lv_tableIn (tgt := 33) hx hb dX11_about_1 (by rw [w1_1]; decide) (by rw [w1_1]; decide) (off := 32) (by rw [w1_1]; decide) (by decide) ?_
      refine lv_aload_n hx hb dX11_about_33 rfl (lv_at hl 0 rfl) ?_
      refine gL_f (v := .ref (ah 0 0)) C hG kX11 0 2 rfl (by decide) rfl q541 rfl dX11_about_34 ?_
      refine gL_fN (v := .int (hh 0 0 2)) C hG kX4 9 2 rfl (by decide) rfl q392 rfl dX11_about_37 ?_
      exact hret _ _ _ _ _ h rfl hG dX11_about_40
    · replace h := ie w1_1 h
      by_cases w1_2 : x1 = 2
      · replace h := it w1_2 h
        refine lv_tableIn (tgt := 41) hx hb dX11_about_1 (by rw [w1_2]; decide) (by rw [w1_2]; decide) (off := 40) (by rw [w1_2]; decide) (by decide) ?_
        refine lv_aload_n hx hb dX11_about_41 rfl (lv_at hl 0 rfl) ?_
        refine gL_f (v := .ref (ar 0)) C hG kX11 0 5 rfl (by decide) rfl q544 rfl dX11_about_42 ?_
        refine gL_fN (v := .int (rr 0 1)) C hG kX8 2 1 rfl (by decide) rfl q493 rfl dX11_about_45 ?_
        exact hret _ _ _ _ _ h rfl hG dX11_about_48
      · replace h := ie w1_2 h
        refine lv_tableOut (tgt := 49) hx hb dX11_about_1 (g_swo x1 0 2 [0, 1, 2] (by decide +kernel) (List.forall_mem_cons.mpr ⟨w1_0, List.forall_mem_cons.mpr ⟨w1_1, List.forall_mem_cons.mpr ⟨w1_2, fun _ q9 => absurd q9 List.not_mem_nil⟩⟩⟩)) (by decide) ?_
        refine lv_bipush (v := (-2)) hx hb dX11_about_49 (by decide) ?_
        exact hret _ _ _ _ _ h rfl hG dX11_about_51
