/-! HEADS -/
theorem rws_1 {o s : Nat} {f a : Nat → Int32} : rws 1 o s f a ↔ a o = f 0 := by
  constructor
  · intro h
    exact h 0 (by omega)
  · intro h i hi
    have e : i = 0 := by omega
    subst e
    exact h
theorem rws_2 {o s : Nat} {f a : Nat → Int32} : rws 2 o s f a ↔ a o = f 0 ∧ a (o + s) = f 1 := ⟨fun h => ⟨h 0 (by omega), by have := h 1 (by omega); rwa [Nat.mul_one] at this⟩, fun h i hi => by
  rcases (by omega : i = 0 ∨ i = 1) with rfl | rfl
  · exact h.1
  · rw [Nat.mul_one]; exact h.2⟩
theorem rws_3 {o s : Nat} {f a : Nat → Int32} : rws 3 o s f a ↔ a o = f 0 ∧ a (o + s) = f 1 ∧ a (o + s * 2) = f 2 := ⟨fun h => ⟨h 0 (by omega), by have := h 1 (by omega); rwa [Nat.mul_one] at this, h 2 (by omega)⟩, fun h i hi => by
  rcases (by omega : i = 0 ∨ i = 1 ∨ i = 2) with rfl | rfl | rfl
  · exact h.1
  · rw [Nat.mul_one]; exact h.2.1
  · exact h.2.2⟩
theorem dis_1 {f : Nat → Int32} : ∀ i, i < 1 → ∀ j, j < 1 → f i = f j → i = j := fun i hi j hj _ => by omega
theorem dis_2 {f : Nat → Int32} (h : ¬ f 0 = f 1) : ∀ i, i < 2 → ∀ j, j < 2 → f i = f j → i = j := fun i hi j hj e => by
  rcases (by omega : i = 0 ∨ i = 1) with rfl | rfl <;> rcases (by omega : j = 0 ∨ j = 1) with rfl | rfl
  · rfl
  · exact absurd e h
  · exact absurd e.symm h
  · rfl
theorem dis_3 {f : Nat → Int32} (h : ¬ f 0 = f 1) (h1 : ¬ f 0 = f 2) (h2 : ¬ f 1 = f 2) : ∀ i, i < 3 → ∀ j, j < 3 → f i = f j → i = j := fun i hi j hj e => by
  rcases (by omega : i = 0 ∨ i = 1 ∨ i = 2) with rfl | rfl | rfl <;> rcases (by omega : j = 0 ∨ j = 1 ∨ j = 2) with rfl | rfl | rfl
  · rfl
  · exact absurd e h
  · exact absurd e h1
  · exact absurd e.symm h
  · rfl
  · exact absurd e h2
  · exact absurd e.symm h1
  · exact absurd e.symm h2
  · rfl
def advG (N : Nat) (P : Int32) (w mm : RS) (a : Nat → Int32) : Prop := ok (fX3_advance N P w) fun r => ok (fX12_headed N P (sr mm 1 a)) fun q => q.1 = r.1 ∧ q.2 = sr mm 1 (q.2 1) ∧ (∀ c, c ≠ 20 → c ≠ 21 → c ≠ 22 → r.2 c = w c) ∧ (∀ k, k ≠ 16 → (k < 194 ∨ 200 ≤ k) → q.2 1 k = a k) ∧ RH r.2 (q.2 1) ∧ IH r.2
theorem nI_l1 : nI 1 = 1 := by decide
theorem nI_l2 : nI 2 = 2 := by decide
theorem nI_l3 : nI 3 = 3 := by decide

theorem outH_10 {k : Nat} {mm : RS} {a : Nat → Int32} (h : a 16 = 1) : fX12_outHead (k + 10) 0 (sr mm 1 a) = some (sr mm 1 (upd (upd (upd a 16 0) 194 0) 195 0)) := by
  simp [fX12_outHead, fX12_outHead_L8, ck, thn, inb, st_sr, sr_e, upd_e, upd_n, h]
theorem outH_20 {k : Nat} {mm : RS} {a : Nat → Int32} (h : a 16 = 2) : fX12_outHead (k + 10) 0 (sr mm 1 a) = some (sr mm 1 (upd (upd (upd (upd (upd a 194 (a 196)) 195 (a 197)) 16 1) 196 0) 197 0)) := by
  simp [fX12_outHead, fX12_outHead_L8, ck, thn, inb, st_sr, sr_e, upd_e, upd_n, h]
theorem outH_21 {k : Nat} {mm : RS} {a : Nat → Int32} (h : a 16 = 2) : fX12_outHead (k + 10) 1 (sr mm 1 a) = some (sr mm 1 (upd (upd (upd a 16 1) 196 0) 197 0)) := by
  simp [fX12_outHead, fX12_outHead_L8, ck, thn, inb, st_sr, sr_e, upd_e, upd_n, h]
theorem outH_30 {k : Nat} {mm : RS} {a : Nat → Int32} (h : a 16 = 3) : fX12_outHead (k + 10) 0 (sr mm 1 a) = some (sr mm 1 (upd (upd (upd (upd (upd (upd (upd a 194 (a 196)) 195 (a 197)) 196 (a 198)) 197 (a 199)) 16 2) 198 0) 199 0)) := by
  simp [fX12_outHead, fX12_outHead_L8, ck, thn, inb, st_sr, sr_e, upd_e, upd_n, h]
theorem outH_31 {k : Nat} {mm : RS} {a : Nat → Int32} (h : a 16 = 3) : fX12_outHead (k + 10) 1 (sr mm 1 a) = some (sr mm 1 (upd (upd (upd (upd (upd a 196 (a 198)) 197 (a 199)) 16 2) 198 0) 199 0)) := by
  simp [fX12_outHead, fX12_outHead_L8, ck, thn, inb, st_sr, sr_e, upd_e, upd_n, h]
theorem outH_32 {k : Nat} {mm : RS} {a : Nat → Int32} (h : a 16 = 3) : fX12_outHead (k + 10) 2 (sr mm 1 a) = some (sr mm 1 (upd (upd (upd a 16 2) 198 0) 199 0)) := by
  simp [fX12_outHead, fX12_outHead_L8, ck, thn, inb, st_sr, sr_e, upd_e, upd_n, h]

theorem adv_0 {k : Nat} {w mm : RS} {a : Nat → Int32} {P : Int32} (hPQ : ¬ P = P + 1) (hQP : ¬ P + 1 = P) (h20 : w 20 0 = 0) (h16 : a 16 = 0) : advG (k + 10) P w mm a := by
  unfold advG
  simp -implicitDefEqProofs [fX3_advance, fX3_advance_L7, fX3_advance_L88, fX3_advance_L94, fX3_advance_L130, fX12_headed, fX12_headed_L34, fX12_headed_L51, fX12_headed_L67, fX12_headAt, fX12_headAt_L2, ck, thn, bnd, inb, acp, st_d, sr_e, sr_n, sr_sr, upd_e, upd_n, ok_some, va_cpy, outH_10, outH_20, outH_21, outH_30, outH_31, outH_32, h20, h16, hPQ, hQP]
  refine ⟨?_, ?_, ⟨1, by decide, ?_, ?_, rws_1.mpr ?_, rws_1.mpr ?_⟩, ⟨1, by decide, ?_, dis_1⟩⟩
  · intro c h1 h2 h3
    simp [sr_n, h1, h2, h3]
  · intro j h1 h2
    simp (disch := omega) only [upd_n]
  all_goals first | (simp [nI_l1, nI_l2, nI_l3, sr_e, sr_n, upd_e, upd_n, va_cpy, h20, h16, hPQ, hQP]; done) | skip

theorem adv_1P {k : Nat} {w mm : RS} {a : Nat → Int32} {P : Int32} (hPQ : ¬ P = P + 1) (hQP : ¬ P + 1 = P) (h20 : w 20 0 = 1) (h16 : a 16 = 1) (b0 : a 194 = w 21 0) (c0 : a 195 = w 22 0) (p0 : w 21 0 = P) : advG (k + 10) P w mm a := by
  unfold advG
  simp -implicitDefEqProofs [fX3_advance, fX3_advance_L7, fX3_advance_L88, fX3_advance_L94, fX3_advance_L130, fX12_headed, fX12_headed_L34, fX12_headed_L51, fX12_headed_L67, fX12_headAt, fX12_headAt_L2, ck, thn, bnd, inb, acp, st_d, sr_e, sr_n, sr_sr, upd_e, upd_n, ok_some, va_cpy, outH_10, outH_20, outH_21, outH_30, outH_31, outH_32, h20, h16, hPQ, hQP, b0, c0, p0]
  refine ⟨?_, ?_, ⟨1, by decide, ?_, ?_, rws_1.mpr ?_, rws_1.mpr ?_⟩, ⟨1, by decide, ?_, dis_1⟩⟩
  · intro c h1 h2 h3
    simp [sr_n, h1, h2, h3]
  · intro j h1 h2
    simp (disch := omega) only [upd_n]
  all_goals first | (simp [nI_l1, nI_l2, nI_l3, sr_e, sr_n, upd_e, upd_n, va_cpy, h20, h16, hPQ, hQP, b0, c0, p0]; done) | skip

theorem adv_1Q {k : Nat} {w mm : RS} {a : Nat → Int32} {P : Int32} (hPQ : ¬ P = P + 1) (hQP : ¬ P + 1 = P) (h20 : w 20 0 = 1) (h16 : a 16 = 1) (b0 : a 194 = w 21 0) (c0 : a 195 = w 22 0) (p0 : w 21 0 = P + 1) : advG (k + 10) P w mm a := by
  unfold advG
  simp -implicitDefEqProofs [fX3_advance, fX3_advance_L7, fX3_advance_L88, fX3_advance_L94, fX3_advance_L130, fX12_headed, fX12_headed_L34, fX12_headed_L51, fX12_headed_L67, fX12_headAt, fX12_headAt_L2, ck, thn, bnd, inb, acp, st_d, sr_e, sr_n, sr_sr, upd_e, upd_n, ok_some, va_cpy, outH_10, outH_20, outH_21, outH_30, outH_31, outH_32, h20, h16, hPQ, hQP, b0, c0, p0]
  refine ⟨?_, ?_, ⟨1, by decide, ?_, ?_, rws_1.mpr ?_, rws_1.mpr ?_⟩, ⟨1, by decide, ?_, dis_1⟩⟩
  · intro c h1 h2 h3
    simp [sr_n, h1, h2, h3]
  · intro j h1 h2
    simp (disch := omega) only [upd_n]
  all_goals first | (simp [nI_l1, nI_l2, nI_l3, sr_e, sr_n, upd_e, upd_n, va_cpy, h20, h16, hPQ, hQP, b0, c0, p0]; done) | skip

theorem adv_1N {k : Nat} {w mm : RS} {a : Nat → Int32} {P : Int32} (hPQ : ¬ P = P + 1) (hQP : ¬ P + 1 = P) (h20 : w 20 0 = 1) (h16 : a 16 = 1) (b0 : a 194 = w 21 0) (c0 : a 195 = w 22 0) (p0 : ¬ w 21 0 = P) (q0 : ¬ w 21 0 = P + 1) : advG (k + 10) P w mm a := by
  unfold advG
  simp -implicitDefEqProofs [fX3_advance, fX3_advance_L7, fX3_advance_L88, fX3_advance_L94, fX3_advance_L130, fX12_headed, fX12_headed_L34, fX12_headed_L51, fX12_headed_L67, fX12_headAt, fX12_headAt_L2, ck, thn, bnd, inb, acp, st_d, sr_e, sr_n, sr_sr, upd_e, upd_n, ok_some, va_cpy, outH_10, outH_20, outH_21, outH_30, outH_31, outH_32, h20, h16, hPQ, hQP, b0, c0, p0, q0]
  refine ⟨?_, ?_, ⟨2, by decide, ?_, ?_, rws_2.mpr ⟨?_, ?_⟩, rws_2.mpr ⟨?_, ?_⟩⟩, ⟨2, by decide, ?_, dis_2 ?_⟩⟩
  · intro c h1 h2 h3
    simp [sr_n, h1, h2, h3]
  · intro j h1 h2
    simp (disch := omega) only [upd_n]
  all_goals first | (simp [nI_l1, nI_l2, nI_l3, sr_e, sr_n, upd_e, upd_n, va_cpy, h20, h16, hPQ, hQP, b0, c0, p0, q0]; done) | skip

theorem adv_2PQ {k : Nat} {w mm : RS} {a : Nat → Int32} {P : Int32} (hPQ : ¬ P = P + 1) (hQP : ¬ P + 1 = P) (h20 : w 20 0 = 2) (h16 : a 16 = 2) (b0 : a 194 = w 21 0) (c0 : a 195 = w 22 0) (p0 : w 21 0 = P) (b1 : a 196 = w 21 1) (c1 : a 197 = w 22 1) (p1 : w 21 1 = P + 1) (n01 : ¬ w 21 0 = w 21 1) : advG (k + 10) P w mm a := by
  unfold advG
  simp -implicitDefEqProofs [fX3_advance, fX3_advance_L7, fX3_advance_L88, fX3_advance_L94, fX3_advance_L130, fX12_headed, fX12_headed_L34, fX12_headed_L51, fX12_headed_L67, fX12_headAt, fX12_headAt_L2, ck, thn, bnd, inb, acp, st_d, sr_e, sr_n, sr_sr, upd_e, upd_n, ok_some, va_cpy, outH_10, outH_20, outH_21, outH_30, outH_31, outH_32, h20, h16, hPQ, hQP, b0, c0, p0, b1, c1, p1, n01]
  refine ⟨?_, ?_, ⟨1, by decide, ?_, ?_, rws_1.mpr ?_, rws_1.mpr ?_⟩, ⟨1, by decide, ?_, dis_1⟩⟩
  · intro c h1 h2 h3
    simp [sr_n, h1, h2, h3]
  · intro j h1 h2
    simp (disch := omega) only [upd_n]
  all_goals first | (simp [nI_l1, nI_l2, nI_l3, sr_e, sr_n, upd_e, upd_n, va_cpy, h20, h16, hPQ, hQP, b0, c0, p0, b1, c1, p1, n01]; done) | skip

theorem adv_2PN {k : Nat} {w mm : RS} {a : Nat → Int32} {P : Int32} (hPQ : ¬ P = P + 1) (hQP : ¬ P + 1 = P) (h20 : w 20 0 = 2) (h16 : a 16 = 2) (b0 : a 194 = w 21 0) (c0 : a 195 = w 22 0) (p0 : w 21 0 = P) (b1 : a 196 = w 21 1) (c1 : a 197 = w 22 1) (p1 : ¬ w 21 1 = P) (q1 : ¬ w 21 1 = P + 1) (n01 : ¬ w 21 0 = w 21 1) : advG (k + 10) P w mm a := by
  unfold advG
  simp -implicitDefEqProofs [fX3_advance, fX3_advance_L7, fX3_advance_L88, fX3_advance_L94, fX3_advance_L130, fX12_headed, fX12_headed_L34, fX12_headed_L51, fX12_headed_L67, fX12_headAt, fX12_headAt_L2, ck, thn, bnd, inb, acp, st_d, sr_e, sr_n, sr_sr, upd_e, upd_n, ok_some, va_cpy, outH_10, outH_20, outH_21, outH_30, outH_31, outH_32, h20, h16, hPQ, hQP, b0, c0, p0, b1, c1, p1, q1, n01]
  refine ⟨?_, ?_, ⟨2, by decide, ?_, ?_, rws_2.mpr ⟨?_, ?_⟩, rws_2.mpr ⟨?_, ?_⟩⟩, ⟨2, by decide, ?_, dis_2 ?_⟩⟩
  · intro c h1 h2 h3
    simp [sr_n, h1, h2, h3]
  · intro j h1 h2
    simp (disch := omega) only [upd_n]
  all_goals first | (simp [nI_l1, nI_l2, nI_l3, sr_e, sr_n, upd_e, upd_n, va_cpy, h20, h16, hPQ, hQP, b0, c0, p0, b1, c1, p1, q1, n01]; done) | skip

theorem adv_2QP {k : Nat} {w mm : RS} {a : Nat → Int32} {P : Int32} (hPQ : ¬ P = P + 1) (hQP : ¬ P + 1 = P) (h20 : w 20 0 = 2) (h16 : a 16 = 2) (b0 : a 194 = w 21 0) (c0 : a 195 = w 22 0) (p0 : w 21 0 = P + 1) (b1 : a 196 = w 21 1) (c1 : a 197 = w 22 1) (p1 : w 21 1 = P) (n01 : ¬ w 21 0 = w 21 1) : advG (k + 10) P w mm a := by
  unfold advG
  simp -implicitDefEqProofs [fX3_advance, fX3_advance_L7, fX3_advance_L88, fX3_advance_L94, fX3_advance_L130, fX12_headed, fX12_headed_L34, fX12_headed_L51, fX12_headed_L67, fX12_headAt, fX12_headAt_L2, ck, thn, bnd, inb, acp, st_d, sr_e, sr_n, sr_sr, upd_e, upd_n, ok_some, va_cpy, outH_10, outH_20, outH_21, outH_30, outH_31, outH_32, h20, h16, hPQ, hQP, b0, c0, p0, b1, c1, p1, n01]
  refine ⟨?_, ?_, ⟨1, by decide, ?_, ?_, rws_1.mpr ?_, rws_1.mpr ?_⟩, ⟨1, by decide, ?_, dis_1⟩⟩
  · intro c h1 h2 h3
    simp [sr_n, h1, h2, h3]
  · intro j h1 h2
    simp (disch := omega) only [upd_n]
  all_goals first | (simp [nI_l1, nI_l2, nI_l3, sr_e, sr_n, upd_e, upd_n, va_cpy, h20, h16, hPQ, hQP, b0, c0, p0, b1, c1, p1, n01]; done) | skip

theorem adv_2QN {k : Nat} {w mm : RS} {a : Nat → Int32} {P : Int32} (hPQ : ¬ P = P + 1) (hQP : ¬ P + 1 = P) (h20 : w 20 0 = 2) (h16 : a 16 = 2) (b0 : a 194 = w 21 0) (c0 : a 195 = w 22 0) (p0 : w 21 0 = P + 1) (b1 : a 196 = w 21 1) (c1 : a 197 = w 22 1) (p1 : ¬ w 21 1 = P) (q1 : ¬ w 21 1 = P + 1) (n01 : ¬ w 21 0 = w 21 1) : advG (k + 10) P w mm a := by
  unfold advG
  simp -implicitDefEqProofs [fX3_advance, fX3_advance_L7, fX3_advance_L88, fX3_advance_L94, fX3_advance_L130, fX12_headed, fX12_headed_L34, fX12_headed_L51, fX12_headed_L67, fX12_headAt, fX12_headAt_L2, ck, thn, bnd, inb, acp, st_d, sr_e, sr_n, sr_sr, upd_e, upd_n, ok_some, va_cpy, outH_10, outH_20, outH_21, outH_30, outH_31, outH_32, h20, h16, hPQ, hQP, b0, c0, p0, b1, c1, p1, q1, n01]
  refine ⟨?_, ?_, ⟨2, by decide, ?_, ?_, rws_2.mpr ⟨?_, ?_⟩, rws_2.mpr ⟨?_, ?_⟩⟩, ⟨2, by decide, ?_, dis_2 ?_⟩⟩
  · intro c h1 h2 h3
    simp [sr_n, h1, h2, h3]
  · intro j h1 h2
    simp (disch := omega) only [upd_n]
  all_goals first | (simp [nI_l1, nI_l2, nI_l3, sr_e, sr_n, upd_e, upd_n, va_cpy, h20, h16, hPQ, hQP, b0, c0, p0, b1, c1, p1, q1, n01]; done) | skip

theorem adv_2NP {k : Nat} {w mm : RS} {a : Nat → Int32} {P : Int32} (hPQ : ¬ P = P + 1) (hQP : ¬ P + 1 = P) (h20 : w 20 0 = 2) (h16 : a 16 = 2) (b0 : a 194 = w 21 0) (c0 : a 195 = w 22 0) (p0 : ¬ w 21 0 = P) (q0 : ¬ w 21 0 = P + 1) (b1 : a 196 = w 21 1) (c1 : a 197 = w 22 1) (p1 : w 21 1 = P) (n01 : ¬ w 21 0 = w 21 1) : advG (k + 10) P w mm a := by
  unfold advG
  simp -implicitDefEqProofs [fX3_advance, fX3_advance_L7, fX3_advance_L88, fX3_advance_L94, fX3_advance_L130, fX12_headed, fX12_headed_L34, fX12_headed_L51, fX12_headed_L67, fX12_headAt, fX12_headAt_L2, ck, thn, bnd, inb, acp, st_d, sr_e, sr_n, sr_sr, upd_e, upd_n, ok_some, va_cpy, outH_10, outH_20, outH_21, outH_30, outH_31, outH_32, h20, h16, hPQ, hQP, b0, c0, p0, q0, b1, c1, p1, n01]
  refine ⟨?_, ?_, ⟨2, by decide, ?_, ?_, rws_2.mpr ⟨?_, ?_⟩, rws_2.mpr ⟨?_, ?_⟩⟩, ⟨2, by decide, ?_, dis_2 ?_⟩⟩
  · intro c h1 h2 h3
    simp [sr_n, h1, h2, h3]
  · intro j h1 h2
    simp (disch := omega) only [upd_n]
  all_goals first | (simp [nI_l1, nI_l2, nI_l3, sr_e, sr_n, upd_e, upd_n, va_cpy, h20, h16, hPQ, hQP, b0, c0, p0, q0, b1, c1, p1, n01]; done) | skip

theorem adv_2NQ {k : Nat} {w mm : RS} {a : Nat → Int32} {P : Int32} (hPQ : ¬ P = P + 1) (hQP : ¬ P + 1 = P) (h20 : w 20 0 = 2) (h16 : a 16 = 2) (b0 : a 194 = w 21 0) (c0 : a 195 = w 22 0) (p0 : ¬ w 21 0 = P) (q0 : ¬ w 21 0 = P + 1) (b1 : a 196 = w 21 1) (c1 : a 197 = w 22 1) (p1 : w 21 1 = P + 1) (n01 : ¬ w 21 0 = w 21 1) : advG (k + 10) P w mm a := by
  unfold advG
  simp -implicitDefEqProofs [fX3_advance, fX3_advance_L7, fX3_advance_L88, fX3_advance_L94, fX3_advance_L130, fX12_headed, fX12_headed_L34, fX12_headed_L51, fX12_headed_L67, fX12_headAt, fX12_headAt_L2, ck, thn, bnd, inb, acp, st_d, sr_e, sr_n, sr_sr, upd_e, upd_n, ok_some, va_cpy, outH_10, outH_20, outH_21, outH_30, outH_31, outH_32, h20, h16, hPQ, hQP, b0, c0, p0, q0, b1, c1, p1, n01]
  refine ⟨?_, ?_, ⟨2, by decide, ?_, ?_, rws_2.mpr ⟨?_, ?_⟩, rws_2.mpr ⟨?_, ?_⟩⟩, ⟨2, by decide, ?_, dis_2 ?_⟩⟩
  · intro c h1 h2 h3
    simp [sr_n, h1, h2, h3]
  · intro j h1 h2
    simp (disch := omega) only [upd_n]
  all_goals first | (simp [nI_l1, nI_l2, nI_l3, sr_e, sr_n, upd_e, upd_n, va_cpy, h20, h16, hPQ, hQP, b0, c0, p0, q0, b1, c1, p1, n01]; done) | skip

theorem adv_2NN {k : Nat} {w mm : RS} {a : Nat → Int32} {P : Int32} (hPQ : ¬ P = P + 1) (hQP : ¬ P + 1 = P) (h20 : w 20 0 = 2) (h16 : a 16 = 2) (b0 : a 194 = w 21 0) (c0 : a 195 = w 22 0) (p0 : ¬ w 21 0 = P) (q0 : ¬ w 21 0 = P + 1) (b1 : a 196 = w 21 1) (c1 : a 197 = w 22 1) (p1 : ¬ w 21 1 = P) (q1 : ¬ w 21 1 = P + 1) (n01 : ¬ w 21 0 = w 21 1) : advG (k + 10) P w mm a := by
  unfold advG
  simp -implicitDefEqProofs [fX3_advance, fX3_advance_L7, fX3_advance_L88, fX3_advance_L94, fX3_advance_L130, fX12_headed, fX12_headed_L34, fX12_headed_L51, fX12_headed_L67, fX12_headAt, fX12_headAt_L2, ck, thn, bnd, inb, acp, st_d, sr_e, sr_n, sr_sr, upd_e, upd_n, ok_some, va_cpy, outH_10, outH_20, outH_21, outH_30, outH_31, outH_32, h20, h16, hPQ, hQP, b0, c0, p0, q0, b1, c1, p1, q1, n01]
  refine ⟨?_, ?_, ⟨3, by decide, ?_, ?_, rws_3.mpr ⟨?_, ?_, ?_⟩, rws_3.mpr ⟨?_, ?_, ?_⟩⟩, ⟨3, by decide, ?_, dis_3 ?_ ?_ ?_⟩⟩
  · intro c h1 h2 h3
    simp [sr_n, h1, h2, h3]
  · intro j h1 h2
    simp (disch := omega) only [upd_n]
  all_goals first | (simp [nI_l1, nI_l2, nI_l3, sr_e, sr_n, upd_e, upd_n, va_cpy, h20, h16, hPQ, hQP, b0, c0, p0, q0, b1, c1, p1, q1, n01]; done) | skip

theorem adv_3PQN {k : Nat} {w mm : RS} {a : Nat → Int32} {P : Int32} (hPQ : ¬ P = P + 1) (hQP : ¬ P + 1 = P) (h20 : w 20 0 = 3) (h16 : a 16 = 3) (b0 : a 194 = w 21 0) (c0 : a 195 = w 22 0) (p0 : w 21 0 = P) (b1 : a 196 = w 21 1) (c1 : a 197 = w 22 1) (p1 : w 21 1 = P + 1) (b2 : a 198 = w 21 2) (c2 : a 199 = w 22 2) (p2 : ¬ w 21 2 = P) (q2 : ¬ w 21 2 = P + 1) (n01 : ¬ w 21 0 = w 21 1) (n02 : ¬ w 21 0 = w 21 2) (n12 : ¬ w 21 1 = w 21 2) : advG (k + 10) P w mm a := by
  unfold advG
  simp -implicitDefEqProofs [fX3_advance, fX3_advance_L7, fX3_advance_L88, fX3_advance_L94, fX3_advance_L130, fX12_headed, fX12_headed_L34, fX12_headed_L51, fX12_headed_L67, fX12_headAt, fX12_headAt_L2, ck, thn, bnd, inb, acp, st_d, sr_e, sr_n, sr_sr, upd_e, upd_n, ok_some, va_cpy, outH_10, outH_20, outH_21, outH_30, outH_31, outH_32, h20, h16, hPQ, hQP, b0, c0, p0, b1, c1, p1, b2, c2, p2, q2, n01, n02, n12]
  refine ⟨?_, ?_, ⟨2, by decide, ?_, ?_, rws_2.mpr ⟨?_, ?_⟩, rws_2.mpr ⟨?_, ?_⟩⟩, ⟨2, by decide, ?_, dis_2 ?_⟩⟩
  · intro c h1 h2 h3
    simp [sr_n, h1, h2, h3]
  · intro j h1 h2
    simp (disch := omega) only [upd_n]
  all_goals first | (simp [nI_l1, nI_l2, nI_l3, sr_e, sr_n, upd_e, upd_n, va_cpy, h20, h16, hPQ, hQP, b0, c0, p0, b1, c1, p1, b2, c2, p2, q2, n01, n02, n12]; done) | skip

theorem adv_3PNQ {k : Nat} {w mm : RS} {a : Nat → Int32} {P : Int32} (hPQ : ¬ P = P + 1) (hQP : ¬ P + 1 = P) (h20 : w 20 0 = 3) (h16 : a 16 = 3) (b0 : a 194 = w 21 0) (c0 : a 195 = w 22 0) (p0 : w 21 0 = P) (b1 : a 196 = w 21 1) (c1 : a 197 = w 22 1) (p1 : ¬ w 21 1 = P) (q1 : ¬ w 21 1 = P + 1) (b2 : a 198 = w 21 2) (c2 : a 199 = w 22 2) (p2 : w 21 2 = P + 1) (n01 : ¬ w 21 0 = w 21 1) (n02 : ¬ w 21 0 = w 21 2) (n12 : ¬ w 21 1 = w 21 2) : advG (k + 10) P w mm a := by
  unfold advG
  simp -implicitDefEqProofs [fX3_advance, fX3_advance_L7, fX3_advance_L88, fX3_advance_L94, fX3_advance_L130, fX12_headed, fX12_headed_L34, fX12_headed_L51, fX12_headed_L67, fX12_headAt, fX12_headAt_L2, ck, thn, bnd, inb, acp, st_d, sr_e, sr_n, sr_sr, upd_e, upd_n, ok_some, va_cpy, outH_10, outH_20, outH_21, outH_30, outH_31, outH_32, h20, h16, hPQ, hQP, b0, c0, p0, b1, c1, p1, q1, b2, c2, p2, n01, n02, n12]
  refine ⟨?_, ?_, ⟨2, by decide, ?_, ?_, rws_2.mpr ⟨?_, ?_⟩, rws_2.mpr ⟨?_, ?_⟩⟩, ⟨2, by decide, ?_, dis_2 ?_⟩⟩
  · intro c h1 h2 h3
    simp [sr_n, h1, h2, h3]
  · intro j h1 h2
    simp (disch := omega) only [upd_n]
  all_goals first | (simp [nI_l1, nI_l2, nI_l3, sr_e, sr_n, upd_e, upd_n, va_cpy, h20, h16, hPQ, hQP, b0, c0, p0, b1, c1, p1, q1, b2, c2, p2, n01, n02, n12]; done) | skip

theorem adv_3PNN {k : Nat} {w mm : RS} {a : Nat → Int32} {P : Int32} (hPQ : ¬ P = P + 1) (hQP : ¬ P + 1 = P) (h20 : w 20 0 = 3) (h16 : a 16 = 3) (b0 : a 194 = w 21 0) (c0 : a 195 = w 22 0) (p0 : w 21 0 = P) (b1 : a 196 = w 21 1) (c1 : a 197 = w 22 1) (p1 : ¬ w 21 1 = P) (q1 : ¬ w 21 1 = P + 1) (b2 : a 198 = w 21 2) (c2 : a 199 = w 22 2) (p2 : ¬ w 21 2 = P) (q2 : ¬ w 21 2 = P + 1) (n01 : ¬ w 21 0 = w 21 1) (n02 : ¬ w 21 0 = w 21 2) (n12 : ¬ w 21 1 = w 21 2) : advG (k + 10) P w mm a := by
  unfold advG
  simp -implicitDefEqProofs [fX3_advance, fX3_advance_L7, fX3_advance_L88, fX3_advance_L94, fX3_advance_L130, fX12_headed, fX12_headed_L34, fX12_headed_L51, fX12_headed_L67, fX12_headAt, fX12_headAt_L2, ck, thn, bnd, inb, acp, st_d, sr_e, sr_n, sr_sr, upd_e, upd_n, ok_some, va_cpy, outH_10, outH_20, outH_21, outH_30, outH_31, outH_32, h20, h16, hPQ, hQP, b0, c0, p0, b1, c1, p1, q1, b2, c2, p2, q2, n01, n02, n12]
  refine ⟨?_, ?_, ⟨3, by decide, ?_, ?_, rws_3.mpr ⟨?_, ?_, ?_⟩, rws_3.mpr ⟨?_, ?_, ?_⟩⟩, ⟨3, by decide, ?_, dis_3 ?_ ?_ ?_⟩⟩
  · intro c h1 h2 h3
    simp [sr_n, h1, h2, h3]
  · intro j h1 h2
    simp (disch := omega) only [upd_n]
  all_goals first | (simp [nI_l1, nI_l2, nI_l3, sr_e, sr_n, upd_e, upd_n, va_cpy, h20, h16, hPQ, hQP, b0, c0, p0, b1, c1, p1, q1, b2, c2, p2, q2, n01, n02, n12]; done) | skip

theorem adv_3QPN {k : Nat} {w mm : RS} {a : Nat → Int32} {P : Int32} (hPQ : ¬ P = P + 1) (hQP : ¬ P + 1 = P) (h20 : w 20 0 = 3) (h16 : a 16 = 3) (b0 : a 194 = w 21 0) (c0 : a 195 = w 22 0) (p0 : w 21 0 = P + 1) (b1 : a 196 = w 21 1) (c1 : a 197 = w 22 1) (p1 : w 21 1 = P) (b2 : a 198 = w 21 2) (c2 : a 199 = w 22 2) (p2 : ¬ w 21 2 = P) (q2 : ¬ w 21 2 = P + 1) (n01 : ¬ w 21 0 = w 21 1) (n02 : ¬ w 21 0 = w 21 2) (n12 : ¬ w 21 1 = w 21 2) : advG (k + 10) P w mm a := by
  unfold advG
  simp -implicitDefEqProofs [fX3_advance, fX3_advance_L7, fX3_advance_L88, fX3_advance_L94, fX3_advance_L130, fX12_headed, fX12_headed_L34, fX12_headed_L51, fX12_headed_L67, fX12_headAt, fX12_headAt_L2, ck, thn, bnd, inb, acp, st_d, sr_e, sr_n, sr_sr, upd_e, upd_n, ok_some, va_cpy, outH_10, outH_20, outH_21, outH_30, outH_31, outH_32, h20, h16, hPQ, hQP, b0, c0, p0, b1, c1, p1, b2, c2, p2, q2, n01, n02, n12]
  refine ⟨?_, ?_, ⟨2, by decide, ?_, ?_, rws_2.mpr ⟨?_, ?_⟩, rws_2.mpr ⟨?_, ?_⟩⟩, ⟨2, by decide, ?_, dis_2 ?_⟩⟩
  · intro c h1 h2 h3
    simp [sr_n, h1, h2, h3]
  · intro j h1 h2
    simp (disch := omega) only [upd_n]
  all_goals first | (simp [nI_l1, nI_l2, nI_l3, sr_e, sr_n, upd_e, upd_n, va_cpy, h20, h16, hPQ, hQP, b0, c0, p0, b1, c1, p1, b2, c2, p2, q2, n01, n02, n12]; done) | skip

theorem adv_3QNP {k : Nat} {w mm : RS} {a : Nat → Int32} {P : Int32} (hPQ : ¬ P = P + 1) (hQP : ¬ P + 1 = P) (h20 : w 20 0 = 3) (h16 : a 16 = 3) (b0 : a 194 = w 21 0) (c0 : a 195 = w 22 0) (p0 : w 21 0 = P + 1) (b1 : a 196 = w 21 1) (c1 : a 197 = w 22 1) (p1 : ¬ w 21 1 = P) (q1 : ¬ w 21 1 = P + 1) (b2 : a 198 = w 21 2) (c2 : a 199 = w 22 2) (p2 : w 21 2 = P) (n01 : ¬ w 21 0 = w 21 1) (n02 : ¬ w 21 0 = w 21 2) (n12 : ¬ w 21 1 = w 21 2) : advG (k + 10) P w mm a := by
  unfold advG
  simp -implicitDefEqProofs [fX3_advance, fX3_advance_L7, fX3_advance_L88, fX3_advance_L94, fX3_advance_L130, fX12_headed, fX12_headed_L34, fX12_headed_L51, fX12_headed_L67, fX12_headAt, fX12_headAt_L2, ck, thn, bnd, inb, acp, st_d, sr_e, sr_n, sr_sr, upd_e, upd_n, ok_some, va_cpy, outH_10, outH_20, outH_21, outH_30, outH_31, outH_32, h20, h16, hPQ, hQP, b0, c0, p0, b1, c1, p1, q1, b2, c2, p2, n01, n02, n12]
  refine ⟨?_, ?_, ⟨2, by decide, ?_, ?_, rws_2.mpr ⟨?_, ?_⟩, rws_2.mpr ⟨?_, ?_⟩⟩, ⟨2, by decide, ?_, dis_2 ?_⟩⟩
  · intro c h1 h2 h3
    simp [sr_n, h1, h2, h3]
  · intro j h1 h2
    simp (disch := omega) only [upd_n]
  all_goals first | (simp [nI_l1, nI_l2, nI_l3, sr_e, sr_n, upd_e, upd_n, va_cpy, h20, h16, hPQ, hQP, b0, c0, p0, b1, c1, p1, q1, b2, c2, p2, n01, n02, n12]; done) | skip

theorem adv_3QNN {k : Nat} {w mm : RS} {a : Nat → Int32} {P : Int32} (hPQ : ¬ P = P + 1) (hQP : ¬ P + 1 = P) (h20 : w 20 0 = 3) (h16 : a 16 = 3) (b0 : a 194 = w 21 0) (c0 : a 195 = w 22 0) (p0 : w 21 0 = P + 1) (b1 : a 196 = w 21 1) (c1 : a 197 = w 22 1) (p1 : ¬ w 21 1 = P) (q1 : ¬ w 21 1 = P + 1) (b2 : a 198 = w 21 2) (c2 : a 199 = w 22 2) (p2 : ¬ w 21 2 = P) (q2 : ¬ w 21 2 = P + 1) (n01 : ¬ w 21 0 = w 21 1) (n02 : ¬ w 21 0 = w 21 2) (n12 : ¬ w 21 1 = w 21 2) : advG (k + 10) P w mm a := by
  unfold advG
  simp -implicitDefEqProofs [fX3_advance, fX3_advance_L7, fX3_advance_L88, fX3_advance_L94, fX3_advance_L130, fX12_headed, fX12_headed_L34, fX12_headed_L51, fX12_headed_L67, fX12_headAt, fX12_headAt_L2, ck, thn, bnd, inb, acp, st_d, sr_e, sr_n, sr_sr, upd_e, upd_n, ok_some, va_cpy, outH_10, outH_20, outH_21, outH_30, outH_31, outH_32, h20, h16, hPQ, hQP, b0, c0, p0, b1, c1, p1, q1, b2, c2, p2, q2, n01, n02, n12]
  refine ⟨?_, ?_, ⟨3, by decide, ?_, ?_, rws_3.mpr ⟨?_, ?_, ?_⟩, rws_3.mpr ⟨?_, ?_, ?_⟩⟩, ⟨3, by decide, ?_, dis_3 ?_ ?_ ?_⟩⟩
  · intro c h1 h2 h3
    simp [sr_n, h1, h2, h3]
  · intro j h1 h2
    simp (disch := omega) only [upd_n]
  all_goals first | (simp [nI_l1, nI_l2, nI_l3, sr_e, sr_n, upd_e, upd_n, va_cpy, h20, h16, hPQ, hQP, b0, c0, p0, b1, c1, p1, q1, b2, c2, p2, q2, n01, n02, n12]; done) | skip

theorem adv_3NPQ {k : Nat} {w mm : RS} {a : Nat → Int32} {P : Int32} (hPQ : ¬ P = P + 1) (hQP : ¬ P + 1 = P) (h20 : w 20 0 = 3) (h16 : a 16 = 3) (b0 : a 194 = w 21 0) (c0 : a 195 = w 22 0) (p0 : ¬ w 21 0 = P) (q0 : ¬ w 21 0 = P + 1) (b1 : a 196 = w 21 1) (c1 : a 197 = w 22 1) (p1 : w 21 1 = P) (b2 : a 198 = w 21 2) (c2 : a 199 = w 22 2) (p2 : w 21 2 = P + 1) (n01 : ¬ w 21 0 = w 21 1) (n02 : ¬ w 21 0 = w 21 2) (n12 : ¬ w 21 1 = w 21 2) : advG (k + 10) P w mm a := by
  unfold advG
  simp -implicitDefEqProofs [fX3_advance, fX3_advance_L7, fX3_advance_L88, fX3_advance_L94, fX3_advance_L130, fX12_headed, fX12_headed_L34, fX12_headed_L51, fX12_headed_L67, fX12_headAt, fX12_headAt_L2, ck, thn, bnd, inb, acp, st_d, sr_e, sr_n, sr_sr, upd_e, upd_n, ok_some, va_cpy, outH_10, outH_20, outH_21, outH_30, outH_31, outH_32, h20, h16, hPQ, hQP, b0, c0, p0, q0, b1, c1, p1, b2, c2, p2, n01, n02, n12]
  refine ⟨?_, ?_, ⟨2, by decide, ?_, ?_, rws_2.mpr ⟨?_, ?_⟩, rws_2.mpr ⟨?_, ?_⟩⟩, ⟨2, by decide, ?_, dis_2 ?_⟩⟩
  · intro c h1 h2 h3
    simp [sr_n, h1, h2, h3]
  · intro j h1 h2
    simp (disch := omega) only [upd_n]
  all_goals first | (simp [nI_l1, nI_l2, nI_l3, sr_e, sr_n, upd_e, upd_n, va_cpy, h20, h16, hPQ, hQP, b0, c0, p0, q0, b1, c1, p1, b2, c2, p2, n01, n02, n12]; done) | skip

theorem adv_3NPN {k : Nat} {w mm : RS} {a : Nat → Int32} {P : Int32} (hPQ : ¬ P = P + 1) (hQP : ¬ P + 1 = P) (h20 : w 20 0 = 3) (h16 : a 16 = 3) (b0 : a 194 = w 21 0) (c0 : a 195 = w 22 0) (p0 : ¬ w 21 0 = P) (q0 : ¬ w 21 0 = P + 1) (b1 : a 196 = w 21 1) (c1 : a 197 = w 22 1) (p1 : w 21 1 = P) (b2 : a 198 = w 21 2) (c2 : a 199 = w 22 2) (p2 : ¬ w 21 2 = P) (q2 : ¬ w 21 2 = P + 1) (n01 : ¬ w 21 0 = w 21 1) (n02 : ¬ w 21 0 = w 21 2) (n12 : ¬ w 21 1 = w 21 2) : advG (k + 10) P w mm a := by
  unfold advG
  simp -implicitDefEqProofs [fX3_advance, fX3_advance_L7, fX3_advance_L88, fX3_advance_L94, fX3_advance_L130, fX12_headed, fX12_headed_L34, fX12_headed_L51, fX12_headed_L67, fX12_headAt, fX12_headAt_L2, ck, thn, bnd, inb, acp, st_d, sr_e, sr_n, sr_sr, upd_e, upd_n, ok_some, va_cpy, outH_10, outH_20, outH_21, outH_30, outH_31, outH_32, h20, h16, hPQ, hQP, b0, c0, p0, q0, b1, c1, p1, b2, c2, p2, q2, n01, n02, n12]
  refine ⟨?_, ?_, ⟨3, by decide, ?_, ?_, rws_3.mpr ⟨?_, ?_, ?_⟩, rws_3.mpr ⟨?_, ?_, ?_⟩⟩, ⟨3, by decide, ?_, dis_3 ?_ ?_ ?_⟩⟩
  · intro c h1 h2 h3
    simp [sr_n, h1, h2, h3]
  · intro j h1 h2
    simp (disch := omega) only [upd_n]
  all_goals first | (simp [nI_l1, nI_l2, nI_l3, sr_e, sr_n, upd_e, upd_n, va_cpy, h20, h16, hPQ, hQP, b0, c0, p0, q0, b1, c1, p1, b2, c2, p2, q2, n01, n02, n12]; done) | skip

theorem adv_3NQP {k : Nat} {w mm : RS} {a : Nat → Int32} {P : Int32} (hPQ : ¬ P = P + 1) (hQP : ¬ P + 1 = P) (h20 : w 20 0 = 3) (h16 : a 16 = 3) (b0 : a 194 = w 21 0) (c0 : a 195 = w 22 0) (p0 : ¬ w 21 0 = P) (q0 : ¬ w 21 0 = P + 1) (b1 : a 196 = w 21 1) (c1 : a 197 = w 22 1) (p1 : w 21 1 = P + 1) (b2 : a 198 = w 21 2) (c2 : a 199 = w 22 2) (p2 : w 21 2 = P) (n01 : ¬ w 21 0 = w 21 1) (n02 : ¬ w 21 0 = w 21 2) (n12 : ¬ w 21 1 = w 21 2) : advG (k + 10) P w mm a := by
  unfold advG
  simp -implicitDefEqProofs [fX3_advance, fX3_advance_L7, fX3_advance_L88, fX3_advance_L94, fX3_advance_L130, fX12_headed, fX12_headed_L34, fX12_headed_L51, fX12_headed_L67, fX12_headAt, fX12_headAt_L2, ck, thn, bnd, inb, acp, st_d, sr_e, sr_n, sr_sr, upd_e, upd_n, ok_some, va_cpy, outH_10, outH_20, outH_21, outH_30, outH_31, outH_32, h20, h16, hPQ, hQP, b0, c0, p0, q0, b1, c1, p1, b2, c2, p2, n01, n02, n12]
  refine ⟨?_, ?_, ⟨2, by decide, ?_, ?_, rws_2.mpr ⟨?_, ?_⟩, rws_2.mpr ⟨?_, ?_⟩⟩, ⟨2, by decide, ?_, dis_2 ?_⟩⟩
  · intro c h1 h2 h3
    simp [sr_n, h1, h2, h3]
  · intro j h1 h2
    simp (disch := omega) only [upd_n]
  all_goals first | (simp [nI_l1, nI_l2, nI_l3, sr_e, sr_n, upd_e, upd_n, va_cpy, h20, h16, hPQ, hQP, b0, c0, p0, q0, b1, c1, p1, b2, c2, p2, n01, n02, n12]; done) | skip

theorem adv_3NQN {k : Nat} {w mm : RS} {a : Nat → Int32} {P : Int32} (hPQ : ¬ P = P + 1) (hQP : ¬ P + 1 = P) (h20 : w 20 0 = 3) (h16 : a 16 = 3) (b0 : a 194 = w 21 0) (c0 : a 195 = w 22 0) (p0 : ¬ w 21 0 = P) (q0 : ¬ w 21 0 = P + 1) (b1 : a 196 = w 21 1) (c1 : a 197 = w 22 1) (p1 : w 21 1 = P + 1) (b2 : a 198 = w 21 2) (c2 : a 199 = w 22 2) (p2 : ¬ w 21 2 = P) (q2 : ¬ w 21 2 = P + 1) (n01 : ¬ w 21 0 = w 21 1) (n02 : ¬ w 21 0 = w 21 2) (n12 : ¬ w 21 1 = w 21 2) : advG (k + 10) P w mm a := by
  unfold advG
  simp -implicitDefEqProofs [fX3_advance, fX3_advance_L7, fX3_advance_L88, fX3_advance_L94, fX3_advance_L130, fX12_headed, fX12_headed_L34, fX12_headed_L51, fX12_headed_L67, fX12_headAt, fX12_headAt_L2, ck, thn, bnd, inb, acp, st_d, sr_e, sr_n, sr_sr, upd_e, upd_n, ok_some, va_cpy, outH_10, outH_20, outH_21, outH_30, outH_31, outH_32, h20, h16, hPQ, hQP, b0, c0, p0, q0, b1, c1, p1, b2, c2, p2, q2, n01, n02, n12]
  refine ⟨?_, ?_, ⟨3, by decide, ?_, ?_, rws_3.mpr ⟨?_, ?_, ?_⟩, rws_3.mpr ⟨?_, ?_, ?_⟩⟩, ⟨3, by decide, ?_, dis_3 ?_ ?_ ?_⟩⟩
  · intro c h1 h2 h3
    simp [sr_n, h1, h2, h3]
  · intro j h1 h2
    simp (disch := omega) only [upd_n]
  all_goals first | (simp [nI_l1, nI_l2, nI_l3, sr_e, sr_n, upd_e, upd_n, va_cpy, h20, h16, hPQ, hQP, b0, c0, p0, q0, b1, c1, p1, b2, c2, p2, q2, n01, n02, n12]; done) | skip

theorem adv_3NNP {k : Nat} {w mm : RS} {a : Nat → Int32} {P : Int32} (hPQ : ¬ P = P + 1) (hQP : ¬ P + 1 = P) (h20 : w 20 0 = 3) (h16 : a 16 = 3) (b0 : a 194 = w 21 0) (c0 : a 195 = w 22 0) (p0 : ¬ w 21 0 = P) (q0 : ¬ w 21 0 = P + 1) (b1 : a 196 = w 21 1) (c1 : a 197 = w 22 1) (p1 : ¬ w 21 1 = P) (q1 : ¬ w 21 1 = P + 1) (b2 : a 198 = w 21 2) (c2 : a 199 = w 22 2) (p2 : w 21 2 = P) (n01 : ¬ w 21 0 = w 21 1) (n02 : ¬ w 21 0 = w 21 2) (n12 : ¬ w 21 1 = w 21 2) : advG (k + 10) P w mm a := by
  unfold advG
  simp -implicitDefEqProofs [fX3_advance, fX3_advance_L7, fX3_advance_L88, fX3_advance_L94, fX3_advance_L130, fX12_headed, fX12_headed_L34, fX12_headed_L51, fX12_headed_L67, fX12_headAt, fX12_headAt_L2, ck, thn, bnd, inb, acp, st_d, sr_e, sr_n, sr_sr, upd_e, upd_n, ok_some, va_cpy, outH_10, outH_20, outH_21, outH_30, outH_31, outH_32, h20, h16, hPQ, hQP, b0, c0, p0, q0, b1, c1, p1, q1, b2, c2, p2, n01, n02, n12]
  refine ⟨?_, ?_, ⟨3, by decide, ?_, ?_, rws_3.mpr ⟨?_, ?_, ?_⟩, rws_3.mpr ⟨?_, ?_, ?_⟩⟩, ⟨3, by decide, ?_, dis_3 ?_ ?_ ?_⟩⟩
  · intro c h1 h2 h3
    simp [sr_n, h1, h2, h3]
  · intro j h1 h2
    simp (disch := omega) only [upd_n]
  all_goals first | (simp [nI_l1, nI_l2, nI_l3, sr_e, sr_n, upd_e, upd_n, va_cpy, h20, h16, hPQ, hQP, b0, c0, p0, q0, b1, c1, p1, q1, b2, c2, p2, n01, n02, n12]; done) | skip

theorem adv_3NNQ {k : Nat} {w mm : RS} {a : Nat → Int32} {P : Int32} (hPQ : ¬ P = P + 1) (hQP : ¬ P + 1 = P) (h20 : w 20 0 = 3) (h16 : a 16 = 3) (b0 : a 194 = w 21 0) (c0 : a 195 = w 22 0) (p0 : ¬ w 21 0 = P) (q0 : ¬ w 21 0 = P + 1) (b1 : a 196 = w 21 1) (c1 : a 197 = w 22 1) (p1 : ¬ w 21 1 = P) (q1 : ¬ w 21 1 = P + 1) (b2 : a 198 = w 21 2) (c2 : a 199 = w 22 2) (p2 : w 21 2 = P + 1) (n01 : ¬ w 21 0 = w 21 1) (n02 : ¬ w 21 0 = w 21 2) (n12 : ¬ w 21 1 = w 21 2) : advG (k + 10) P w mm a := by
  unfold advG
  simp -implicitDefEqProofs [fX3_advance, fX3_advance_L7, fX3_advance_L88, fX3_advance_L94, fX3_advance_L130, fX12_headed, fX12_headed_L34, fX12_headed_L51, fX12_headed_L67, fX12_headAt, fX12_headAt_L2, ck, thn, bnd, inb, acp, st_d, sr_e, sr_n, sr_sr, upd_e, upd_n, ok_some, va_cpy, outH_10, outH_20, outH_21, outH_30, outH_31, outH_32, h20, h16, hPQ, hQP, b0, c0, p0, q0, b1, c1, p1, q1, b2, c2, p2, n01, n02, n12]
  refine ⟨?_, ?_, ⟨3, by decide, ?_, ?_, rws_3.mpr ⟨?_, ?_, ?_⟩, rws_3.mpr ⟨?_, ?_, ?_⟩⟩, ⟨3, by decide, ?_, dis_3 ?_ ?_ ?_⟩⟩
  · intro c h1 h2 h3
    simp [sr_n, h1, h2, h3]
  · intro j h1 h2
    simp (disch := omega) only [upd_n]
  all_goals first | (simp [nI_l1, nI_l2, nI_l3, sr_e, sr_n, upd_e, upd_n, va_cpy, h20, h16, hPQ, hQP, b0, c0, p0, q0, b1, c1, p1, q1, b2, c2, p2, n01, n02, n12]; done) | skip

theorem adv_3NNN {k : Nat} {w mm : RS} {a : Nat → Int32} {P : Int32} (hPQ : ¬ P = P + 1) (hQP : ¬ P + 1 = P) (h20 : w 20 0 = 3) (h16 : a 16 = 3) (b0 : a 194 = w 21 0) (c0 : a 195 = w 22 0) (p0 : ¬ w 21 0 = P) (q0 : ¬ w 21 0 = P + 1) (b1 : a 196 = w 21 1) (c1 : a 197 = w 22 1) (p1 : ¬ w 21 1 = P) (q1 : ¬ w 21 1 = P + 1) (b2 : a 198 = w 21 2) (c2 : a 199 = w 22 2) (p2 : ¬ w 21 2 = P) (q2 : ¬ w 21 2 = P + 1) (n01 : ¬ w 21 0 = w 21 1) (n02 : ¬ w 21 0 = w 21 2) (n12 : ¬ w 21 1 = w 21 2) : advG (k + 10) P w mm a := by
  unfold advG
  simp -implicitDefEqProofs [fX3_advance, fX3_advance_L7, fX3_advance_L88, fX3_advance_L94, fX3_advance_L130, fX12_headed, fX12_headed_L34, fX12_headed_L51, fX12_headed_L67, fX12_headAt, fX12_headAt_L2, ck, thn, bnd, inb, acp, st_d, sr_e, sr_n, sr_sr, upd_e, upd_n, ok_some, va_cpy, outH_10, outH_20, outH_21, outH_30, outH_31, outH_32, h20, h16, hPQ, hQP, b0, c0, p0, q0, b1, c1, p1, q1, b2, c2, p2, q2, n01, n02, n12]
  refine ⟨?_, ?_, ⟨3, by decide, ?_, ?_, rws_3.mpr ⟨?_, ?_, ?_⟩, rws_3.mpr ⟨?_, ?_, ?_⟩⟩, ⟨3, by decide, ?_, dis_3 ?_ ?_ ?_⟩⟩
  · intro c h1 h2 h3
    simp [sr_n, h1, h2, h3]
  · intro j h1 h2
    simp (disch := omega) only [upd_n]
  all_goals first | (simp [nI_l1, nI_l2, nI_l3, sr_e, sr_n, upd_e, upd_n, va_cpy, h20, h16, hPQ, hQP, b0, c0, p0, q0, b1, c1, p1, q1, b2, c2, p2, q2, n01, n02, n12]; done) | skip
theorem adv_ok {N : Nat} (hN : 10 ≤ N) {w mm : RS} {a : Nat → Int32} (hr : RH w a) (hi : IH w) (P : Int32) : advG N P w mm a := by
  obtain ⟨k, rfl⟩ : ∃ k, N = k + 10 := ⟨N - 10, by omega⟩
  have hPQ : ¬ P = P + 1 := by grind
  have hQP : ¬ P + 1 = P := by grind
  obtain ⟨h, hh, h20, h16, hb, hc⟩ := hr
  obtain ⟨h', hh2, h20', hd⟩ := hi
  have hhh : h' = h := (eq_nI (by omega) (by omega)).mp (h20'.symm.trans h20)
  subst hhh
  rcases (by omega : h' = 0 ∨ h' = 1 ∨ h' = 2 ∨ h' = 3) with rfl | rfl | rfl | rfl
  · have h20 : w 20 0 = 0 := h20
    have h16 : a 16 = 0 := h16
    exact adv_0 hPQ hQP h20 h16
  · have h20 : w 20 0 = 1 := h20
    have h16 : a 16 = 1 := h16
    have b0 := rws_1.mp hb
    have c0 := rws_1.mp hc
    by_cases p0 : w 21 0 = P
    · skip
      exact adv_1P hPQ hQP h20 h16 b0 c0 p0
    · by_cases q0 : w 21 0 = P + 1
      · have p0 := q0
        exact adv_1Q hPQ hQP h20 h16 b0 c0 p0
      · skip
        exact adv_1N hPQ hQP h20 h16 b0 c0 p0 q0
  · have h20 : w 20 0 = 2 := h20
    have h16 : a 16 = 2 := h16
    obtain ⟨b0, b1⟩ := rws_2.mp hb
    obtain ⟨c0, c1⟩ := rws_2.mp hc
    have n01 : ¬ w 21 0 = w 21 1 := fun q => absurd (hd 0 (by omega) 1 (by omega) q) (by omega)
    by_cases p0 : w 21 0 = P
    · skip
      by_cases p1 : w 21 1 = P
      · skip
        exact absurd (p0.trans p1.symm) n01
      · by_cases q1 : w 21 1 = P + 1
        · have p1 := q1
          exact adv_2PQ hPQ hQP h20 h16 b0 c0 p0 b1 c1 p1 n01
        · skip
          exact adv_2PN hPQ hQP h20 h16 b0 c0 p0 b1 c1 p1 q1 n01
    · by_cases q0 : w 21 0 = P + 1
      · have p0 := q0
        by_cases p1 : w 21 1 = P
        · skip
          exact adv_2QP hPQ hQP h20 h16 b0 c0 p0 b1 c1 p1 n01
        · by_cases q1 : w 21 1 = P + 1
          · have p1 := q1
            exact absurd (p0.trans p1.symm) n01
          · skip
            exact adv_2QN hPQ hQP h20 h16 b0 c0 p0 b1 c1 p1 q1 n01
      · skip
        by_cases p1 : w 21 1 = P
        · skip
          exact adv_2NP hPQ hQP h20 h16 b0 c0 p0 q0 b1 c1 p1 n01
        · by_cases q1 : w 21 1 = P + 1
          · have p1 := q1
            exact adv_2NQ hPQ hQP h20 h16 b0 c0 p0 q0 b1 c1 p1 n01
          · skip
            exact adv_2NN hPQ hQP h20 h16 b0 c0 p0 q0 b1 c1 p1 q1 n01
  · have h20 : w 20 0 = 3 := h20
    have h16 : a 16 = 3 := h16
    obtain ⟨b0, b1, b2⟩ := rws_3.mp hb
    obtain ⟨c0, c1, c2⟩ := rws_3.mp hc
    have n01 : ¬ w 21 0 = w 21 1 := fun q => absurd (hd 0 (by omega) 1 (by omega) q) (by omega)
    have n02 : ¬ w 21 0 = w 21 2 := fun q => absurd (hd 0 (by omega) 2 (by omega) q) (by omega)
    have n12 : ¬ w 21 1 = w 21 2 := fun q => absurd (hd 1 (by omega) 2 (by omega) q) (by omega)
    by_cases p0 : w 21 0 = P
    · skip
      by_cases p1 : w 21 1 = P
      · skip
        by_cases p2 : w 21 2 = P
        · skip
          exact absurd (p0.trans p1.symm) n01
        · by_cases q2 : w 21 2 = P + 1
          · have p2 := q2
            exact absurd (p0.trans p1.symm) n01
          · skip
            exact absurd (p0.trans p1.symm) n01
      · by_cases q1 : w 21 1 = P + 1
        · have p1 := q1
          by_cases p2 : w 21 2 = P
          · skip
            exact absurd (p0.trans p2.symm) n02
          · by_cases q2 : w 21 2 = P + 1
            · have p2 := q2
              exact absurd (p1.trans p2.symm) n12
            · skip
              exact adv_3PQN hPQ hQP h20 h16 b0 c0 p0 b1 c1 p1 b2 c2 p2 q2 n01 n02 n12
        · skip
          by_cases p2 : w 21 2 = P
          · skip
            exact absurd (p0.trans p2.symm) n02
          · by_cases q2 : w 21 2 = P + 1
            · have p2 := q2
              exact adv_3PNQ hPQ hQP h20 h16 b0 c0 p0 b1 c1 p1 q1 b2 c2 p2 n01 n02 n12
            · skip
              exact adv_3PNN hPQ hQP h20 h16 b0 c0 p0 b1 c1 p1 q1 b2 c2 p2 q2 n01 n02 n12
    · by_cases q0 : w 21 0 = P + 1
      · have p0 := q0
        by_cases p1 : w 21 1 = P
        · skip
          by_cases p2 : w 21 2 = P
          · skip
            exact absurd (p1.trans p2.symm) n12
          · by_cases q2 : w 21 2 = P + 1
            · have p2 := q2
              exact absurd (p0.trans p2.symm) n02
            · skip
              exact adv_3QPN hPQ hQP h20 h16 b0 c0 p0 b1 c1 p1 b2 c2 p2 q2 n01 n02 n12
        · by_cases q1 : w 21 1 = P + 1
          · have p1 := q1
            by_cases p2 : w 21 2 = P
            · skip
              exact absurd (p0.trans p1.symm) n01
            · by_cases q2 : w 21 2 = P + 1
              · have p2 := q2
                exact absurd (p0.trans p1.symm) n01
              · skip
                exact absurd (p0.trans p1.symm) n01
          · skip
            by_cases p2 : w 21 2 = P
            · skip
              exact adv_3QNP hPQ hQP h20 h16 b0 c0 p0 b1 c1 p1 q1 b2 c2 p2 n01 n02 n12
            · by_cases q2 : w 21 2 = P + 1
              · have p2 := q2
                exact absurd (p0.trans p2.symm) n02
              · skip
                exact adv_3QNN hPQ hQP h20 h16 b0 c0 p0 b1 c1 p1 q1 b2 c2 p2 q2 n01 n02 n12
      · skip
        by_cases p1 : w 21 1 = P
        · skip
          by_cases p2 : w 21 2 = P
          · skip
            exact absurd (p1.trans p2.symm) n12
          · by_cases q2 : w 21 2 = P + 1
            · have p2 := q2
              exact adv_3NPQ hPQ hQP h20 h16 b0 c0 p0 q0 b1 c1 p1 b2 c2 p2 n01 n02 n12
            · skip
              exact adv_3NPN hPQ hQP h20 h16 b0 c0 p0 q0 b1 c1 p1 b2 c2 p2 q2 n01 n02 n12
        · by_cases q1 : w 21 1 = P + 1
          · have p1 := q1
            by_cases p2 : w 21 2 = P
            · skip
              exact adv_3NQP hPQ hQP h20 h16 b0 c0 p0 q0 b1 c1 p1 b2 c2 p2 n01 n02 n12
            · by_cases q2 : w 21 2 = P + 1
              · have p2 := q2
                exact absurd (p1.trans p2.symm) n12
              · skip
                exact adv_3NQN hPQ hQP h20 h16 b0 c0 p0 q0 b1 c1 p1 b2 c2 p2 q2 n01 n02 n12
          · skip
            by_cases p2 : w 21 2 = P
            · skip
              exact adv_3NNP hPQ hQP h20 h16 b0 c0 p0 q0 b1 c1 p1 q1 b2 c2 p2 n01 n02 n12
            · by_cases q2 : w 21 2 = P + 1
              · have p2 := q2
                exact adv_3NNQ hPQ hQP h20 h16 b0 c0 p0 q0 b1 c1 p1 q1 b2 c2 p2 n01 n02 n12
              · skip
                exact adv_3NNN hPQ hQP h20 h16 b0 c0 p0 q0 b1 c1 p1 q1 b2 c2 p2 q2 n01 n02 n12

