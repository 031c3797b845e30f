/-! COPIES OF WORLDS -/
def dom (c : Nat) : Nat := [0, 13, 0, 10, 10, 10, 10, 10, 10, 10, 10, 10, 10, 10, 10, 0, 23, 9, 23, 9, 1, 3, 3, 1, 10, 10, 10, 10, 1, 100].getD c 0
/-- w' is w wherever a World has cells -/
def EW (w w' : RS) : Prop := ∀ c, c < 30 → ∀ i, i < dom c → w' c i = w c i
theorem EW.rf {w : RS} : EW w w := fun _ _ _ _ => rfl
theorem EW.tr {w1 w2 w3 : RS} (h1 : EW w1 w2) (h2 : EW w2 w3) : EW w1 w3 := fun c hc i hi => (h2 c hc i hi).trans (h1 c hc i hi)
theorem EW.at {w w' : RS} (h : EW w w') (c n : Nat) (hc : c < 30) (hn : dom c = n) : ∀ i, i < n → w' c i = w c i := fun i hi => h c hc i (by omega)
theorem EW.row {w w' : RS} (h : EW w w') {c n o : Nat} {a a' : Nat → Int32} (hc : c < 30) (hn : n ≤ dom c) (ha : ∀ k, o ≤ k → k < o + n → a' k = a k) (hr : row n o (w c) a) : row n o (w' c) a' := row_cg (fun i hi => h c hc i (by omega)) ha hr
theorem EW.rws {w w' : RS} (h : EW w w') {c n o s : Nat} {a a' : Nat → Int32} (hc : c < 30) (hn : n ≤ dom c) (ha : ∀ i, i < n → a' (o + s * i) = a (o + s * i)) (hr : rws n o s (w c) a) : rws n o s (w' c) a' := rws_cg (fun i hi => h c hc i (by omega)) ha hr
theorem RW_EW {w w' : RS} {a a' : Nat → Int32} (h : EW w w') (ha : ∀ k, 3 ≤ k → k < 350 → a' k = a k) (hr : RW w a) : RW w' a' := by
  obtain ⟨hC, ⟨x1, x2, x3, x4, x5, x6, x7, x8, x9, x10, x11⟩, ⟨d1, d2, d3⟩, hE, ⟨hh, h1, h2, h3, h4, h5⟩, ⟨m, v1, v2, v3, v4, v5, v6, v7⟩, ⟨n, b1, b2, b3, b4⟩⟩ := hr
  refine ⟨h.row (by decide) (by decide) (fun k k1 k2 => ha k (by omega) (by omega)) hC, ⟨?_, ?_, ?_, ?_, ?_, ?_, ?_, ?_, ?_, ?_, ?_⟩, ⟨?_, ?_, ?_⟩, ?_, ⟨hh, h1, ?_, ?_, ?_, ?_⟩, ⟨m, v1, ?_, ?_, ?_, ?_, ?_, ?_⟩, ⟨n, b1, ?_, ?_, ?_⟩⟩
  · exact h.row (by decide) (by decide) (fun k k1 k2 => ha k (by omega) (by omega)) x1
  · exact h.row (by decide) (by decide) (fun k k1 k2 => ha k (by omega) (by omega)) x2
  · exact h.row (by decide) (by decide) (fun k k1 k2 => ha k (by omega) (by omega)) x3
  · exact h.row (by decide) (by decide) (fun k k1 k2 => ha k (by omega) (by omega)) x4
  · exact h.row (by decide) (by decide) (fun k k1 k2 => ha k (by omega) (by omega)) x5
  · exact h.row (by decide) (by decide) (fun k k1 k2 => ha k (by omega) (by omega)) x6
  · exact h.row (by decide) (by decide) (fun k k1 k2 => ha k (by omega) (by omega)) x7
  · exact h.row (by decide) (by decide) (fun k k1 k2 => ha k (by omega) (by omega)) x8
  · exact h.row (by decide) (by decide) (fun k k1 k2 => ha k (by omega) (by omega)) x9
  · exact h.row (by decide) (by decide) (fun k k1 k2 => ha k (by omega) (by omega)) x10
  · exact h.row (by decide) (by decide) (fun k k1 k2 => ha k (by omega) (by omega)) x11
  · exact h.row (by decide) (by decide) (fun k k1 k2 => ha k (by omega) (by omega)) d1
  · exact h.row (by decide) (by decide) (fun k k1 k2 => ha k (by omega) (by omega)) d2
  · exact h.row (by decide) (by decide) (fun k k1 k2 => ha k (by omega) (by omega)) d3
  · intro e he q
    rw [h.at 3 10 (by decide) rfl e he] at q
    rw [h.at 8 10 (by decide) rfl e he, ha _ (by omega) (by omega), ha _ (by omega) (by omega)]
    exact hE e he q
  · rw [h.at 20 1 (by decide) rfl 0 (by decide)]; exact h2
  · rw [ha _ (by omega) (by omega)]; exact h3
  · exact h.rws (by decide) (Nat.le_trans h1 (by decide)) (fun i hi => ha _ (by omega) (by omega)) h4
  · exact h.rws (by decide) (Nat.le_trans h1 (by decide)) (fun i hi => ha _ (by omega) (by omega)) h5
  · rw [h.at 23 1 (by decide) rfl 0 (by decide)]; exact v2
  · rw [ha _ (by omega) (by omega)]; exact v3
  · exact h.rws (by decide) (Nat.le_trans v1 (by decide)) (fun i hi => ha _ (by omega) (by omega)) v4
  · exact h.rws (by decide) (Nat.le_trans v1 (by decide)) (fun i hi => ha _ (by omega) (by omega)) v5
  · exact h.rws (by decide) (Nat.le_trans v1 (by decide)) (fun i hi => ha _ (by omega) (by omega)) v6
  · exact h.rws (by decide) (Nat.le_trans v1 (by decide)) (fun i hi => ha _ (by omega) (by omega)) v7
  · rw [h.at 28 1 (by decide) rfl 0 (by decide)]; exact b2
  · rw [ha _ (by omega) (by omega)]; exact b3
  · exact h.row (by decide) (Nat.le_trans (Nat.mul_le_mul_left 4 b1) (by decide)) (fun k k1 k2 => ha k (by omega) (by omega)) b4
theorem IW_EW {w w' : RS} (h : EW w w') (hi : IW w) : IW w' := by
  have a3 := h.at 3 10 (by decide) rfl
  have a18 := h.at 18 23 (by decide) rfl
  have a19 := h.at 19 9 (by decide) rfl
  have a23 := h.at 23 1 (by decide) rfl 0 (by decide)
  have a24 := h.at 24 10 (by decide) rfl
  have a25 := h.at 25 10 (by decide) rfl
  have a26 := h.at 26 10 (by decide) rfl
  have a1 := h.at 1 13 (by decide) rfl
  have all : ∀ {c : Nat} {P : Nat → Int32 → Prop}, c < 30 → dom c = 10 → (∀ e, e < 10 → P e (w c e)) → ∀ e, e < 10 → P e (w' c e) := fun {c P} hc hd q e he => by rw [h.at c 10 hc hd e he]; exact q e he
  obtain ⟨⟨z1, z2, z3, z4, z5, z6, z7, z8⟩, ⟨d1, d2⟩, ⟨hh, h1, h2, h3⟩, ⟨m, v1, v2, v3, v4⟩, iS, ⟨c1, c2, c3, c4⟩⟩ := hi
  refine ⟨⟨all (P := fun _ x => bit1 x) (by decide) rfl z1, all (P := fun _ x => upto 2 x) (by decide) rfl z2, all (P := fun e x => upto (2 ^ szN e - 1) x) (by decide) rfl z3, fun e he q => ?_, all (P := fun _ x => upto 9999 x) (by decide) rfl z5, all (P := fun _ x => upto 255 x) (by decide) rfl z6, all (P := fun _ x => upto 9999 x) (by decide) rfl z7, all (P := fun _ x => upto 255 x) (by decide) rfl z8⟩, ⟨fun p hp => ?_, fun s hs => ?_⟩, ⟨hh, h1, ?_, fun i hi2 j hj q => ?_⟩, ⟨m, v1, a23.trans v2, fun i hi2 => ?_, fun i hi2 j hj q => ?_⟩, fun e he b hb => ?_, ⟨?_, ?_, ?_, ?_⟩⟩
  · rw [a3 e he] at q
    rw [h.at 6 10 (by decide) rfl e he]
    exact z4 e he q
  · rw [a18 p hp]
    rcases d1 p hp with q | ⟨s, s1, s2, s3⟩
    · exact Or.inl q
    · exact Or.inr ⟨s, s1, s2, (a19 s s1).trans s3⟩
  · rw [a19 s hs]
    rcases d2 s hs with q | ⟨p, s1, s2, s3⟩
    · exact Or.inl q
    · exact Or.inr ⟨p, s1, s2, (a18 p s1).trans s3⟩
  · exact (h.at 20 1 (by decide) rfl 0 (by decide)).trans h2
  · rw [h.at 21 3 (by decide) rfl i (by omega), h.at 21 3 (by decide) rfl j (by omega)] at q
    exact h3 i hi2 j hj q
  · obtain ⟨e, e1, e2, e3, e4⟩ := v3 i hi2
    exact ⟨e, e1, (a24 i (by omega)).trans e2, by rw [a25 i (by omega), a3 e e1]; exact e3, by rw [a26 i (by omega)]; exact e4⟩
  · rw [a24 i (by omega), a24 j (by omega)] at q
    exact v4 i hi2 j hj q
  · rw [a18 _ (stN_lt he hb), iS e he b hb, HSl_iff v2 v1, HSl_iff (a23.trans v2) v1, a3 e he]
    constructor
    · rintro (z | ⟨i, i1, i2, i3⟩)
      · exact Or.inl z
      · exact Or.inr ⟨i, i1, (a24 i (by omega)).trans i2, (a26 i (by omega)).trans i3⟩
    · rintro (z | ⟨i, i1, i2, i3⟩)
      · exact Or.inl z
      · exact Or.inr ⟨i, i1, (a24 i (by omega)).symm.trans i2, (a26 i (by omega)).symm.trans i3⟩
  · rw [a1 1 (by decide)]; exact c1
  · rw [a1 4 (by decide)]; exact c2
  · rw [a1 5 (by decide)]; exact c3
  · rw [a1 6 (by decide)]; exact c4
theorem IK_EW {K : Nat} {w w' : RS} (h : EW w w') (hi : IK K w) : IK K w' := IK_cg (h.at 1 13 (by decide) rfl 3 (by decide)) (h.at 1 13 (by decide) rfl 7 (by decide)) (h.at 1 13 (by decide) rfl 8 (by decide)) hi
/-! the class's copy -/
def AG (S : List Nat) (vv w : RS) : Prop := ∀ c, c ∈ S → ∀ i, i < dom c → w c i = vv c i
theorem AG_s {S : List Nat} {vv w : RS} {c : Nat} {f : Nat → Int32} (hf : ∀ i, i < dom c → f i = vv c i) (h : AG S vv w) : AG (c :: S) vv (sr w c f) := fun d hd i hi => by
  by_cases q : d = c
  · subst q; rw [sr_e]; exact hf i hi
  · rw [sr_n q]; exact h d ((List.mem_cons.mp hd).resolve_left q) i hi
theorem cpy_f {vv : RS} {c n : Nat} {g : Nat → Int32} (hn : dom c = n) : ∀ i, i < dom c → va_cpy (vv c) g 0 0 n i = vv c i := fun i hi => by
  rw [pk_cpy_in (Nat.zero_le _) (by omega)]
  congr 1
  omega
theorem one_f {vv : RS} {c : Nat} {g : Nat → Int32} (hn : dom c = 1) : ∀ i, i < dom c → upd g 0 (vv c 0) i = vv c i := fun i hi => by
  have : i = 0 := by omega
  subst this
  exact upd_e _ _ _
theorem copy_AG (ww vv : RS) : AG [29, 28, 27, 26, 25, 24, 23, 22, 21, 20, 19, 18, 17, 16, 14, 13, 12, 11, 10, 9, 8, 7, 6, 5, 4, 3, 1] vv (fX10_copyFrom ww vv) := by
  unfold fX10_copyFrom fX2_copyFrom fX1_copyFrom fX3_copyFrom fX5_copyFrom fX0_copyFrom
  simp only [thn_e, st_d]
  refine AG_s (cpy_f rfl) (AG_s (one_f rfl) ?_)
  refine AG_s (cpy_f rfl) (AG_s (cpy_f rfl) (AG_s (cpy_f rfl) (AG_s (cpy_f rfl) (AG_s (one_f rfl) ?_))))
  refine AG_s (cpy_f rfl) (AG_s (cpy_f rfl) (AG_s (one_f rfl) ?_))
  refine AG_s (cpy_f rfl) (AG_s (cpy_f rfl) (AG_s (cpy_f rfl) (AG_s (cpy_f rfl) ?_)))
  refine AG_s (cpy_f rfl) (AG_s (cpy_f rfl) (AG_s (cpy_f rfl) (AG_s (cpy_f rfl) ?_)))
  refine AG_s (cpy_f rfl) (AG_s (cpy_f rfl) (AG_s (cpy_f rfl) (AG_s (cpy_f rfl) ?_)))
  refine AG_s (cpy_f rfl) (AG_s (cpy_f rfl) (AG_s (cpy_f rfl) (AG_s (cpy_f rfl) ?_)))
  exact AG_s (cpy_f rfl) (fun c hc => absurd hc List.not_mem_nil)
theorem copy_EW (ww vv : RS) : EW vv (fX10_copyFrom ww vv) := fun c hc i hi => by
  refine copy_AG ww vv c ?_ i hi
  have : ∀ c, c < 30 → dom c ≠ 0 → c ∈ [29, 28, 27, 26, 25, 24, 23, 22, 21, 20, 19, 18, 17, 16, 14, 13, 12, 11, 10, 9, 8, 7, 6, 5, 4, 3, 1] := by decide
  exact this c hc (by omega)
