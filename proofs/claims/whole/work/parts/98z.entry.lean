/-! THE LAW from its entry; the claim -/
def eN (z t1 t2 : Nat) (adK adV : Nat → Nat) : Nat → Nat := fun n => match n with
  | 0 => z
  | 1 => t1
  | 2 => t2
  | n + 3 => if n < 7 then adK n else adV (n - 7)
theorem eN_K {z t1 t2 : Nat} {adK adV : Nat → Nat} {i : Nat} (h : i < 7) : eN z t1 t2 adK adV (3 + i) = adK i := by
  rw [Nat.add_comm]
  exact if_pos h
theorem eN_V {z t1 t2 : Nat} {adK adV : Nat → Nat} {i : Nat} : eN z t1 t2 adK adV (10 + i) = adV i := by
  rw [show 10 + i = (7 + i) + 3 from by omega]
  show (if 7 + i < 7 then adK (7 + i) else adV (7 + i - 7)) = adV i
  rw [if_neg (by omega), show 7 + i - 7 = i from by omega]
theorem wAll_h {s : State} {args : Array Value} (hts : ∀ w ∈ lw_tbl, w.before args s = true) : ∀ w ∈ wAll, w.before args s = true := fun w h => hts w (List.mem_filter.mp h).1
theorem nwok_h {s : State} {args : Array Value} (hts : ∀ w ∈ lw_tbl, w.before args s = true) : nwok s := by
  intro w hw
  have hb := (List.mem_filter.mp hw).2
  have h1 := hts w (List.mem_filter.mp hw).1
  cases w with
  | fieldLinkNest => exact va_Nw.of rfl h1
  | methodLinkNest => exact va_Nw.of rfl h1
  | arrayOver ty =>
    cases ty with
    | object C => exact va_AO.of h1
    | _ => exact absurd hb (by simp [isNestW])
  | _ => exact absurd hb (by simp [isNestW])
theorem classes_h {s : State} {args : Array Value} (hts : ∀ w ∈ lw_tbl, w.before args s = true) : ∃ f : Nat → ClassId × (Nat → Nat), ∀ k q, classes[k]? = some q → u_Kn s q.1 q.2.1 q.2.2 (f k).1 (f k).2 := by
  have hw := wAll_h hts
  have hcl : ∀ k : Nat, ∃ z : ClassId × (Nat → Nat), ∀ q, classes[k]? = some q → u_Kn s q.1 q.2.1 q.2.2 z.1 z.2 := by
    intro k
    match k with
    | 0 =>
      obtain ⟨c, i, h⟩ := u_known (C := RX0) (T := TX0) (N := 2) (n := 2) hw kX0.1 (hw _ q340)
      exact ⟨(c, i), fun q hq => by cases hq; exact h⟩
    | 1 =>
      obtain ⟨c, i, h⟩ := u_known (C := RX1) (T := TX1) (N := 4) (n := 4) hw kX1.1 (hw _ q267)
      exact ⟨(c, i), fun q hq => by cases hq; exact h⟩
    | 2 =>
      obtain ⟨c, i, h⟩ := u_known (C := RX2) (T := TX2) (N := 12) (n := 12) hw kX2.1 (hw _ q205)
      exact ⟨(c, i), fun q hq => by cases hq; exact h⟩
    | 3 =>
      obtain ⟨c, i, h⟩ := u_known (C := RX3) (T := TX3) (N := 3) (n := 3) hw kX3.1 (hw _ q291)
      exact ⟨(c, i), fun q hq => by cases hq; exact h⟩
    | 4 =>
      obtain ⟨c, i, h⟩ := u_known (C := RX4) (T := TX4) (N := 3) (n := 3) hw kX4.1 (hw _ q381)
      exact ⟨(c, i), fun q hq => by cases hq; exact h⟩
    | 5 =>
      obtain ⟨c, i, h⟩ := u_known (C := RX5) (T := TX5) (N := 5) (n := 5) hw kX5.1 (hw _ q308)
      exact ⟨(c, i), fun q hq => by cases hq; exact h⟩
    | 6 =>
      obtain ⟨c, i, h⟩ := u_known (C := RX6) (T := TX6) (N := 13) (n := 13) hw kX6.1 (hw _ q401)
      exact ⟨(c, i), fun q hq => by cases hq; exact h⟩
    | 7 =>
      obtain ⟨c, i, h⟩ := u_known (C := RX7) (T := TX7) (N := 8) (n := 8) hw kX7.1 (hw _ q455)
      exact ⟨(c, i), fun q hq => by cases hq; exact h⟩
    | 8 =>
      obtain ⟨c, i, h⟩ := u_known (C := RX8) (T := TX8) (N := 14) (n := 14) hw kX8.1 (hw _ q486)
      exact ⟨(c, i), fun q hq => by cases hq; exact h⟩
    | 9 =>
      obtain ⟨c, i, h⟩ := u_known (C := RX9) (T := TX9) (N := 3) (n := 3) hw kX9.1 (hw _ q733)
      exact ⟨(c, i), fun q hq => by cases hq; exact h⟩
    | 10 =>
      obtain ⟨c, i, h⟩ := u_known (C := RX10) (T := TX10) (N := 6) (n := 6) hw kX10.1 (hw _ q199)
      exact ⟨(c, i), fun q hq => by cases hq; exact h⟩
    | 11 =>
      obtain ⟨c, i, h⟩ := u_known (C := RX11) (T := TX11) (N := 11) (n := 11) hw kX11.1 (hw _ q191)
      exact ⟨(c, i), fun q hq => by cases hq; exact h⟩
    | 12 =>
      obtain ⟨c, i, h⟩ := u_known (C := RX12) (T := TX12) (N := 27) (n := 27) hw kX12.1 (hw _ q1344)
      exact ⟨(c, i), fun q hq => by cases hq; exact h⟩
    | k + 13 => exact ⟨(0, fun _ => 0), fun q hq => by simp [classes] at hq⟩
  exact Classical.axiomOfChoice hcl
theorem arr_h {s : State} {args : Array Value} {ty : FieldType} (h : (Cond.arrayClass ty).before args s = true) : ∃ cA : ClassId, ArrOfT s cA ty ∧ s.vm.findClass ("[" ++ ty.toString) = some cA := by
  obtain ⟨cA, kA, comp, h1, h2, h3⟩ := Cond.arrayClass_spec h
  exact ⟨cA, fun n z => ⟨fun k h => (by cases h), kA, h2, comp, h3⟩, h1⟩
theorem arrO_h {s : State} {C : String} (h : va_AO C s) : ∃ cA : ClassId, ArrOfT s cA (.object C) ∧ va_RA s cA (.object C) := by
  obtain ⟨comp, c, k, h1, h2, h3, h4, h5⟩ := Cond.arrayOver_spec h
  exact ⟨c, fun n z => ⟨fun k h => (by cases h), k, h3, comp, h4⟩, k, comp, h3, h4, h1, h5⟩
set_option maxRecDepth 100000 in
theorem law_E {s : State} {args : Array Value} (hts : ∀ w ∈ lw_tbl, w.before args s = true) (hgv : (Jvm.Cond.and given_1 narrow_1).before args s = true) : ∃ E : GE, E.2.2 0 = s.heap.size ∧ va_K E.1 classes (tysE E) s ∧ stok E s s.heap := by
  have hs := flat_of_before _ hgv
  have hw := wAll_h hts
  have hnw := nwok_h hts
  have hA : ∀ a : Nat, a < s.heap.size → ¬ (fun q : Nat => s.heap.size ≤ q) a := fun a h => Nat.not_le.mpr h
  obtain ⟨f, hf⟩ := classes_h hts
  obtain ⟨c0, k0, r0⟩ := arr_h (hw _ q265)
  obtain ⟨c1, k1, r1⟩ := arr_h (hw _ q453)
  obtain ⟨c2, k2, r2⟩ := arrO_h (C := "WarmExtents$Text") (hnw _ q538)
  obtain ⟨c3, k3, r3⟩ := arrO_h (C := "WarmExtents$World") (hnw _ q387)
  obtain ⟨t1, ht1, hT1⟩ := va_Tof (args := args) (s := s) (tm := .static "WarmExtents" "SIZE" "[I") (ty := .int) (N := 10) (f := fun j => .int (sizeT j)) (A := fun q : Nat => s.heap.size ≤ q) (by decide) (hs _ (by decide +kernel)) (va_eqt (z := Int32.ofNat 10) (hs _ (by decide +kernel))) (fun j hj => va_eqt (hs _ ((by decide +kernel : ∀ j, j < 10 → Cond.eq (.elem (.static "WarmExtents" "SIZE" "[I") (.int (Int32.ofNat j))) (.int (sizeT j)) ∈ flatC (Jvm.Cond.and given_1 narrow_1)) j hj))) hA
  obtain ⟨t2, ht2, hT2⟩ := va_Tof (args := args) (s := s) (tm := .static "WarmExtents" "START" "[I") (ty := .int) (N := 10) (f := fun j => .int (startT j)) (A := fun q : Nat => s.heap.size ≤ q) (by decide) (hs _ (by decide +kernel)) (va_eqt (z := Int32.ofNat 10) (hs _ (by decide +kernel))) (fun j hj => va_eqt (hs _ ((by decide +kernel : ∀ j, j < 10 → Cond.eq (.elem (.static "WarmExtents" "START" "[I") (.int (Int32.ofNat j))) (.int (startT j)) ∈ flatC (Jvm.Cond.and given_1 narrow_1)) j hj))) hA
  have hZ1 : va_Z "WarmExtents" "SIZE" "[I" (.ref t1) (fun q : Nat => s.heap.size ≤ q) s s.heap := va_Zref (hts _ (tq3 (List.mem_of_getElem? (i := 121) (by decide +kernel)))) (hw _ q168) ht1 hA
  have hZ2 : va_Z "WarmExtents" "START" "[I" (.ref t2) (fun q : Nat => s.heap.size ≤ q) s s.heap := va_Zref (hts _ (tq3 (List.mem_of_getElem? (i := 161) (by decide +kernel)))) (hw _ q168) ht2 hA
  have hZc : va_Z "java/lang/String" "COMPACT_STRINGS" "Z" (.int 1) (fun q : Nat => s.heap.size ≤ q) s s.heap := va_Zof (hts _ (tq2 (List.mem_of_getElem? (i := 223) (by decide +kernel)))) (hw _ q180) (va_eqi (hs _ (by decide +kernel))) hA
  have hZq : va_Zq "jdk/internal/util/Preconditions" "SIOOBE_FORMATTER" "Ljava/util/function/BiFunction;" (fun q : Nat => s.heap.size ≤ q) s s.heap := va_Zqof (hts _ (tq2 (List.mem_of_getElem? (i := 239) (by decide +kernel)))) (hw _ q182) (hs _ (by decide +kernel)) hA
  obtain ⟨adK, adV, hS, hSr⟩ := vk_Sof (args := args) (s := s) (N := 7) (tm := fun i => .string RX8 (idxS i)) (len := lenS) (byt := bytS) (A := fun q : Nat => s.heap.size ≤ q) (by decide)
    (fun i hi => hs _ ((by decide +kernel : ∀ i, i < 7 → Cond.exactly (.string RX8 (idxS i)) "java/lang/String" ∈ flatC (Jvm.Cond.and given_1 narrow_1)) i hi))
    (fun i hi => hs _ ((by decide +kernel : ∀ i, i < 7 → Cond.eq (.field (.string RX8 (idxS i)) "java/lang/String" "coder" "B") (.int 0) ∈ flatC (Jvm.Cond.and given_1 narrow_1)) i hi))
    (fun i hi => hs _ ((by decide +kernel : ∀ i, i < 7 → Cond.arrayOf (.field (.string RX8 (idxS i)) "java/lang/String" "value" "[B") .byte ∈ flatC (Jvm.Cond.and given_1 narrow_1)) i hi))
    (fun i hi => hs _ ((by decide +kernel : ∀ i, i < 7 → Cond.eq (.length (.field (.string RX8 (idxS i)) "java/lang/String" "value" "[B")) (.int (Int32.ofNat (lenS.getD i 0))) ∈ flatC (Jvm.Cond.and given_1 narrow_1)) i hi))
    (fun i hi j hj => hs _ ((by decide +kernel : ∀ i, i < 7 → ∀ j, j < lenS.getD i 0 → Cond.eq (.elem (.field (.string RX8 (idxS i)) "java/lang/String" "value" "[B") (.int (Int32.ofNat j))) (.int ((bytS.getD i []).getD j 0)) ∈ flatC (Jvm.Cond.and given_1 narrow_1)) i hi j hj))
    (fun i j hi hj hij => ((by decide +kernel : ∀ i, i < 7 → ∀ j, j < 7 → i ≠ j → (Cond.not (Cond.eq (.string RX8 (idxS i)) (.string RX8 (idxS j))) ∈ flatC (Jvm.Cond.and given_1 narrow_1) ∨ Cond.not (Cond.eq (.string RX8 (idxS j)) (.string RX8 (idxS i))) ∈ flatC (Jvm.Cond.and given_1 narrow_1))) i hi j hj hij).imp (hs _) (hs _)) hA
  have hR : ∀ i, i < 7 → vk_R RX8 (idxS i) (txS i) (adK i) s := by
    intro i hi
    refine vk_R.of (A := args) ?_ (hSr i hi)
    match i, hi with
    | 0, _ => exact hts _ (tq2 (List.mem_of_getElem? (i := 209) (by decide +kernel)))
    | 1, _ => exact hts _ (tq3 (List.mem_of_getElem? (i := 22) (by decide +kernel)))
    | 2, _ => exact hts _ (tq3 (List.mem_of_getElem? (i := 23) (by decide +kernel)))
    | 3, _ => exact hts _ (tq3 (List.mem_of_getElem? (i := 24) (by decide +kernel)))
    | 4, _ => exact hts _ (tq3 (List.mem_of_getElem? (i := 25) (by decide +kernel)))
    | 5, _ => exact hts _ (tq3 (List.mem_of_getElem? (i := 26) (by decide +kernel)))
    | 6, _ => exact hts _ (tq3 (List.mem_of_getElem? (i := 27) (by decide +kernel)))
  refine ⟨((fun k => (f k).1, fun k => (f k).2), fun k => [c0, c1, c2, c3].getD k 0, eN s.heap.size t1 t2 adK adV), rfl, ⟨fun k q hq => hf k q hq, fun k q hq => ?_⟩, hZ1, hT1, hZ2, hT2, ⟨fun i hi => ?_, fun i j hi hj e => ?_⟩, fun i hi => ?_, hZc, hZq⟩
  · match k, hq with
    | 0, hq => cases hq; exact ⟨k0, r0⟩
    | 1, hq => cases hq; exact ⟨k1, r1⟩
    | 2, hq => cases hq; exact ⟨k2, r2⟩
    | 3, hq => cases hq; exact ⟨k3, r3⟩
    | k + 4, hq => simp at hq
  · have := hS.1 i hi
    rw [← eN_K (z := s.heap.size) (t1 := t1) (t2 := t2) (adK := adK) (adV := adV) hi, ← eN_V (z := s.heap.size) (t1 := t1) (t2 := t2) (adK := adK) (adV := adV) (i := i)] at this
    exact this
  · refine hS.2 i j hi hj ?_
    rw [← eN_K (z := s.heap.size) (t1 := t1) (t2 := t2) (adK := adK) (adV := adV) hi, ← eN_K (z := s.heap.size) (t1 := t1) (t2 := t2) (adK := adK) (adV := adV) hj]
    exact e
  · have := hR i hi
    rw [← eN_K (z := s.heap.size) (t1 := t1) (t2 := t2) (adK := adK) (adV := adV) hi] at this
    exact this
