/-! BASE: one list of words for all methods, worlds as regions, contracts by a pure function's answer -/
def wAll : List Cond := lw_tbl.filter goodWord
theorem w_in {k : Nat} {w : Cond} (h : lw_tbl[k]? = some w) (g : goodWord w = true) : w ∈ wAll := List.mem_filter.mpr ⟨List.mem_of_getElem? h, g⟩
theorem wAll_good : ∀ w ∈ wAll, (w.onTables && w.keeps) = true ∨ ∃ ty, w = .arrayClass ty := fun _ h => good_of_word (List.mem_filter.mp h).2
theorem g_in {c1 : Cond} (h : c1 ∈ wAll) : GoodIn wAll (c1 :: wAll) := fun w hw => by
  rcases List.mem_cons.mp hw with rfl | hw
  · exact ⟨h, wAll_good _ h⟩
  · exact ⟨hw, wAll_good _ hw⟩
def isNestW : Cond → Bool
  | .fieldLinkNest .. => true
  | .methodLinkNest .. => true
  | .arrayOver (.object _) => true
  | _ => false
def nwAll : List Cond := lw_tbl.filter isNestW
theorem nw_in {k : Nat} {w : Cond} (h : lw_tbl[k]? = some w) (g : isNestW w = true) : w ∈ nwAll := List.mem_filter.mpr ⟨List.mem_of_getElem? h, g⟩
def nwok (U : State) : Prop := ∀ w ∈ nwAll, va_Nw w U
theorem nwok.warm {s U : State} (hW : s.WarmedH U.vm) (h : nwok s) : nwok U := by
  intro w hw
  have hb := (List.mem_filter.mp hw).2
  have h1 := h w hw
  cases w with
  | fieldLinkNest => exact va_Nw.warmF hW h1
  | methodLinkNest => exact va_Nw.warmM hW h1
  | arrayOver ty =>
    cases ty with
    | object C => exact va_AO.moved hW.alike h1
    | _ => exact absurd hb (by simp [isNestW])
  | _ => exact absurd hb (by simp [isNestW])
theorem nwok.same {u U : State} (e : u.vm = U.vm) (h : nwok u) : nwok U := by
  intro w hw
  have hb := (List.mem_filter.mp hw).2
  have h1 := h w hw
  cases w with
  | fieldLinkNest => exact va_Nw.same rfl e h1
  | methodLinkNest => exact va_Nw.same rfl e h1
  | arrayOver ty =>
    cases ty with
    | object C => exact va_AO.moved (e ▸ Vm.Alike.refl _) h1
    | _ => exact absurd hb (by simp [isNestW])
  | _ => exact absurd hb (by simp [isNestW])
/-- class ids and slots; class ids of the arrays (0 int, 1 boolean, 2 of texts, 3 of worlds); 0 the heap's size at the law's start, 1 and 2 the cells of SIZE and START -/
abbrev GE : Type := va_G × (Nat → ClassId) × (Nat → Nat)
abbrev classes : List vw_C := [(RX0, TX0, 2), (RX1, TX1, 4), (RX2, TX2, 12), (RX3, TX3, 3), (RX4, TX4, 3), (RX5, TX5, 5), (RX6, TX6, 13), (RX7, TX7, 8), (RX8, TX8, 14), (RX9, TX9, 3), (RX10, TX10, 6), (RX11, TX11, 11), (RX12, TX12, 27)]
abbrev tysE (E : GE) : List (ClassId × FieldType) := [(E.2.1 0, .int), (E.2.1 1, .boolean), (E.2.1 2, .object "WarmExtents$Text"), (E.2.1 3, .object "WarmExtents$World")]
def sizeT (j : Nat) : Int32 := ([1, 2, 3, 4, 1, 2, 3, 4, 1, 2] : List Int32).getD j 0
def startT (j : Nat) : Int32 := ([0, 1, 3, 6, 10, 11, 13, 16, 20, 21] : List Int32).getD j 0
def lenS : List Nat := [4, 5, 4, 4, 5, 4, 2]
def bytS : List (List Int32) := [[114, 101, 97, 100], [119, 114, 105, 116, 101], [115, 99, 97, 110], [116, 105, 99, 107], [99, 114, 97, 115, 104], [108, 111, 111, 112], [105, 102]]
def idxS (i : Nat) : Nat := [110, 116, 118, 120, 122, 124, 126].getD i 0
def txS (i : Nat) : String := ["read", "write", "scan", "tick", "crash", "loop", "if"].getD i ""
/-- the String constants of the reader (cells 3 .. 9, their bytes at 10 .. 16), two statics of the JDK -/
def strok (E : GE) (U : State) (H : Heap) : Prop :=
  vk_S 7 lenS bytS (fun i => E.2.2 (3 + i)) (fun i => E.2.2 (10 + i)) (fun q => E.2.2 0 ≤ q) U H ∧ (∀ i, i < 7 → vk_R RX8 (idxS i) (txS i) (E.2.2 (3 + i)) U) ∧
  va_Z "java/lang/String" "COMPACT_STRINGS" "Z" (.int 1) (fun q => E.2.2 0 ≤ q) U H ∧ va_Zq "jdk/internal/util/Preconditions" "SIOOBE_FORMATTER" "Ljava/util/function/BiFunction;" (fun q => E.2.2 0 ≤ q) U H
def stok (E : GE) (U : State) (H : Heap) : Prop :=
  va_Z "WarmExtents" "SIZE" "[I" (.ref (E.2.2 1)) (fun q => E.2.2 0 ≤ q) U H ∧ va_T .int (E.2.2 1) 10 (fun j => .int (sizeT j)) (fun q => E.2.2 0 ≤ q) U H ∧
  va_Z "WarmExtents" "START" "[I" (.ref (E.2.2 2)) (fun q => E.2.2 0 ≤ q) U H ∧ va_T .int (E.2.2 2) 10 (fun j => .int (startT j)) (fun q => E.2.2 0 ≤ q) U H ∧ strok E U H
theorem stok.warm {E : GE} {s U : State} {H : Heap} (hW : s.WarmedH U.vm) (h : stok E s H) : stok E U H := ⟨h.1.moved hW.alike, h.2.1.moved hW.alike, h.2.2.1.moved hW.alike, h.2.2.2.1.moved hW.alike, h.2.2.2.2.1.moved hW.alike, fun i hi => (h.2.2.2.2.2.1 i hi).warm hW, h.2.2.2.2.2.2.1.moved hW.alike, h.2.2.2.2.2.2.2.moved hW.alike⟩
theorem stok.same {E : GE} {u U : State} {H : Heap} (e : u.vm = U.vm) (h : stok E u H) : stok E U H := ⟨h.1.moved (e ▸ Vm.Alike.refl _), h.2.1.moved (e ▸ Vm.Alike.refl _), h.2.2.1.moved (e ▸ Vm.Alike.refl _), h.2.2.2.1.moved (e ▸ Vm.Alike.refl _), h.2.2.2.2.1.moved (e ▸ Vm.Alike.refl _), fun i hi => vk_R.same e.symm (h.2.2.2.2.2.1 i hi), h.2.2.2.2.2.2.1.moved (e ▸ Vm.Alike.refl _), h.2.2.2.2.2.2.2.moved (e ▸ Vm.Alike.refl _)⟩
theorem stok.kept {E : GE} {U : State} {H H1 : Heap} (h : stok E U H) (hq : ∀ a : Nat, a < H.size → ¬ (E.2.2 0 ≤ a) → H1[a]? = H[a]?) : stok E U H1 := ⟨h.1.kept hq, h.2.1.kept hq, h.2.2.1.kept hq, h.2.2.2.1.kept hq, h.2.2.2.2.1.kept hq, h.2.2.2.2.2.1, h.2.2.2.2.2.2.1.kept hq, h.2.2.2.2.2.2.2.kept hq⟩
/-- a method's start -/
def gB (E : GE) (ws : va_W) (sz : Nat) (U : State) : Prop := U.heap.size = sz ∧ va_P E.1 classes ws U.heap ∧ va_K E.1 classes (tysE E) U ∧ va_D (fun q => E.2.2 0 ≤ q) ws ∧ E.2.2 0 ≤ sz ∧ nwok U ∧ stok E U U.heap
/-- the world within a walk -/
def gG (E : GE) (A : Nat → Prop) (H0 : Heap) (ws : va_W) (H : Heap) (locs : List Loc) : Prop := va_P E.1 classes ws H ∧ va_D A ws ∧ va_S A H0 H locs
/-- what stands fast within a walk -/
def gC (E : GE) (p : Program) (m : MethodId) (c : Code) (cc : ByteArray) (nL : Nat) (s : State) (args : Array Value) (own : String) (A : Nat → Prop) : Prop :=
  CallFix p m c cc nL s args wAll own ∧ va_K E.1 classes (tysE E) s ∧ nwok s ∧ stok E s s.heap ∧ (∀ q : Nat, A q → E.2.2 0 ≤ q) ∧ (∀ q : Nat, s.heap.size ≤ q → A q)
def rmD (d mc ms : Nat) : Room := { frames := d, cells := mc, slots := ms, locals := 64 * d }
/-- the contract of a method that answers an int (a boolean): it answers r, and leaves ws' -/
def gMi (l : Launch) (E : GE) (y : MethodName) (cc : ByteArray) (maxL : Nat) (rt : FieldType) (d mc ms : Nat) (av : List Value) (ws ws' : va_W) (r : Int32) : Prop :=
  ∀ sz : Nat, Met l y (.code y cc maxL (some rt) :: wAll) (rmD d mc ms) (va_Pc av (gB E ws sz)) (va_Qi (fun x (_ : Unit) => x = r ∧ narrow rt (.int r) = .int r) (fun _ t => va_P E.1 classes ws' t.heap ∧ va_D (va_A ws sz) ws') (va_A ws sz)) mc ms (va_A ws sz)
def gMl (l : Launch) (E : GE) (y : MethodName) (cc : ByteArray) (maxL : Nat) (d mc ms : Nat) (av : List Value) (ws ws' : va_W) (r : Int64) : Prop :=
  ∀ sz : Nat, Met l y (.code y cc maxL (some .long) :: wAll) (rmD d mc ms) (va_Pc av (gB E ws sz)) (va_Ql (fun x (_ : Unit) => x = r) (fun _ t => va_P E.1 classes ws' t.heap ∧ va_D (va_A ws sz) ws') (va_A ws sz)) mc ms (va_A ws sz)
def gMv (l : Launch) (E : GE) (y : MethodName) (cc : ByteArray) (maxL : Nat) (d mc ms : Nat) (av : List Value) (ws ws' : va_W) : Prop :=
  ∀ sz : Nat, Met l y (.code y cc maxL none :: wAll) (rmD d mc ms) (va_Pc av (gB E ws sz)) (va_Qv (fun _ : Unit => True) (fun _ t => va_P E.1 classes ws' t.heap ∧ va_D (va_A ws sz) ws') (va_A ws sz)) mc ms (va_A ws sz)
theorem va_D_nd {A : Nat → Prop} {ws : va_W} : va_D A ws ↔ (ws.map Prod.fst).Nodup ∧ ∀ q ∈ ws, A q.1 := by
  constructor
  · intro h
    refine ⟨?_, fun q hq => ?_⟩
    · rw [List.nodup_iff_pairwise_ne, List.pairwise_iff_getElem]
      intro i j hi hj hij he
      rw [List.length_map] at hi hj
      have := h.1 i j ws[i] ws[j] (List.getElem?_eq_getElem hi) (List.getElem?_eq_getElem hj) (by simpa using he)
      omega
    · obtain ⟨k, hk⟩ := List.getElem?_of_mem hq
      exact h.2 k q hk
  · intro h
    refine ⟨fun i j p q hi hj he => ?_, fun k q hk => h.2 q (List.mem_of_getElem? hk)⟩
    have hp := List.pairwise_iff_getElem.mp (List.nodup_iff_pairwise_ne.mp h.1)
    obtain ⟨hi', ei⟩ := List.getElem?_eq_some_iff.mp hi
    obtain ⟨hj', ej⟩ := List.getElem?_eq_some_iff.mp hj
    rcases Nat.lt_trichotomy i j with q1 | q1 | q1
    · exact absurd (by rw [List.getElem_map, List.getElem_map, ei, ej, he]) (hp i j (by simpa using hi') (by simpa using hj') q1)
    · exact q1
    · exact absurd (by rw [List.getElem_map, List.getElem_map, ei, ej, he]) (hp j i (by simpa using hj') (by simpa using hi') q1)
theorem va_P_mem {D : va_G} {cl : List vw_C} {ws : va_W} {H : Heap} : va_P D cl ws H ↔ ∀ q ∈ ws, va_at D cl q H := by
  constructor
  · intro h q hq
    obtain ⟨k, hk⟩ := List.getElem?_of_mem hq
    exact h k q hk
  · intro h k q hk
    exact h q (List.mem_of_getElem? hk)
theorem va_P_perm {D : va_G} {cl : List vw_C} {ws ws' : va_W} {H : Heap} (hp : ws.Perm ws') (h : va_P D cl ws H) : va_P D cl ws' H := va_P_mem.mpr fun q hq => va_P_mem.mp h q (hp.mem_iff.mpr hq)
theorem va_D_perm {A : Nat → Prop} {ws ws' : va_W} (hp : ws.Perm ws') (h : va_D A ws) : va_D A ws' := by
  rw [va_D_nd] at h ⊢
  exact ⟨(hp.map Prod.fst).nodup_iff.mp h.1, fun q hq => h.2 q (hp.mem_iff.mpr hq)⟩
theorem va_A_mem {ws : va_W} {sz q : Nat} : va_A ws sz q ↔ q ∈ ws.map Prod.fst ∨ sz ≤ q := by
  constructor
  · rintro (⟨k, e, h⟩ | h)
    · exact Or.inl (List.mem_map.mpr ⟨(q, e), List.mem_of_getElem? h, rfl⟩)
    · exact Or.inr h
  · rintro (h | h)
    · obtain ⟨⟨a, e⟩, h1, rfl⟩ := List.mem_map.mp h
      obtain ⟨k, hk⟩ := List.getElem?_of_mem h1
      exact Or.inl ⟨k, e, hk⟩
    · exact Or.inr h
/-- a callee's cells wc came back as w1: the rest wr beside them is unchanged -/
theorem gJ {E : GE} {A : Nat → Prop} {wc wr w1 : va_W} {H H1 : Heap} (hP : va_P E.1 classes (wc ++ wr) H) (hD : va_D A (wc ++ wr)) (hk : ∀ q : Nat, q < H.size → ¬ va_A wc H.size q → H1[q]? = H[q]?) (hA : ∀ q, va_A wc H.size q → A q) (hP1 : va_P E.1 classes w1 H1) (hD1 : va_D (va_A wc H.size) w1) : va_P E.1 classes (w1 ++ wr) H1 ∧ va_D A (w1 ++ wr) := by
  rw [va_D_nd] at hD hD1
  rw [va_P_mem] at hP hP1
  have hnr : ∀ q ∈ wr, q.1 < H.size ∧ ¬ va_A wc H.size q.1 := by
    intro q hq
    have hlt := (hP q (List.mem_append_right _ hq)).lt
    refine ⟨hlt, fun ha => ?_⟩
    rcases va_A_mem.mp ha with h | h
    · have := hD.1
      rw [List.map_append, List.nodup_append] at this
      exact this.2.2 _ h _ (List.mem_map.mpr ⟨q, hq, rfl⟩) rfl
    · omega
  constructor
  · rw [va_P_mem]
    intro q hq
    rcases List.mem_append.mp hq with h | h
    · exact hP1 q h
    · exact (hP q (List.mem_append_right _ h)).kept (hk _ (hnr q h).1 (hnr q h).2)
  · rw [va_D_nd]
    constructor
    · rw [List.map_append, List.nodup_append]
      refine ⟨hD1.1, ?_, ?_⟩
      · have := hD.1
        rw [List.map_append, List.nodup_append] at this
        exact this.2.1
      · intro a ha b hb hab
        obtain ⟨q, hq, rfl⟩ := List.mem_map.mp ha
        obtain ⟨q2, hq2, rfl⟩ := List.mem_map.mp hb
        exact (hnr q2 hq2).2 (hab ▸ hD1.2 q hq)
    · intro q hq
      rcases List.mem_append.mp hq with h | h
      · exact hA _ (hD1.2 q h)
      · exact hD.2 q (List.mem_append_right _ h)
theorem gB_blind {E : GE} {av : List Value} {ws : va_W} {sz : Nat} : FrameBlind (va_Pc av (gB E ws sz)) := by
  intro a U g mk h
  obtain ⟨h0, h1, h2, h3, h4, h5, h6, h7⟩ := h
  exact ⟨h0, h1, h2, va_K.moved (u := U) (U := U.calling g mk a) (Vm.Alike.refl U.vm) h3, h4, h5, nwok.same (u := U) (U := U.calling g mk a) rfl h6, stok.same (u := U) (U := U.calling g mk a) rfl h7⟩
theorem gA_of {E : GE} {p : Program} {m : MethodId} {c : Code} {cc : ByteArray} {nL : Nat} {s : State} {args : Array Value} {own : String} {A : Nat → Prop} {wc wr ws : va_W} {H : Heap} {locs : List Loc} (C : gC E p m c cc nL s args own A) (hG : gG E A s.heap ws H locs) (hp : ws.Perm (wc ++ wr)) : ∀ q, va_A wc H.size q → A q := by
  intro q hq
  rcases va_A_mem.mp hq with h | h
  · obtain ⟨q2, h2, rfl⟩ := List.mem_map.mp h
    exact (va_D_nd.mp hG.2.1).2 q2 (hp.mem_iff.mpr (List.mem_append_left _ h2))
  · exact C.2.2.2.2.2 q (Nat.le_trans hG.2.2.1 h)
theorem gB_of {E : GE} {p : Program} {m : MethodId} {c : Code} {cc : ByteArray} {nL : Nat} {s : State} {args : Array Value} {own : String} {A : Nat → Prop} {wc wr ws : va_W} {H : Heap} {locs : List Loc} (C : gC E p m c cc nL s args own A) (hG : gG E A s.heap ws H locs) (hp : ws.Perm (wc ++ wr)) (hz : E.2.2 0 ≤ s.heap.size) {U : State} (hU : U.heap = H) (hW : s.WarmedH U.vm) : gB E wc H.size U := by
  obtain ⟨-, hK, hnw, hst, hAz, hA⟩ := C
  refine ⟨by rw [hU], by rw [hU]; exact va_P_mem.mpr fun q hq => va_P_mem.mp hG.1 q (hp.mem_iff.mpr (List.mem_append_left _ hq)), va_K.moved hW.alike hK, ?_, Nat.le_trans hz hG.2.2.1, nwok.warm hW hnw, stok.warm hW (hU ▸ hst.kept fun a ha hn => hG.2.2.2.1 a ha fun h => hn (hAz a h))⟩
  have hD := va_D_nd.mp (va_D_perm hp hG.2.1)
  rw [va_D_nd]
  refine ⟨?_, fun q hq => hAz _ (hD.2 q (List.mem_append_left _ hq))⟩
  have := hD.1
  rw [List.map_append, List.nodup_append] at this
  exact this.1
