/-! ROWS of making: arrays, objects, constructors -/
section G4
variable {p : Program} {l : Launch} {e : Env} {R : Room} {s : State} {m : MethodId} {args : Array Value} {below : List Frame} {meth : Method} {c : Code} {H : Heap} {locs : List Loc} {cells slots : Nat} {Q : State → Prop}
variable {E : GE} {cc bytes : ByteArray} {nL maxL d d2 mc ms MC MS idx n pc a b ci N : Nat} {own : String} {A : Nat → Prop} {y : MethodName} {ws ws' wc wr : va_W} {As rest st av : List Value} {ls : Array Slot} {fs : List Value} {RC : String} {T : u_T} {ty0 : Nat → FieldType}
theorem g_newi (C : gC E p m c cc nL s args own A) (hG : gG E A s.heap ws H locs) (hw : Cond.arrayClass .int ∈ wAll) {x : Int32} {N' : Nat} (hn : ¬ x < 0) (hN : x.toNatClampNeg = N') (hb2 : N' * 4 ≤ 536870912) (hcells : cells + 1 ≤ R.cells) (hslots : slots + N' ≤ R.slots) (hdg : decode cc pc = .ok (.newarray .int, 2))
    (kk : ∀ (q : Nat) (H1 : Heap), gG E A s.heap (ws ++ [(q, .inl (E.2.1 0, N', .inl (fun _ => 0)))]) H1 locs → W p l e R s m args below meth c H1 locs (cells + 1) (slots + N') Q (F0 m (pc + 2) ls (.ref q :: rest))) : W p l e R s m args below meth c H locs cells slots Q (F0 m pc ls (.int x :: rest)) := by
  refine va_newa (atype := .int) (ty := .int) (a0 := (N', .inl (fun _ => 0))) C.1.1 C.1.2.1 (C.1.2.2.2.2 _ hw) rfl C.2.1 hG.1 hG.2.1 hG.2.2 C.2.2.2.2.2 (fun _ => rfl) hn hN hb2 hcells hslots hdg ?_
  intro q cA H1 hK1 hP hD hS
  have h0 : s.vm.findClass ("[" ++ (FieldType.int).toString) = some (E.2.1 0) := (C.2.1.2 0 (E.2.1 0, .int) rfl).2
  have h1 : s.vm.findClass ("[" ++ (FieldType.int).toString) = some cA := (hK1.2 4 (cA, .int) rfl).2
  have hc : cA = E.2.1 0 := Option.some.inj (h1.symm.trans h0)
  subst hc
  exact kk q H1 ⟨hP, hD, hS⟩
theorem g_newz (C : gC E p m c cc nL s args own A) (hG : gG E A s.heap ws H locs) (hw : Cond.arrayClass .boolean ∈ wAll) {x : Int32} {N' : Nat} (hn : ¬ x < 0) (hN : x.toNatClampNeg = N') (hb2 : N' * 1 ≤ 536870912) (hcells : cells + 1 ≤ R.cells) (hslots : slots + N' ≤ R.slots) (hdg : decode cc pc = .ok (.newarray .boolean, 2))
    (kk : ∀ (q : Nat) (H1 : Heap), gG E A s.heap (ws ++ [(q, .inl (E.2.1 1, N', .inl (fun _ => 0)))]) H1 locs → W p l e R s m args below meth c H1 locs (cells + 1) (slots + N') Q (F0 m (pc + 2) ls (.ref q :: rest))) : W p l e R s m args below meth c H locs cells slots Q (F0 m pc ls (.int x :: rest)) := by
  refine va_newa (atype := .boolean) (ty := .boolean) (a0 := (N', .inl (fun _ => 0))) C.1.1 C.1.2.1 (C.1.2.2.2.2 _ hw) rfl C.2.1 hG.1 hG.2.1 hG.2.2 C.2.2.2.2.2 (fun _ => rfl) hn hN hb2 hcells hslots hdg ?_
  intro q cA H1 hK1 hP hD hS
  have h0 : s.vm.findClass ("[" ++ (FieldType.boolean).toString) = some (E.2.1 1) := (C.2.1.2 1 (E.2.1 1, .boolean) rfl).2
  have h1 : s.vm.findClass ("[" ++ (FieldType.boolean).toString) = some cA := (hK1.2 4 (cA, .boolean) rfl).2
  have hc : cA = E.2.1 1 := Option.some.inj (h1.symm.trans h0)
  subst hc
  exact kk q H1 ⟨hP, hD, hS⟩
theorem g_new (C : gC E p m c cc nL s args own A) (hG : gG E A s.heap ws H locs) (K : gK ci RC T N ty0) (hcl : Cond.classLink own idx RC ∈ wAll) (hinst : Cond.instantiable RC N ∈ wAll) (hini : Cond.initialized RC ∈ wAll) {fs : List Value} (hfs : ∀ j, j < N → defaultValue (ty0 j) = vp_V fs j) (hcells : cells + 1 ≤ R.cells) (hslots : slots + N ≤ R.slots) (hdg : decode cc pc = .ok (.new idx, 3))
    (kk : ∀ (q : Nat) (H1 : Heap), gG E A s.heap (ws ++ [(q, .inr (ci, fs))]) H1 locs → W p l e R s m args below meth c H1 locs (cells + 1) (slots + N) Q (F0 m (pc + 3) ls (.ref q :: rest))) : W p l e R s m args below meth c H locs cells slots Q (F0 m pc ls rest) :=
  va_new (C := RC) (T := T) (N := N) C.1.1 C.1.2.1 C.1.2.2.2.2 K.1 ty0 K.2.2.1 C.1.2.2.2.1 (C.1.2.2.2.2 _ hcl) (C.1.2.2.2.2 _ hinst) (C.1.2.2.2.2 _ hini) C.2.1 hG.1 hG.2.1 hG.2.2 C.2.2.2.2.2 K.2.1 hfs hcells hslots hdg (fun q H1 hP hD hS => kk q H1 ⟨hP, hD, hS⟩)
theorem gS_F (C : gC E p m c cc nL s args own A) (hG : gG E A s.heap ws H locs) (K : gK ci RC T N ty0) (hmi : meth.name = "<init>") (q0 k : Nat) (he : ws[q0]? = some (a, .inr (ci, fs))) (hk : k < N) {v : Value} {ref : String} (hlk : Cond.fieldLink own idx ref (T k).2.1 (T k).2.2.1 ∈ wAll) (hrf : (T k).1 = ref) (hfin : (T k).2.2.2 = true) (hdecl : (T k).1 = own) (hn : narrow (ty0 k) v = v) (hfit : fits (ty0 k) v = true) (hl : k < fs.length) (hdg : decode cc pc = .ok (.putfield idx, 3)) (hw : ws.set q0 (a, .inr (ci, fs.set k v)) = ws')
    (kk : ∀ (H1 : Heap) (locs1 : List Loc), gG E A s.heap ws' H1 locs1 → W p l e R s m args below meth c H1 locs1 cells slots Q (F0 m (pc + 3) ls rest)) : W p l e R s m args below meth c H locs cells slots Q (F0 m pc ls (v :: .ref a :: rest)) :=
  va_putF (C := RC) (T := T) (N := N) C.1.1 C.1.2.1 C.1.2.2.2.2 K.1 ty0 K.2.2.1 K.2.2.2 C.1.2.2.2.1 C.2.1 hG.1 hG.2.1 hG.2.2 q0 he K.2.1 k hk (C.1.2.2.2.2 _ hlk) (fun _ h => hrf ▸ h) hfin hmi hdecl (K.2.2.1 k hk) hn hfit hl hdg (fun H1 locs1 hP hD hS => kk H1 locs1 (gG_of hP hD hS hw))
/-- a constructor: from the bare object at a to a region at ad, ad 0 = a -/
def gMn (l : Launch) (E : GE) (y : MethodName) (cc : ByteArray) (maxL d mc ms ci : Nat) (dfl : List Value) (mk : (Nat → Nat) → va_W) : Prop :=
  ∀ a sz : Nat, Met l y (.code y cc maxL none :: wAll) (rmD d mc ms) (va_Pc [.ref a] (gB E [(a, .inr (ci, dfl))] sz)) (va_Qv (fun ad : Nat → Nat => ad 0 = a) (fun ad t => va_P E.1 classes (mk ad) t.heap ∧ va_D (va_A [(a, .inr (ci, dfl))] sz) (mk ad)) (va_A [(a, .inr (ci, dfl))] sz)) mc ms (va_A [(a, .inr (ci, dfl))] sz)
theorem gMn_of {dfl : List Value} {mk : (Nat → Nat) → va_W} (hy : plainFor y = true) (ho : y.cls = own) (hm : 1 ≤ maxL) (hi : y.name = "<init>")
    (body : ∀ (a : Nat) (p : Program) (e : Env) (s : State) (m : MethodId) (args : Array Value) (below : List Frame) (meth : Method) (c : Code) (A : Nat → Prop) (ls : Array Slot) (Q : State → Prop) (H0 : Heap) (locs0 : List Loc), gC E p m c cc maxL s args own A → E.2.2 0 ≤ s.heap.size → lv_has ls maxL [(0, .ref a)] → gG E A s.heap [(a, .inr (ci, dfl))] H0 locs0 → meth.name = "<init>" →
      (∀ (H : Heap) (locs : List Loc) (pc : Nat) (ls' : Array Slot) (ad : Nat → Nat), ad 0 = a → gG E A s.heap (mk ad) H locs → decode cc pc = .ok (.return_, 1) → W p l e (rmD d mc ms) s m args below meth c H locs mc ms Q (F0 m pc ls' [])) →
      W p l e (rmD d mc ms) s m args below meth c H0 locs0 0 0 Q (F0 m 0 ls [])) : gMn l E y cc maxL d mc ms ci dfl mk := by
  intro a sz
  refine mofW (cc := cc) (maxL := maxL) (ret := none) hy rfl ?_
  intro p e s m args below meth c s₁ Bd hml hv
  obtain ⟨rfl, hsz, hP, hK, hD0, hz, hnw, hst⟩ := hv
  subst hsz
  have hx := Bd.exec
  have hb := Bd.bytes
  have hr := Bd.returns
  have hts := atoms_spec (ws := .code y cc maxL none :: wAll) Bd.pre
  have hown : s.vm.findClass y.cls = some m.cls := findClass_of_methodNamed Bd.named
  have hlocks := Bd.notSynchronized
  have hin : meth.name = "<init>" := (name_of_methodNamed Bd.named Bd.method).1.trans hi
  have hD : va_D (va_A [(a, .inr (ci, dfl))] s.heap.size) [(a, .inr (ci, dfl))] := hD0.self
  have hl := lv_entry [.ref a] (n := maxL) hm
  rw [lg_entry_eq]
  refine body a p e s m [Value.ref a].toArray below meth c (va_A [(a, .inr (ci, dfl))] s.heap.size) _ _ s.heap [] ⟨⟨hx, hb, hml, ho ▸ hown, fun w hw => hts w (List.mem_cons_of_mem _ hw)⟩, hK, hnw, hst, ?_, fun q h => Or.inr h⟩ hz hl ⟨hP, hD, va_S.rf⟩ hin ?_
  · intro q hq
    rcases va_A_mem.mp hq with h | h
    · obtain ⟨q2, h2, rfl⟩ := List.mem_map.mp h
      exact (va_D_nd.mp hD0).2 q2 h2
    · exact Nat.le_trans hz h
  · intro H locs pc ls' ad had hG hdg
    exact W.vret hx hb hr (fun t ht hW => ⟨⟨ad, rfl, had, by rw [ht]; exact hG.1, hG.2.1⟩, hG.2.2.F ht⟩) hG.2.2.2.2 hdg
theorem gR_I {dfl : List Value} {mk : (Nat → Nat) → va_W} {host : String} (C : gC E p m c cc nL s args own A) (hz : E.2.2 0 ≤ s.heap.size) (hsz : ls.size = nL) (hG : gG E A s.heap (wr ++ [(b, .inr (ci, dfl))]) H locs)
    (M : gMn l E y bytes maxL d2 mc ms ci dfl mk) (hi : y.name = "<init>") (h1 : Cond.instanceMethod y ∈ wAll) (h3 : Cond.code y bytes maxL none ∈ wAll) (h4 : Cond.initialized y.cls ∈ wAll) (h5 : gYd y 0) (h6 : maxL ≤ 45) (hlk : Cond.methodLinkNest own idx y host ∈ nwAll)
    (hW : (rest.map fun v => v.category).sum ≤ 8) (hdd : d2 + 1 ≤ d) (hf : cells + mc ≤ MC ∧ slots + ms ≤ MS) (hdg : decode cc pc = .ok (.invokespecial idx, 3))
    (kk : ∀ (H1 : Heap) (locs1 : List Loc) (ad : Nat → Nat), ad 0 = b → gG E A s.heap (wr ++ mk ad) H1 locs1 → W p l e (rmD d MC MS) s m args below meth c H1 locs1 (cells + mc) (slots + ms) Q (F0 m (pc + 3) ls rest)) : W p l e (rmD d MC MS) s m args below meth c H locs cells slots Q (F0 m pc ls (.ref b :: rest)) := by
  have hp : (wr ++ ([(b, .inr (ci, dfl))] : va_W)).Perm (([(b, .inr (ci, dfl))] : va_W) ++ wr) := List.perm_append_comm
  obtain ⟨hF, hK, hnw, hst, hAz, hA⟩ := id C
  have hFr := gA_of C hG hp
  refine va_callv (va_runIN (n := 0) (host := host) (As := []) (rest := rest) hF (M b H.size) ⟨va_cnB 0 hF.2.2.2.2 (g_in h3) rfl rfl rfl (hnw _ hlk) (hF.2.2.2.2 _ h4) h5 ⟨hdd, by show 8 + (maxL + 11) + 64 * d2 ≤ 64 * d; omega⟩, hi, hF.2.2.2.2 _ h1⟩ ⟨gB_blind, fun U hU hW => ⟨rfl, gB_of C hG hp hz hU hW⟩⟩ rfl rfl hsz rfl (by show 2 * 0 + _ ≤ 8; omega) hdg hf) hG.2.2 (fun q _ h => hFr q h) hFr ?_
  intro ad t H1 locs1 ht hvm hw hB hz1 hk1 hS
  rw [ht] at hB
  obtain ⟨hP, hD⟩ := gJ (va_P_perm hp hG.1) (va_D_perm hp hG.2.1) hk1 hFr hB.1 hB.2
  exact kk H1 locs1 ad hw ⟨va_P_perm List.perm_append_comm hP, va_D_perm List.perm_append_comm hD, hS⟩
theorem gG_nil {H0 : Heap} {w : va_W} (h : gG E A H0 (w ++ []) H locs) : gG E A H0 w H locs := by rwa [List.append_nil] at h
end G4
