/-! ROWS: starts of walks, calls -/
theorem mofW {l : Launch} {y : MethodName} {ws ws' : List Cond} {rm : Room} {Pc : Array Value → State → Prop} {Qc : Array Value → State → Outcome → State → Prop} {mc ms : Nat} {free : Addr → Prop} {cc : ByteArray} {maxL : Nat} {ret : Option FieldType}
    (hy : plainFor y = true) (hw : ws = Cond.code y cc maxL ret :: ws')
    (body : ∀ p e s m args below meth c s₁, BodyLoose p l y (headSpec ws rm) cc maxL ret e s m args below meth c s₁ → c.maxLocals = maxL → Pc args s →
      W p l e (headSpec ws rm).room s m args below meth c s.heap [] 0 0 (MQ below Qc args s mc ms free) (entryFrame m args maxL)) : Met l y ws rm Pc Qc mc ms free := by
  refine MetFree.of_bodySF (code := cc) (maxLocals := maxL) (ret := ret) hy ?_ ?_
  · intro args s m h hn
    obtain ⟨meth, c, h1, h2, h3, h4, h5, h6, -, -⟩ := Cond.code_spec hn (atoms_spec (ws := ws) h _ (by rw [hw]; exact List.mem_cons_self))
    exact ⟨meth, c, h1, h2, h3, h4, h5, h6⟩
  · intro p e s m args below meth c s₁ B hml hP _
    have hh0 : s₁.heap = s.heap := by rw [B.state]; rfl
    obtain ⟨t, a1, o, b1, b2, b3⟩ := body p e s m args below meth c s₁ B hml hP s₁ hh0 (Stand.of_body B)
    exact ⟨t, o, a1, b1, b2, ⟨b3.1, b3.2⟩⟩
section G1
variable {p : Program} {l : Launch} {e : Env} {R : Room} {s : State} {m : MethodId} {args : Array Value} {below : List Frame} {meth : Method} {c : Code} {H : Heap} {locs : List Loc} {cells slots : Nat} {Q : State → Prop}
variable {E : GE} {cc bytes : ByteArray} {nL maxL d d2 mc ms MC MS idx n pc : Nat} {own : String} {A : Nat → Prop} {y : MethodName} {ret : Option FieldType} {rt : FieldType} {ws ws' wc wc' wr : va_W} {b : Nat} {As rest st av : List Value} {ls : Array Slot} {r : Int32}
theorem gMi_of (hy : plainFor y = true) (ho : y.cls = own) (hav : (lg_sl av).length ≤ maxL)
    (body : ∀ (p : Program) (e : Env) (s : State) (m : MethodId) (args : Array Value) (below : List Frame) (meth : Method) (c : Code) (A : Nat → Prop) (ls : Array Slot) (Q : State → Prop) (H0 : Heap) (locs0 : List Loc), gC E p m c cc maxL s args own A → E.2.2 0 ≤ s.heap.size → lv_has ls maxL (lv_args 0 av) → gG E A s.heap ws H0 locs0 →
      (∀ (H : Heap) (locs : List Loc) (pc : Nat) (ls' : Array Slot), narrow rt (.int r) = .int r → gG E A s.heap ws' H locs → decode cc pc = .ok (.ireturn, 1) → W p l e (rmD d mc ms) s m args below meth c H locs mc ms Q (F0 m pc ls' [.int r])) →
      W p l e (rmD d mc ms) s m args below meth c H0 locs0 0 0 Q (F0 m 0 ls [])) : gMi l E y cc maxL rt d mc ms av ws ws' r := by
  intro sz
  refine mofW (cc := cc) (maxL := maxL) (ret := some rt) hy rfl ?_
  intro p e s m args below meth c s₁ Bd hml hv
  obtain ⟨rfl, hsz, hP, hK, hD0, hz, hnw, hst⟩ := hv
  subst hsz
  have hx := Bd.exec
  have hb := Bd.bytes
  have hr := Bd.returns
  have hts := atoms_spec (ws := .code y cc maxL (some rt) :: wAll) Bd.pre
  have hown : s.vm.findClass y.cls = some m.cls := findClass_of_methodNamed Bd.named
  have hlocks := Bd.notSynchronized
  have hD : va_D (va_A ws s.heap.size) ws := hD0.self
  have hl := lv_entry av (n := maxL) hav
  rw [lg_entry_eq]
  refine body p e s m av.toArray below meth c (va_A ws s.heap.size) _ _ s.heap [] ⟨⟨hx, hb, hml, ho ▸ hown, fun w hw => hts w (List.mem_cons_of_mem _ hw)⟩, hK, hnw, hst, ?_, fun q h => Or.inr h⟩ hz hl ⟨hP, hD, va_S.rf⟩ ?_
  · intro q hq
    rcases va_A_mem.mp hq with h | h
    · obtain ⟨q2, h2, rfl⟩ := List.mem_map.mp h
      exact (va_D_nd.mp hD0).2 q2 h2
    · exact Nat.le_trans hz h
  · intro H locs pc ls' hn hG hdg
    exact W.zret hx hb hr hn (fun t ht hW => ⟨⟨r, (), rfl, ⟨rfl, hn⟩, by rw [ht]; exact hG.1, hG.2.1⟩, hG.2.2.F ht⟩) hG.2.2.2.2 hdg
theorem gMl_of {rl : Int64} (hy : plainFor y = true) (ho : y.cls = own) (hav : (lg_sl av).length ≤ maxL)
    (body : ∀ (p : Program) (e : Env) (s : State) (m : MethodId) (args : Array Value) (below : List Frame) (meth : Method) (c : Code) (A : Nat → Prop) (ls : Array Slot) (Q : State → Prop) (H0 : Heap) (locs0 : List Loc), gC E p m c cc maxL s args own A → E.2.2 0 ≤ s.heap.size → lv_has ls maxL (lv_args 0 av) → gG E A s.heap ws H0 locs0 →
      (∀ (H : Heap) (locs : List Loc) (pc : Nat) (ls' : Array Slot), gG E A s.heap ws' H locs → decode cc pc = .ok (.lreturn, 1) → W p l e (rmD d mc ms) s m args below meth c H locs mc ms Q (F0 m pc ls' [.long rl])) →
      W p l e (rmD d mc ms) s m args below meth c H0 locs0 0 0 Q (F0 m 0 ls [])) : gMl l E y cc maxL d mc ms av ws ws' rl := by
  intro sz
  refine mofW (cc := cc) (maxL := maxL) (ret := some .long) hy rfl ?_
  intro p e s m args below meth c s₁ Bd hml hv
  obtain ⟨rfl, hsz, hP, hK, hD0, hz, hnw, hst⟩ := hv
  subst hsz
  have hx := Bd.exec
  have hb := Bd.bytes
  have hr := Bd.returns
  have hts := atoms_spec (ws := .code y cc maxL (some .long) :: wAll) Bd.pre
  have hown : s.vm.findClass y.cls = some m.cls := findClass_of_methodNamed Bd.named
  have hlocks := Bd.notSynchronized
  have hD : va_D (va_A ws s.heap.size) ws := hD0.self
  have hl := lv_entry av (n := maxL) hav
  rw [lg_entry_eq]
  refine body p e s m av.toArray below meth c (va_A ws s.heap.size) _ _ s.heap [] ⟨⟨hx, hb, hml, ho ▸ hown, fun w hw => hts w (List.mem_cons_of_mem _ hw)⟩, hK, hnw, hst, ?_, fun q h => Or.inr h⟩ hz hl ⟨hP, hD, va_S.rf⟩ ?_
  · intro q hq
    rcases va_A_mem.mp hq with h | h
    · obtain ⟨q2, h2, rfl⟩ := List.mem_map.mp h
      exact (va_D_nd.mp hD0).2 q2 h2
    · exact Nat.le_trans hz h
  · intro H locs pc ls' hG hdg
    exact W.lret hx hb hr (fun t ht hW => ⟨⟨rl, (), rfl, rfl, by rw [ht]; exact hG.1, hG.2.1⟩, hG.2.2.F ht⟩) hG.2.2.2.2 hdg
theorem gMv_of (hy : plainFor y = true) (ho : y.cls = own) (hav : (lg_sl av).length ≤ maxL)
    (body : ∀ (p : Program) (e : Env) (s : State) (m : MethodId) (args : Array Value) (below : List Frame) (meth : Method) (c : Code) (A : Nat → Prop) (ls : Array Slot) (Q : State → Prop) (H0 : Heap) (locs0 : List Loc), gC E p m c cc maxL s args own A → E.2.2 0 ≤ s.heap.size → lv_has ls maxL (lv_args 0 av) → gG E A s.heap ws H0 locs0 → (y.name = "<init>" → meth.name = "<init>") →
      (∀ (H : Heap) (locs : List Loc) (pc : Nat) (ls' : Array Slot), gG E A s.heap ws' H locs → decode cc pc = .ok (.return_, 1) → W p l e (rmD d mc ms) s m args below meth c H locs mc ms Q (F0 m pc ls' [])) →
      W p l e (rmD d mc ms) s m args below meth c H0 locs0 0 0 Q (F0 m 0 ls [])) : gMv l E y cc maxL d mc ms av ws ws' := by
  intro sz
  refine mofW (cc := cc) (maxL := maxL) (ret := none) hy rfl ?_
  intro p e s m args below meth c s₁ Bd hml hv
  obtain ⟨rfl, hsz, hP, hK, hD0, hz, hnw, hst⟩ := hv
  subst hsz
  have hx := Bd.exec
  have hb := Bd.bytes
  have hr := Bd.returns
  have hts := atoms_spec (ws := .code y cc maxL none :: wAll) Bd.pre
  have hown : s.vm.findClass y.cls = some m.cls := findClass_of_methodNamed Bd.named
  have hlocks := Bd.notSynchronized
  have hin : y.name = "<init>" → meth.name = "<init>" := fun q => (name_of_methodNamed Bd.named Bd.method).1.trans q
  have hD : va_D (va_A ws s.heap.size) ws := hD0.self
  have hl := lv_entry av (n := maxL) hav
  rw [lg_entry_eq]
  refine body p e s m av.toArray below meth c (va_A ws s.heap.size) _ _ s.heap [] ⟨⟨hx, hb, hml, ho ▸ hown, fun w hw => hts w (List.mem_cons_of_mem _ hw)⟩, hK, hnw, hst, ?_, fun q h => Or.inr h⟩ hz hl ⟨hP, hD, va_S.rf⟩ hin ?_
  · intro q hq
    rcases va_A_mem.mp hq with h | h
    · obtain ⟨q2, h2, rfl⟩ := List.mem_map.mp h
      exact (va_D_nd.mp hD0).2 q2 h2
    · exact Nat.le_trans hz h
  · intro H locs pc ls' hG hdg
    exact W.vret hx hb hr (fun t ht hW => ⟨⟨(), rfl, trivial, by rw [ht]; exact hG.1, hG.2.1⟩, hG.2.2.F ht⟩) hG.2.2.2.2 hdg
/-- the words of an instance method, of a static one -/
def gYd (y : MethodName) (n : Nat) : Prop := y.cls ≠ "java/lang/invoke/MethodHandle" ∧ y.cls ≠ "java/lang/invoke/VarHandle" ∧ (parseMethodDescriptor y.desc).map (fun d => d.parameters.length) = some n
def gYV (y : MethodName) (bytes : ByteArray) (maxL : Nat) (ret : Option FieldType) (n : Nat) : Prop := Cond.instanceMethod y ∈ wAll ∧ Cond.selects y.cls y y ∈ wAll ∧ Cond.code y bytes maxL ret ∈ wAll ∧ Cond.initialized y.cls ∈ wAll ∧ gYd y n ∧ maxL ≤ 45
def gYS (y : MethodName) (bytes : ByteArray) (maxL : Nat) (ret : Option FieldType) (n : Nat) : Prop := Cond.static y ∈ wAll ∧ Cond.code y bytes maxL ret ∈ wAll ∧ Cond.initialized y.cls ∈ wAll ∧ gYd y n ∧ maxL ≤ 45
theorem gR_V {Qc : Array Value → State → Outcome → State → Prop} {free : Addr → Prop} (C : gC E p m c cc nL s args own A) (hz : E.2.2 0 ≤ s.heap.size) (hsz : ls.size = nL) (hG : gG E A s.heap ws H locs) (hp : ws.Perm (wc ++ wr))
    (M : Met l y (.code y bytes maxL ret :: wAll) (rmD d2 mc ms) (va_Pc (.ref b :: As) (gB E wc H.size)) Qc mc ms free) (hY : gYV y bytes maxL ret n) (hlk : Cond.methodLink own idx y ∈ wAll) (q0 : Nat) {ci : Nat} {fs : List Value} (hrc : wc[q0]? = some (b, .inr (ci, fs))) {T : u_T} {N : Nat} (hcl : classes[ci]? = some (y.cls, T, N))
    (hn : As.length = n) (hW : (rest.map fun v => v.category).sum ≤ 8) (hdd : d2 + 1 ≤ d) (hf : cells + mc ≤ MC ∧ slots + ms ≤ MS) (hdg : decode cc pc = .ok (.invokevirtual idx, 3)) :
    va_Run p l e (rmD d MC MS) s m args below meth c H locs cells slots mc ms (F0 m pc ls (As.reverse ++ .ref b :: rest)) rest (Qc (Value.ref b :: As).toArray) free := by
  obtain ⟨h1, h2, h3, h4, h5, h6⟩ := hY
  obtain ⟨hF, hK, hnw, hst, hAz, hA⟩ := id C
  have hgi : GoodIn wAll (wsV own idx y.cls y (.code y bytes maxL ret :: wAll)) := by
    intro w hw
    unfold wsV at hw
    rcases List.mem_append.mp hw with q | q
    · have hm : w ∈ wAll := by
        simp only [List.mem_cons, List.not_mem_nil, or_false] at q
        rcases q with rfl | rfl | rfl | rfl <;> assumption
      exact ⟨hm, wAll_good _ hm⟩
    · exact g_in h3 w q
  refine va_runV (n := n) hF M (cwV n hF.2.2.2.2 hgi rfl rfl rfl ⟨rfl, h5⟩ ⟨hdd, by show 8 + (maxL + 11) + 64 * d2 ≤ 64 * d; omega⟩) ⟨gB_blind, ?_, fun U hU hW => ⟨rfl, gB_of C hG hp hz hU hW⟩⟩ rfl hn hsz rfl (by show 2 * 0 + _ ≤ 8; omega) hdg hf
  exact va_recv hK (va_P_mem.mpr fun q hq => va_P_mem.mp hG.1 q (hp.mem_iff.mpr (List.mem_append_left _ hq))) hcl hrc
theorem gR_N {Qc : Array Value → State → Outcome → State → Prop} {free : Addr → Prop} {host : String} (C : gC E p m c cc nL s args own A) (hz : E.2.2 0 ≤ s.heap.size) (hsz : ls.size = nL) (hG : gG E A s.heap ws H locs) (hp : ws.Perm (wc ++ wr))
    (M : Met l y (.code y bytes maxL ret :: wAll) (rmD d2 mc ms) (va_Pc (.ref b :: As) (gB E wc H.size)) Qc mc ms free) (hY : gYV y bytes maxL ret n) (hlk : Cond.methodLinkNest own idx y host ∈ nwAll) (q0 : Nat) {ci : Nat} {fs : List Value} (hrc : wc[q0]? = some (b, .inr (ci, fs))) {T : u_T} {N : Nat} (hcl : classes[ci]? = some (y.cls, T, N))
    (hn : As.length = n) (hW : (rest.map fun v => v.category).sum ≤ 8) (hdd : d2 + 1 ≤ d) (hf : cells + mc ≤ MC ∧ slots + ms ≤ MS) (hdg : decode cc pc = .ok (.invokevirtual idx, 3)) :
    va_Run p l e (rmD d MC MS) s m args below meth c H locs cells slots mc ms (F0 m pc ls (As.reverse ++ .ref b :: rest)) rest (Qc (Value.ref b :: As).toArray) free := by
  obtain ⟨h1, h2, h3, h4, h5, h6⟩ := hY
  obtain ⟨hF, hK, hnw, hst, hAz, hA⟩ := id C
  refine va_runVN (n := n) (host := host) hF M ⟨va_cnB n hF.2.2.2.2 (g_in h3) rfl rfl rfl (hnw _ hlk) (hF.2.2.2.2 _ h4) h5 ⟨hdd, by show 8 + (maxL + 11) + 64 * d2 ≤ 64 * d; omega⟩, hF.2.2.2.2 _ h1, hF.2.2.2.2 _ h2⟩ ⟨gB_blind, ?_, fun U hU hW => ⟨rfl, gB_of C hG hp hz hU hW⟩⟩ rfl hn hsz rfl (by show 2 * 0 + _ ≤ 8; omega) hdg hf
  exact va_recv hK (va_P_mem.mpr fun q hq => va_P_mem.mp hG.1 q (hp.mem_iff.mpr (List.mem_append_left _ hq))) hcl hrc
theorem gR_S {Qc : Array Value → State → Outcome → State → Prop} {free : Addr → Prop} (C : gC E p m c cc nL s args own A) (hz : E.2.2 0 ≤ s.heap.size) (hsz : ls.size = nL) (hG : gG E A s.heap ws H locs) (hp : ws.Perm (wc ++ wr))
    (M : Met l y (.code y bytes maxL ret :: wAll) (rmD d2 mc ms) (va_Pc As (gB E wc H.size)) Qc mc ms free) (hY : gYS y bytes maxL ret n) (hlk : Cond.methodLink own idx y ∈ wAll)
    (hn : As.length = n) (hW : (rest.map fun v => v.category).sum ≤ 8) (hdd : d2 + 1 ≤ d) (hf : cells + mc ≤ MC ∧ slots + ms ≤ MS) (hdg : decode cc pc = .ok (.invokestatic idx, 3)) :
    va_Run p l e (rmD d MC MS) s m args below meth c H locs cells slots mc ms (F0 m pc ls (As.reverse ++ rest)) rest (Qc As.toArray) free := by
  obtain ⟨h1, h3, h4, h5, h6⟩ := hY
  obtain ⟨hF, hK, hnw, hst, hAz, hA⟩ := id C
  have hgi : GoodIn wAll (va_wsS own idx y (.code y bytes maxL ret :: wAll)) := by
    intro w hw
    unfold va_wsS at hw
    rcases List.mem_append.mp hw with q | q
    · have hm : w ∈ wAll := by
        simp only [List.mem_cons, List.not_mem_nil, or_false] at q
        rcases q with rfl | rfl | rfl <;> assumption
      exact ⟨hm, wAll_good _ hm⟩
    · exact g_in h3 w q
  exact va_runS (n := n) hF M (va_cwS n hF.2.2.2.2 hgi rfl rfl rfl h5 ⟨hdd, by show 8 + (maxL + 11) + 64 * d2 ≤ 64 * d; omega⟩) ⟨gB_blind, fun U hU hW => ⟨rfl, gB_of C hG hp hz hU hW⟩⟩ rfl hn hsz rfl (by show 2 * 0 + _ ≤ 8; omega) hdg hf
theorem gR_T {Qc : Array Value → State → Outcome → State → Prop} {free : Addr → Prop} {host : String} (C : gC E p m c cc nL s args own A) (hz : E.2.2 0 ≤ s.heap.size) (hsz : ls.size = nL) (hG : gG E A s.heap ws H locs) (hp : ws.Perm (wc ++ wr))
    (M : Met l y (.code y bytes maxL ret :: wAll) (rmD d2 mc ms) (va_Pc As (gB E wc H.size)) Qc mc ms free) (hY : gYS y bytes maxL ret n) (hlk : Cond.methodLinkNest own idx y host ∈ nwAll)
    (hn : As.length = n) (hW : (rest.map fun v => v.category).sum ≤ 8) (hdd : d2 + 1 ≤ d) (hf : cells + mc ≤ MC ∧ slots + ms ≤ MS) (hdg : decode cc pc = .ok (.invokestatic idx, 3)) :
    va_Run p l e (rmD d MC MS) s m args below meth c H locs cells slots mc ms (F0 m pc ls (As.reverse ++ rest)) rest (Qc As.toArray) free := by
  obtain ⟨h1, h3, h4, h5, h6⟩ := hY
  obtain ⟨hF, hK, hnw, hst, hAz, hA⟩ := id C
  exact va_runSN (n := n) (host := host) hF M ⟨va_cnB n hF.2.2.2.2 (g_in h3) rfl rfl rfl (hnw _ hlk) (hF.2.2.2.2 _ h4) h5 ⟨hdd, by show 8 + (maxL + 11) + 64 * d2 ≤ 64 * d; omega⟩, hF.2.2.2.2 _ h1, trivial⟩ ⟨gB_blind, fun U hU hW => ⟨rfl, gB_of C hG hp hz hU hW⟩⟩ rfl hn hsz rfl (by show 2 * 0 + _ ≤ 8; omega) hdg hf
theorem gF_i {a : Array Value} {st0 : List Value} (C : gC E p m c cc nL s args own A) (hG : gG E A s.heap ws H locs) (hp : ws.Perm (wc ++ wr)) (hp' : (wc' ++ wr).Perm ws')
    (hr : va_Run p l e R s m args below meth c H locs cells slots mc ms (F0 m pc ls st0) rest (va_Qi (fun x (_ : Unit) => x = r ∧ narrow rt (.int r) = .int r) (fun _ t => va_P E.1 classes wc' t.heap ∧ va_D (va_A wc H.size) wc') (va_A wc H.size) a) (va_A wc H.size))
    (kk : ∀ (H1 : Heap) (locs1 : List Loc), narrow rt (.int r) = .int r → gG E A s.heap ws' H1 locs1 → W p l e R s m args below meth c H1 locs1 (cells + mc) (slots + ms) Q (F0 m (pc + 3) ls (.int r :: rest))) : W p l e R s m args below meth c H locs cells slots Q (F0 m pc ls st0) := by
  have hF := gA_of C hG hp
  refine va_calli hr hG.2.2 (fun q _ h => hF q h) hF ?_
  intro r1 u t H1 locs1 ht hvm hw hB hz1 hk1 hS
  obtain ⟨rfl, hn⟩ := hw
  rw [ht] at hB
  obtain ⟨hP, hD⟩ := gJ (va_P_perm hp hG.1) (va_D_perm hp hG.2.1) hk1 hF hB.1 hB.2
  exact kk H1 locs1 hn ⟨va_P_perm hp' hP, va_D_perm hp' hD, hS⟩
theorem gF_v {a : Array Value} {st0 : List Value} (C : gC E p m c cc nL s args own A) (hG : gG E A s.heap ws H locs) (hp : ws.Perm (wc ++ wr)) (hp' : (wc' ++ wr).Perm ws')
    (hr : va_Run p l e R s m args below meth c H locs cells slots mc ms (F0 m pc ls st0) rest (va_Qv (fun _ : Unit => True) (fun _ t => va_P E.1 classes wc' t.heap ∧ va_D (va_A wc H.size) wc') (va_A wc H.size) a) (va_A wc H.size))
    (kk : ∀ (H1 : Heap) (locs1 : List Loc), gG E A s.heap ws' H1 locs1 → W p l e R s m args below meth c H1 locs1 (cells + mc) (slots + ms) Q (F0 m (pc + 3) ls rest)) : W p l e R s m args below meth c H locs cells slots Q (F0 m pc ls st0) := by
  have hF := gA_of C hG hp
  refine va_callv hr hG.2.2 (fun q _ h => hF q h) hF ?_
  intro u t H1 locs1 ht hvm hw hB hz1 hk1 hS
  rw [ht] at hB
  obtain ⟨hP, hD⟩ := gJ (va_P_perm hp hG.1) (va_D_perm hp hG.2.1) hk1 hF hB.1 hB.2
  exact kk H1 locs1 ⟨va_P_perm hp' hP, va_D_perm hp' hD, hS⟩
theorem gF_l {a : Array Value} {st0 : List Value} {rl : Int64} (C : gC E p m c cc nL s args own A) (hG : gG E A s.heap ws H locs) (hp : ws.Perm (wc ++ wr)) (hp' : (wc' ++ wr).Perm ws')
    (hr : va_Run p l e R s m args below meth c H locs cells slots mc ms (F0 m pc ls st0) rest (va_Ql (fun x (_ : Unit) => x = rl) (fun _ t => va_P E.1 classes wc' t.heap ∧ va_D (va_A wc H.size) wc') (va_A wc H.size) a) (va_A wc H.size))
    (kk : ∀ (H1 : Heap) (locs1 : List Loc), gG E A s.heap ws' H1 locs1 → W p l e R s m args below meth c H1 locs1 (cells + mc) (slots + ms) Q (F0 m (pc + 3) ls (.long rl :: rest))) : W p l e R s m args below meth c H locs cells slots Q (F0 m pc ls st0) := by
  have hF := gA_of C hG hp
  refine va_calll hr hG.2.2 (fun q _ h => hF q h) hF ?_
  intro r1 u t H1 locs1 ht hvm hw hB hz1 hk1 hS
  subst hw
  rw [ht] at hB
  obtain ⟨hP, hD⟩ := gJ (va_P_perm hp hG.1) (va_D_perm hp hG.2.1) hk1 hF hB.1 hB.2
  exact kk H1 locs1 ⟨va_P_perm hp' hP, va_D_perm hp' hD, hS⟩
/-- a store: the new world -/
theorem gG_of {H1 : Heap} {locs1 : List Loc} {H0 : Heap} {w1 w2 : va_W} (hP : va_P E.1 classes w1 H1) (hD : va_D A w1) (hS : va_S A H0 H1 locs1) (h : w1 = w2) : gG E A H0 w2 H1 locs1 := h ▸ ⟨hP, hD, hS⟩
end G1
theorem pnil : ([] : va_W).Perm (([] : va_W) ++ []) := List.Perm.refl _
theorem pin {r a b c : va_W} (h : a.Perm (b ++ c)) : (r ++ a).Perm ((r ++ b) ++ c) := by
  rw [List.append_assoc]
  exact h.append_left r
theorem pout {r a b c : va_W} (h : a.Perm (b ++ c)) : (r ++ a).Perm (b ++ (r ++ c)) :=
  (h.append_left r).trans (by rw [← List.append_assoc, ← List.append_assoc]; exact (List.perm_append_comm (l₁ := r) (l₂ := b)).append_right c)
/-! pure functions' own words -/
def thn {α β : Type} (a : α) (k : α → β) : β := k a
theorem thn_some {α β : Type} {a : α} {k : α → β} {x : β} (h : thn a k = x) : ∃ v, v = a ∧ k v = x := ⟨a, rfl, h⟩
def ck {ρ : Type} (b : Bool) (k : Option ρ) : Option ρ := if b = true then k else none
theorem ck_some {ρ : Type} {b : Bool} {k : Option ρ} {x : ρ} (h : ck b k = some x) : b = true ∧ k = some x := by
  unfold ck at h
  split at h
  · exact ⟨by assumption, h⟩
  · cases h
def bnd {α ρ : Type} (o : Option α) (k : α → Option ρ) : Option ρ := match o with
  | none => none
  | some a => k a
theorem bnd_some {α ρ : Type} {o : Option α} {k : α → Option ρ} {x : ρ} (h : bnd o k = some x) : ∃ v, o = some v ∧ k v = some x := by
  cases o with
  | none => cases h
  | some a => exact ⟨a, rfl, h⟩
theorem it {α : Type} {c : Prop} [Decidable c] {a b x : α} (hc : c) (h : (if c then a else b) = x) : a = x := by rw [if_pos hc] at h; exact h
theorem ie {α : Type} {c : Prop} [Decidable c] {a b x : α} (hc : ¬ c) (h : (if c then a else b) = x) : b = x := by rw [if_neg hc] at h; exact h
def inb (i : Int32) (n : Nat) : Bool := decide (¬ (i < 0 ∨ n ≤ i.toNatClampNeg))
theorem inb_in {i : Int32} {n : Nat} (h : inb i n = true) : vp_in i n := (of_decide_eq_true h : ¬ (i < 0 ∨ n ≤ i.toNatClampNeg))
def nz (i : Int32) : Bool := decide (¬ i = 0)
theorem nz_ne {i : Int32} (h : nz i = true) : ¬ i = 0 := of_decide_eq_true h
def isB (i : Int32) : Bool := decide (i = 0 ∨ i = 1)
theorem isB_n {i : Int32} (h : isB i = true) : narrow .boolean (.int i) = .int i := by
  rcases of_decide_eq_true h with rfl | rfl <;> rfl
theorem isB_v {i : Int32} (h : isB i = true) : vp_nar .boolean i = i := by
  rcases of_decide_eq_true h with rfl | rfl <;> rfl
theorem nar_v {i : Int32} (h : narrow .boolean (.int i) = .int i) : vp_nar .boolean i = i := by
  unfold vp_nar
  rw [h]
/-- a region's contents: cell, place -/
abbrev RS : Type := Nat → Nat → Int32
/-- one cell's row anew -/
def sr (w : RS) (c : Nat) (f : Nat → Int32) : RS := fun k => cond (Nat.beq k c) f (w k)
/-- one place anew -/
def st (w : RS) (c i : Nat) (x : Int32) : RS := sr w c (upd (w c) i x)
