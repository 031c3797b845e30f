/-! ROWS: answers that are references or null; states that come with a call -/
section G6
variable {p : Program} {l : Launch} {e : Env} {R : Room} {s : State} {m : MethodId} {args : Array Value} {below : List Frame} {meth : Method} {c : Code} {H : Heap} {locs : List Loc} {cells slots : Nat} {Q : State → Prop}
variable {E : GE} {cc bytes : ByteArray} {nL maxL d d2 mc ms MC MS idx n pc a b ci N : Nat} {own : String} {A : Nat → Prop} {y : MethodName} {rt : FieldType} {ws ws' wc wr : va_W} {As rest av : List Value} {ls : Array Slot} {S : Type}
theorem gG.perm {H0 : Heap} (h : gG E A H0 ws H locs) (hp : ws.Perm ws') : gG E A H0 ws' H locs := ⟨va_P_perm hp h.1, va_D_perm hp h.2.1, h.2.2⟩
theorem gG.drop {H0 : Heap} {w1 w2 : va_W} (h : gG E A H0 (w1 ++ w2) H locs) : gG E A H0 w1 H locs :=
  ⟨va_P_mem.mpr fun q hq => va_P_mem.mp h.1 q (List.mem_append_left _ hq), va_D_nd.mpr ⟨by
    have := (va_D_nd.mp h.2.1).1
    rw [List.map_append, List.nodup_append] at this
    exact this.1, fun q hq => (va_D_nd.mp h.2.1).2 q (List.mem_append_left _ hq)⟩, h.2.2⟩
/-- the contract of a method that answers a reference or null -/
def gMq (l : Launch) (E : GE) (y : MethodName) (cc : ByteArray) (maxL : Nat) (rt : FieldType) (d mc ms : Nat) (av : List Value) (ws : va_W) {S : Type} (rv : S → Option Nat) (post : S → Prop) (wf : S → va_W) : Prop :=
  ∀ sz : Nat, Met l y (.code y cc maxL (some rt) :: wAll) (rmD d mc ms) (va_Pc av (gB E ws sz)) (va_Qq (fun r (u : S) => r = rv u ∧ post u) (fun u t => va_P E.1 classes (wf u) t.heap ∧ va_D (va_A ws sz) (wf u)) (va_A ws sz)) mc ms (va_A ws sz)
theorem gMq_of {rv : S → Option Nat} {post : S → Prop} {wf : S → va_W} (hy : plainFor y = true) (ho : y.cls = own) (hrt : (∃ n, rt = .object n) ∨ ∃ t, rt = .array t) (hav : (lg_sl av).length ≤ maxL)
    (body : ∀ (p : Program) (e : Env) (s : State) (m : MethodId) (args : Array Value) (below : List Frame) (meth : Method) (c : Code) (A : Nat → Prop) (ls : Array Slot) (Q : State → Prop) (H0 : Heap) (locs0 : List Loc), gC E p m c cc maxL s args own A → E.2.2 0 ≤ s.heap.size → lv_has ls maxL (lv_args 0 av) → gG E A s.heap ws H0 locs0 →
      (∀ (u : S) (H : Heap) (locs : List Loc) (pc : Nat) (ls' : Array Slot), post u → gG E A s.heap (wf u) H locs → decode cc pc = .ok (.areturn, 1) → W p l e (rmD d mc ms) s m args below meth c H locs mc ms Q (F0 m pc ls' [va_rf (rv u)])) →
      W p l e (rmD d mc ms) s m args below meth c H0 locs0 0 0 Q (F0 m 0 ls [])) : gMq l E y cc maxL rt d mc ms av ws rv post wf := by
  intro sz
  refine mofW (cc := cc) (maxL := maxL) (ret := some rt) hy rfl ?_
  intro p e s m args below meth c s₁ Bd hml hv
  obtain ⟨rfl, hsz, hP, hK, hD0, hz, hnw, hst⟩ := hv
  subst hsz
  have hx := Bd.exec
  have hb := Bd.bytes
  have hr := Bd.returns
  have hts := atoms_spec (ws := .code y cc maxL (some rt) :: wAll) Bd.pre
  have hown : s.vm.findClass y.cls = some m.cls := findClass_of_methodNamed Bd.named
  have hlocks := Bd.notSynchronized
  have hD : va_D (va_A ws s.heap.size) ws := hD0.self
  have hl := lv_entry av (n := maxL) hav
  rw [lg_entry_eq]
  refine body p e s m av.toArray below meth c (va_A ws s.heap.size) _ _ s.heap [] ⟨⟨hx, hb, hml, ho ▸ hown, fun w hw => hts w (List.mem_cons_of_mem _ hw)⟩, hK, hnw, hst, ?_, fun q h => Or.inr h⟩ hz hl ⟨hP, hD, va_S.rf⟩ ?_
  · intro q hq
    rcases va_A_mem.mp hq with h | h
    · obtain ⟨q2, h2, rfl⟩ := List.mem_map.mp h
      exact (va_D_nd.mp hD0).2 q2 h2
    · exact Nat.le_trans hz h
  · intro u H locs pc ls' hu hG hdg
    exact W.aret hx hb hr hrt (va_rf_or _) (fun t ht hW => ⟨⟨rv u, u, rfl, ⟨rfl, hu⟩, by rw [ht]; exact hG.1, hG.2.1⟩, hG.2.2.F ht⟩) hG.2.2.2.2 hdg
theorem gF_q {rv : S → Option Nat} {post : S → Prop} {wf : S → va_W} {a : Array Value} {st0 : List Value} (C : gC E p m c cc nL s args own A) (hG : gG E A s.heap ws H locs) (hp : ws.Perm (wc ++ wr))
    (hr : va_Run p l e R s m args below meth c H locs cells slots mc ms (F0 m pc ls st0) rest (va_Qq (fun r (u : S) => r = rv u ∧ post u) (fun u t => va_P E.1 classes (wf u) t.heap ∧ va_D (va_A wc H.size) (wf u)) (va_A wc H.size) a) (va_A wc H.size))
    (kk : ∀ (u : S) (H1 : Heap) (locs1 : List Loc), post u → gG E A s.heap (wf u ++ wr) H1 locs1 → W p l e R s m args below meth c H1 locs1 (cells + mc) (slots + ms) Q (F0 m (pc + 3) ls (va_rf (rv u) :: rest))) : W p l e R s m args below meth c H locs cells slots Q (F0 m pc ls st0) := by
  have hF := gA_of C hG hp
  refine va_callq hr hG.2.2 (fun q _ h => hF q h) hF ?_
  intro r1 u t H1 locs1 ht hvm hw hB hz1 hk1 hS
  obtain ⟨rfl, hu⟩ := hw
  rw [ht] at hB
  obtain ⟨hP, hD⟩ := gJ (va_P_perm hp hG.1) (va_D_perm hp hG.2.1) hk1 hF hB.1 hB.2
  exact kk u H1 locs1 hu ⟨hP, hD, hS⟩
/-- the contract of a method that answers an int and leaves a state that it finds -/
def gMw (l : Launch) (E : GE) (y : MethodName) (cc : ByteArray) (maxL : Nat) (rt : FieldType) (d mc ms : Nat) (av : List Value) (ws : va_W) {S : Type} (r : Int32) (wf : S → va_W) : Prop :=
  ∀ sz : Nat, Met l y (.code y cc maxL (some rt) :: wAll) (rmD d mc ms) (va_Pc av (gB E ws sz)) (va_Qi (fun x (_ : S) => x = r ∧ narrow rt (.int r) = .int r) (fun u t => va_P E.1 classes (wf u) t.heap ∧ va_D (va_A ws sz) (wf u)) (va_A ws sz)) mc ms (va_A ws sz)
theorem gMw_of {r : Int32} {wf : S → va_W} (hy : plainFor y = true) (ho : y.cls = own) (hav : (lg_sl av).length ≤ maxL)
    (body : ∀ (p : Program) (e : Env) (s : State) (m : MethodId) (args : Array Value) (below : List Frame) (meth : Method) (c : Code) (A : Nat → Prop) (ls : Array Slot) (Q : State → Prop) (H0 : Heap) (locs0 : List Loc), gC E p m c cc maxL s args own A → E.2.2 0 ≤ s.heap.size → lv_has ls maxL (lv_args 0 av) → gG E A s.heap ws H0 locs0 →
      (∀ (u : S) (H : Heap) (locs : List Loc) (pc : Nat) (ls' : Array Slot), narrow rt (.int r) = .int r → gG E A s.heap (wf u) H locs → decode cc pc = .ok (.ireturn, 1) → W p l e (rmD d mc ms) s m args below meth c H locs mc ms Q (F0 m pc ls' [.int r])) →
      W p l e (rmD d mc ms) s m args below meth c H0 locs0 0 0 Q (F0 m 0 ls [])) : gMw l E y cc maxL rt d mc ms av ws r wf := by
  intro sz
  refine mofW (cc := cc) (maxL := maxL) (ret := some rt) hy rfl ?_
  intro p e s m args below meth c s₁ Bd hml hv
  obtain ⟨rfl, hsz, hP, hK, hD0, hz, hnw, hst⟩ := hv
  subst hsz
  have hx := Bd.exec
  have hb := Bd.bytes
  have hr := Bd.returns
  have hts := atoms_spec (ws := .code y cc maxL (some rt) :: wAll) Bd.pre
  have hown : s.vm.findClass y.cls = some m.cls := findClass_of_methodNamed Bd.named
  have hlocks := Bd.notSynchronized
  have hD : va_D (va_A ws s.heap.size) ws := hD0.self
  have hl := lv_entry av (n := maxL) hav
  rw [lg_entry_eq]
  refine body p e s m av.toArray below meth c (va_A ws s.heap.size) _ _ s.heap [] ⟨⟨hx, hb, hml, ho ▸ hown, fun w hw => hts w (List.mem_cons_of_mem _ hw)⟩, hK, hnw, hst, ?_, fun q h => Or.inr h⟩ hz hl ⟨hP, hD, va_S.rf⟩ ?_
  · intro q hq
    rcases va_A_mem.mp hq with h | h
    · obtain ⟨q2, h2, rfl⟩ := List.mem_map.mp h
      exact (va_D_nd.mp hD0).2 q2 h2
    · exact Nat.le_trans hz h
  · intro u H locs pc ls' hn hG hdg
    exact W.zret hx hb hr hn (fun t ht hW => ⟨⟨r, u, rfl, ⟨rfl, hn⟩, by rw [ht]; exact hG.1, hG.2.1⟩, hG.2.2.F ht⟩) hG.2.2.2.2 hdg
theorem gF_w {r : Int32} {wf : S → va_W} {a : Array Value} {st0 : List Value} (C : gC E p m c cc nL s args own A) (hG : gG E A s.heap ws H locs) (hp : ws.Perm (wc ++ wr))
    (hr : va_Run p l e R s m args below meth c H locs cells slots mc ms (F0 m pc ls st0) rest (va_Qi (fun x (_ : S) => x = r ∧ narrow rt (.int r) = .int r) (fun u t => va_P E.1 classes (wf u) t.heap ∧ va_D (va_A wc H.size) (wf u)) (va_A wc H.size) a) (va_A wc H.size))
    (kk : ∀ (u : S) (H1 : Heap) (locs1 : List Loc), gG E A s.heap (wf u ++ wr) H1 locs1 → W p l e R s m args below meth c H1 locs1 (cells + mc) (slots + ms) Q (F0 m (pc + 3) ls (.int r :: rest))) : W p l e R s m args below meth c H locs cells slots Q (F0 m pc ls st0) := by
  have hF := gA_of C hG hp
  refine va_calli hr hG.2.2 (fun q _ h => hF q h) hF ?_
  intro r1 u t H1 locs1 ht hvm hw hB hz1 hk1 hS
  obtain ⟨rfl, hn⟩ := hw
  rw [ht] at hB
  obtain ⟨hP, hD⟩ := gJ (va_P_perm hp hG.1) (va_D_perm hp hG.2.1) hk1 hF hB.1 hB.2
  exact kk u H1 locs1 ⟨hP, hD, hS⟩
/-- the contract of a method that answers nothing and leaves a state that it finds (constructors) -/
def gMu (l : Launch) (E : GE) (y : MethodName) (cc : ByteArray) (maxL d mc ms : Nat) (av : List Value) (ws : va_W) {S : Type} (post : S → Prop) (wf : S → va_W) : Prop :=
  ∀ sz : Nat, Met l y (.code y cc maxL none :: wAll) (rmD d mc ms) (va_Pc av (gB E ws sz)) (va_Qv post (fun u t => va_P E.1 classes (wf u) t.heap ∧ va_D (va_A ws sz) (wf u)) (va_A ws sz)) mc ms (va_A ws sz)
theorem gMu_of {post : S → Prop} {wf : S → va_W} (hy : plainFor y = true) (ho : y.cls = own) (hav : (lg_sl av).length ≤ maxL)
    (body : ∀ (p : Program) (e : Env) (s : State) (m : MethodId) (args : Array Value) (below : List Frame) (meth : Method) (c : Code) (A : Nat → Prop) (ls : Array Slot) (Q : State → Prop) (H0 : Heap) (locs0 : List Loc), gC E p m c cc maxL s args own A → E.2.2 0 ≤ s.heap.size → lv_has ls maxL (lv_args 0 av) → gG E A s.heap ws H0 locs0 → (y.name = "<init>" → meth.name = "<init>") →
      (∀ (u : S) (H : Heap) (locs : List Loc) (pc : Nat) (ls' : Array Slot), post u → gG E A s.heap (wf u) H locs → decode cc pc = .ok (.return_, 1) → W p l e (rmD d mc ms) s m args below meth c H locs mc ms Q (F0 m pc ls' [])) →
      W p l e (rmD d mc ms) s m args below meth c H0 locs0 0 0 Q (F0 m 0 ls [])) : gMu l E y cc maxL d mc ms av ws post wf := by
  intro sz
  refine mofW (cc := cc) (maxL := maxL) (ret := none) hy rfl ?_
  intro p e s m args below meth c s₁ Bd hml hv
  obtain ⟨rfl, hsz, hP, hK, hD0, hz, hnw, hst⟩ := hv
  subst hsz
  have hx := Bd.exec
  have hb := Bd.bytes
  have hr := Bd.returns
  have hts := atoms_spec (ws := .code y cc maxL none :: wAll) Bd.pre
  have hown : s.vm.findClass y.cls = some m.cls := findClass_of_methodNamed Bd.named
  have hlocks := Bd.notSynchronized
  have hin : y.name = "<init>" → meth.name = "<init>" := fun q => (name_of_methodNamed Bd.named Bd.method).1.trans q
  have hD : va_D (va_A ws s.heap.size) ws := hD0.self
  have hl := lv_entry av (n := maxL) hav
  rw [lg_entry_eq]
  refine body p e s m av.toArray below meth c (va_A ws s.heap.size) _ _ s.heap [] ⟨⟨hx, hb, hml, ho ▸ hown, fun w hw => hts w (List.mem_cons_of_mem _ hw)⟩, hK, hnw, hst, ?_, fun q h => Or.inr h⟩ hz hl ⟨hP, hD, va_S.rf⟩ hin ?_
  · intro q hq
    rcases va_A_mem.mp hq with h | h
    · obtain ⟨q2, h2, rfl⟩ := List.mem_map.mp h
      exact (va_D_nd.mp hD0).2 q2 h2
    · exact Nat.le_trans hz h
  · intro u H locs pc ls' hu hG hdg
    exact W.vret hx hb hr (fun t ht hW => ⟨⟨u, rfl, hu, by rw [ht]; exact hG.1, hG.2.1⟩, hG.2.2.F ht⟩) hG.2.2.2.2 hdg
theorem gR_IU {post : S → Prop} {wf : S → va_W} {host : String} (C : gC E p m c cc nL s args own A) (hz : E.2.2 0 ≤ s.heap.size) (hsz : ls.size = nL) (hG : gG E A s.heap ws H locs) (hp : ws.Perm (wc ++ wr))
    (M : gMu l E y bytes maxL d2 mc ms (.ref b :: As) wc post wf) (hi : y.name = "<init>") (h1 : Cond.instanceMethod y ∈ wAll) (h3 : Cond.code y bytes maxL none ∈ wAll) (h4 : Cond.initialized y.cls ∈ wAll) (h5 : gYd y n) (h6 : maxL ≤ 45) (hlk : Cond.methodLinkNest own idx y host ∈ nwAll) (hn : As.length = n)
    (hW : (rest.map fun v => v.category).sum ≤ 8) (hdd : d2 + 1 ≤ d) (hf : cells + mc ≤ MC ∧ slots + ms ≤ MS) (hdg : decode cc pc = .ok (.invokespecial idx, 3))
    (kk : ∀ (u : S) (H1 : Heap) (locs1 : List Loc), post u → gG E A s.heap (wf u ++ wr) H1 locs1 → W p l e (rmD d MC MS) s m args below meth c H1 locs1 (cells + mc) (slots + ms) Q (F0 m (pc + 3) ls rest)) : W p l e (rmD d MC MS) s m args below meth c H locs cells slots Q (F0 m pc ls (As.reverse ++ .ref b :: rest)) := by
  obtain ⟨hF, hK, hnw, hst, hAz, hA⟩ := id C
  have hFr := gA_of C hG hp
  refine va_callv (va_runIN (n := n) (host := host) (As := As) (rest := rest) hF (M H.size) ⟨va_cnB n hF.2.2.2.2 (g_in h3) rfl rfl rfl (hnw _ hlk) (hF.2.2.2.2 _ h4) h5 ⟨hdd, by show 8 + (maxL + 11) + 64 * d2 ≤ 64 * d; omega⟩, hi, hF.2.2.2.2 _ h1⟩ ⟨gB_blind, fun U hU hW => ⟨rfl, gB_of C hG hp hz hU hW⟩⟩ rfl hn hsz rfl (by show 2 * 0 + _ ≤ 8; omega) hdg hf) hG.2.2 (fun q _ h => hFr q h) hFr ?_
  intro u t H1 locs1 ht hvm hw hB hz1 hk1 hS
  rw [ht] at hB
  obtain ⟨hP, hD⟩ := gJ (va_P_perm hp hG.1) (va_D_perm hp hG.2.1) hk1 hFr hB.1 hB.2
  exact kk u H1 locs1 hw ⟨hP, hD, hS⟩
/-- a public constructor -/
theorem gR_IP {post : S → Prop} {wf : S → va_W} (C : gC E p m c cc nL s args own A) (hz : E.2.2 0 ≤ s.heap.size) (hsz : ls.size = nL) (hG : gG E A s.heap ws H locs) (hp : ws.Perm (wc ++ wr))
    (M : gMu l E y bytes maxL d2 mc ms (.ref b :: As) wc post wf) (hi : y.name = "<init>") (h1 : Cond.instanceMethod y ∈ wAll) (h3 : Cond.code y bytes maxL none ∈ wAll) (h4 : Cond.initialized y.cls ∈ wAll) (h5 : gYd y n) (h6 : maxL ≤ 45) (hlk : Cond.methodLink own idx y ∈ wAll) (hn : As.length = n)
    (hW : (rest.map fun v => v.category).sum ≤ 8) (hdd : rmD d2 mc ms = rmD d2 mc ms → d2 + 1 ≤ R.frames ∧ 8 + (maxL + 11) + 64 * d2 ≤ R.locals) (hf : cells + mc ≤ R.cells ∧ slots + ms ≤ R.slots) (hdg : decode cc pc = .ok (.invokespecial idx, 3))
    (kk : ∀ (u : S) (H1 : Heap) (locs1 : List Loc), post u → gG E A s.heap (wf u ++ wr) H1 locs1 → W p l e R s m args below meth c H1 locs1 (cells + mc) (slots + ms) Q (F0 m (pc + 3) ls rest)) : W p l e R s m args below meth c H locs cells slots Q (F0 m pc ls (As.reverse ++ .ref b :: rest)) := by
  obtain ⟨hF, hK, hnw, hst, hAz, hA⟩ := id C
  have hFr := gA_of C hG hp
  refine va_callv (va_runI (n := n) (As := As) (rest := rest) hF (M H.size) (cwI n hF.2.2.2.2 (g_in h3) rfl rfl rfl (hF.2.2.2.2 _ h4) (hF.2.2.2.2 _ hlk) (hF.2.2.2.2 _ h1) hi h5 (hdd rfl)) ⟨gB_blind, fun U hU hW => ⟨rfl, gB_of C hG hp hz hU hW⟩⟩ rfl hn hsz rfl (by show 2 * 0 + _ ≤ 8; omega) hdg hf) hG.2.2 (fun q _ h => hFr q h) hFr ?_
  intro u t H1 locs1 ht hvm hw hB hz1 hk1 hS
  rw [ht] at hB
  obtain ⟨hP, hD⟩ := gJ (va_P_perm hp hG.1) (va_D_perm hp hG.2.1) hk1 hFr hB.1 hB.2
  exact kk u H1 locs1 hw ⟨hP, hD, hS⟩
theorem gMn_u {dfl : List Value} {mk : (Nat → Nat) → va_W} (M : gMn l E y cc maxL d mc ms ci dfl mk) (a : Nat) : gMu l E y cc maxL d mc ms [.ref a] [(a, .inr (ci, dfl))] (fun ad : Nat → Nat => ad 0 = a) mk := M a
end G6
/-! A TEXT made -/
def tRS (rr : RS) (n : Nat) : RS := sr (sr (sr zRS 0 (fun _ => nI n)) 1 (va_cpy (rr 2) (fun _ => 0) 0 0 n)) 2 (va_cpy (rr 3) (fun _ => 0) 0 0 n)
set_option maxHeartbeats 4000000 in
set_option maxRecDepth 100000 in
theorem c_X9_init (l : Launch) (E : GE) (ar : Nat → Nat) (rr : RS) (b n : Nat) (hn : n ≤ 300) : gMu l E yX9_init cX9_init 4 1 2 (2 * n) [.ref b, .ref (ar 2), .ref (ar 3), .int (nI n)] ((b, .inr (9, [.int 0, .null, .null])) :: (rR E ar rr ++ [])) (fun at0 : Nat → Nat => at0 0 = b) (fun at0 => rT E at0 n (tRS rr n) ++ (rR E ar rr ++ [])) := by
  refine gMu_of (own := RX9) (by decide +kernel) rfl (Nat.le_of_ble_eq_true rfl) ?_
  intro p e s m args below meth c A ls Q H locs C hz hl hG hin hret
  have hx := C.1.1
  have hb := C.1.2.1
  have hts := C.1.2.2.2.2
  have hown := C.1.2.2.2.1
  have hmi := hin rfl
  have hl : lv_has ls 4 [(0, .ref b), (1, .ref (ar 2)), (2, .ref (ar 3)), (3, .int (nI n))] := hl
  refine lv_aload_n hx hb dX9_init_0 rfl (lv_at hl 0 rfl) ?_
  refine W.objInit hx hb hown (hts _ q737) (hts _ q196) (hts _ q197) rfl (hl.1.trans C.1.2.2.1.symm) rfl dX9_init_1 (Nat.le_of_ble_eq_true rfl) (Nat.le_of_ble_eq_true rfl) ?_
  refine W.eq (g2 := F0 m 4 ls []) rfl ?_
  refine lv_aload_n hx hb dX9_init_4 rfl (lv_at hl 0 rfl) ?_
  refine lv_iload_n hx hb dX9_init_5 rfl (lv_at hl 3 rfl) ?_
  refine gS_F (v := .int (nI n)) (ws' := ((b, .inr (9, [.int (nI n), .null, .null])) :: (rR E ar rr ++ []))) C hG kX9 hmi 0 0 rfl (by decide) q741 rfl rfl rfl rfl rfl (by show 0 < 3; decide) dX9_init_6 rfl (fun H locs hG => ?_)
  refine lv_aload_n hx hb dX9_init_9 rfl (lv_at hl 0 rfl) ?_
  refine lv_iload_n hx hb dX9_init_10 rfl (lv_at hl 3 rfl) ?_
  refine g_newi (x := nI n) (N' := n) C hG q265 (nI_pos (by omega)) (cl_nI (by omega)) (by omega) (by show 0 + 1 ≤ 2; decide) (by show 0 + n ≤ 2 * n; omega) dX9_init_11 (fun q1 H hG => ?_)
  refine gS_F (v := .ref q1) (ws' := ((b, .inr (9, [.int (nI n), .ref q1, .null])) :: (rR E ar rr ++ [])) ++ [(q1, .inl (E.2.1 0, n, .inl (fun _ => 0)))]) C hG kX9 hmi 0 1 rfl (by decide) q743 rfl rfl rfl rfl rfl (by show 1 < 3; decide) dX9_init_13 rfl (fun H locs hG => ?_)
  refine lv_aload_n hx hb dX9_init_16 rfl (lv_at hl 0 rfl) ?_
  refine lv_iload_n hx hb dX9_init_17 rfl (lv_at hl 3 rfl) ?_
  refine g_newi (x := nI n) (N' := n) C hG q265 (nI_pos (by omega)) (cl_nI (by omega)) (by omega) (by show 0 + 1 + 1 ≤ 2; decide) (by show 0 + n + n ≤ 2 * n; omega) dX9_init_18 (fun q2 H hG => ?_)
  refine gS_F (v := .ref q2) (ws' := (((b, .inr (9, [.int (nI n), .ref q1, .ref q2])) :: (rR E ar rr ++ [])) ++ [(q1, .inl (E.2.1 0, n, .inl (fun _ => 0)))]) ++ [(q2, .inl (E.2.1 0, n, .inl (fun _ => 0)))]) C hG kX9 hmi 0 2 rfl (by decide) q744 rfl rfl rfl rfl rfl (by show 2 < 3; decide) dX9_init_20 rfl (fun H locs hG => ?_)
  have hacp : acp 0 0 (nI n) 301 n = true := by
    refine decide_eq_true ⟨by decide, by decide, nI_pos (by omega), ?_, ?_⟩
    · rw [cl_nI (by omega)]; show 0 + n ≤ 301; omega
    · rw [cl_nI (by omega)]; show 0 + n ≤ n; omega
  refine lv_aload_n hx hb dX9_init_23 rfl (lv_at hl 1 rfl) ?_
  refine lv_iconst (v := 0) hx hb dX9_init_24 (by decide) ?_
  refine lv_aload_n hx hb dX9_init_25 rfl (lv_at hl 0 rfl) ?_
  refine gL_f (v := .ref q1) C hG kX9 0 1 rfl (by decide) rfl q743 rfl dX9_init_26 ?_
  refine lv_iconst (v := 0) hx hb dX9_init_29 (by decide) ?_
  refine lv_iload_n hx hb dX9_init_30 rfl (lv_at hl 3 rfl) ?_
  have hset1 : ∀ f9 : Nat → Int32, List.set ((((b, .inr (9, [.int (nI n), .ref q1, .ref q2])) :: (rR E ar rr ++ [])) ++ [(q1, .inl (E.2.1 0, n, .inl (fun _ => 0)))]) ++ [(q2, .inl (E.2.1 0, n, .inl (fun _ => 0)))] : va_W) 8 (q1, .inl (E.2.1 0, n, .inl f9)) = (((b, .inr (9, [.int (nI n), .ref q1, .ref q2])) :: (rR E ar rr ++ [])) ++ [(q1, .inl (E.2.1 0, n, .inl f9))]) ++ [(q2, .inl (E.2.1 0, n, .inl (fun _ => 0)))] := fun _ => rfl
  obtain ⟨F1, eF1⟩ : ∃ F1, F1 = va_cpy (rr 2) (fun _ => 0) 0 0 n := ⟨_, rfl⟩
  refine gS_cpy (n0 := 301) (n1 := n) (js := 0) (jd := 0) (jn := n) (ws' := (((b, .inr (9, [.int (nI n), .ref q1, .ref q2])) :: (rR E ar rr ++ [])) ++ [(q1, .inl (E.2.1 0, n, .inl F1))]) ++ [(q2, .inl (E.2.1 0, n, .inl (fun _ => 0)))]) C hl.1 hG 3 8 rfl rfl hacp (nI_clamp (n := 0) (by decide)) (nI_clamp (n := 0) (by decide)) (cl_nI (by omega)) q738 q740 q739 q186 (Nat.le_of_ble_eq_true rfl) (Nat.le_of_ble_eq_true rfl) dX9_init_31 (by rw [eF1]; exact hset1 _) (fun H locs hG => ?_)
  refine lv_aload_n hx hb dX9_init_34 rfl (lv_at hl 2 rfl) ?_
  refine lv_iconst (v := 0) hx hb dX9_init_35 (by decide) ?_
  refine lv_aload_n hx hb dX9_init_36 rfl (lv_at hl 0 rfl) ?_
  refine gL_f (v := .ref q2) C hG kX9 0 2 rfl (by decide) rfl q744 rfl dX9_init_37 ?_
  refine lv_iconst (v := 0) hx hb dX9_init_40 (by decide) ?_
  refine lv_iload_n hx hb dX9_init_41 rfl (lv_at hl 3 rfl) ?_
  have hset2 : ∀ f9 : Nat → Int32, List.set ((((b, .inr (9, [.int (nI n), .ref q1, .ref q2])) :: (rR E ar rr ++ [])) ++ [(q1, .inl (E.2.1 0, n, .inl F1))]) ++ [(q2, .inl (E.2.1 0, n, .inl (fun _ => 0)))] : va_W) 9 (q2, .inl (E.2.1 0, n, .inl f9)) = (((b, .inr (9, [.int (nI n), .ref q1, .ref q2])) :: (rR E ar rr ++ [])) ++ [(q1, .inl (E.2.1 0, n, .inl F1))]) ++ [(q2, .inl (E.2.1 0, n, .inl f9))] := fun _ => rfl
  obtain ⟨F2, eF2⟩ : ∃ F2, F2 = va_cpy (rr 3) (fun _ => 0) 0 0 n := ⟨_, rfl⟩
  refine gS_cpy (n0 := 301) (n1 := n) (js := 0) (jd := 0) (jn := n) (ws' := (((b, .inr (9, [.int (nI n), .ref q1, .ref q2])) :: (rR E ar rr ++ [])) ++ [(q1, .inl (E.2.1 0, n, .inl F1))]) ++ [(q2, .inl (E.2.1 0, n, .inl F2))]) C hl.1 hG 4 9 rfl rfl hacp (nI_clamp (n := 0) (by decide)) (nI_clamp (n := 0) (by decide)) (cl_nI (by omega)) q738 q740 q739 q186 (Nat.le_of_ble_eq_true rfl) (Nat.le_of_ble_eq_true rfl) dX9_init_42 (by rw [eF2]; exact hset2 _) (fun H locs hG => ?_)
  obtain ⟨at0, hat⟩ : ∃ at0 : Nat → Nat, at0 = fun k => [b, q1, q2].getD k 0 := ⟨_, rfl⟩
  have hat0 : at0 0 = b := by rw [hat]; rfl
  have hpm : ((((b, .inr (9, [.int (nI n), .ref q1, .ref q2])) :: (rR E ar rr ++ [])) ++ [(q1, .inl (E.2.1 0, n, .inl F1))]) ++ [(q2, .inl (E.2.1 0, n, .inl F2))] : va_W).Perm (rT E at0 n (tRS rr n) ++ (rR E ar rr ++ [])) := by
    have e1 : rT E at0 n (tRS rr n) = [(b, .inr (9, [.int (nI n), .ref q1, .ref q2])), (q1, .inl (E.2.1 0, n, .inl F1)), (q2, .inl (E.2.1 0, n, .inl F2))] := by
      have : ∀ f g : Nat → Int32, rT E at0 n (sr (sr (sr zRS 0 (fun _ => nI n)) 1 f) 2 g) = [(b, .inr (9, [.int (nI n), .ref q1, .ref q2])), (q1, .inl (E.2.1 0, n, .inl f)), (q2, .inl (E.2.1 0, n, .inl g))] := fun f g => by rw [hat]; rfl
      rw [eF1, eF2]
      exact this _ _
    rw [e1]
    have h2 : ∀ (x u v : Nat × va_E) (r : va_W), (((x :: r) ++ [u]) ++ [v]).Perm ([x, u, v] ++ r) := fun x u v r => by
      show (x :: ((r ++ [u]) ++ [v])).Perm (x :: (u :: v :: r))
      refine List.Perm.cons _ ?_
      rw [List.append_assoc]
      exact List.perm_append_comm
    exact h2 _ _ _ _
  refine W.cs (cells' := 2) (slots' := 2 * n) rfl (by omega) ?_
  exact hret at0 _ _ _ _ hat0 (hG.perm hpm) dX9_init_45
