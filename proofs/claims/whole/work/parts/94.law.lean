/-! THE LAW: rows, what its loop holds -/
theorem gR_VP {p : Program} {l : Launch} {e : Env} {R : Room} {s : State} {m : MethodId} {args : Array Value} {below : List Frame} {meth : Method} {c : Code} {H : Heap} {locs : List Loc} {cells slots : Nat} {E : GE} {cc bytes : ByteArray} {nL maxL d2 mc ms idx n pc b : Nat} {own : String} {A : Nat → Prop} {y : MethodName} {ret : Option FieldType} {ws wc wr : va_W} {As rest : List Value} {ls : Array Slot}
    {Qc : Array Value → State → Outcome → State → Prop} {free : Addr → Prop} (C : gC E p m c cc nL s args own A) (hz : E.2.2 0 ≤ s.heap.size) (hsz : ls.size = nL) (hG : gG E A s.heap ws H locs) (hp : ws.Perm (wc ++ wr))
    (M : Met l y (.code y bytes maxL ret :: wAll) (rmD d2 mc ms) (va_Pc (.ref b :: As) (gB E wc H.size)) Qc mc ms free) (hY : gYV y bytes maxL ret n) (hlk : Cond.methodLink own idx y ∈ wAll) (q0 : Nat) {ci : Nat} {fs : List Value} (hrc : wc[q0]? = some (b, .inr (ci, fs))) {T : u_T} {N : Nat} (hcl : classes[ci]? = some (y.cls, T, N))
    (hn : As.length = n) (hW : (rest.map fun v => v.category).sum ≤ 8) (hdd : d2 + 1 ≤ R.frames ∧ 8 + (maxL + 11) + 64 * d2 ≤ R.locals) (hf : cells + mc ≤ R.cells ∧ slots + ms ≤ R.slots) (hdg : decode cc pc = .ok (.invokevirtual idx, 3)) :
    va_Run p l e R s m args below meth c H locs cells slots mc ms (F0 m pc ls (As.reverse ++ .ref b :: rest)) rest (Qc (Value.ref b :: As).toArray) free := by
  obtain ⟨h1, h2, h3, h4, h5, h6⟩ := hY
  obtain ⟨hF, hK, hnw, hst, hAz, hA⟩ := id C
  have hgi : GoodIn wAll (wsV own idx y.cls y (.code y bytes maxL ret :: wAll)) := by
    intro w hw
    unfold wsV at hw
    rcases List.mem_append.mp hw with q | q
    · have hm : w ∈ wAll := by
        simp only [List.mem_cons, List.not_mem_nil, or_false] at q
        rcases q with rfl | rfl | rfl | rfl <;> assumption
      exact ⟨hm, wAll_good _ hm⟩
    · exact g_in h3 w q
  refine va_runV (n := n) hF M (cwV n hF.2.2.2.2 hgi rfl rfl rfl ⟨rfl, h5⟩ hdd) ⟨gB_blind, ?_, fun U hU hW => ⟨rfl, gB_of C hG hp hz hU hW⟩⟩ rfl hn hsz rfl (by show 2 * 0 + _ ≤ 8; omega) hdg hf
  exact va_recv hK (va_P_mem.mpr fun q hq => va_P_mem.mp hG.1 q (hp.mem_iff.mpr (List.mem_append_left _ hq))) hcl hrc
section LW
variable {p : Program} {l : Launch} {e : Env} {s : State} {m : MethodId} {below : List Frame} {meth : Method} {c : Code} {Q : State → Prop} {E : GE} {N b L : Nat} {xs : Nat → Int32} {ax an asx ay ap ar ai am : Nat → Nat} {ah aj ta : Nat → Nat → Nat} {tx : TXS} {ye : Nat → Value} {xx yy nn ss ii pp rr : RS} {hh jj : HS} {mm : RS} {k : Nat} {H : Heap} {locs : List Loc} {ls : Array Slot}
theorem lq {a b c d e f q t r rest : va_W} (h : q.Perm (t ++ r)) : (a ++ (b ++ (c ++ (d ++ (e ++ (f ++ (q ++ rest))))))).Perm (a ++ (b ++ (c ++ (d ++ (e ++ (f ++ (t ++ (r ++ rest)))))))) := by
  have h1 : (q ++ rest).Perm (t ++ (r ++ rest)) := by rw [← List.append_assoc]; exact h.append_right rest
  exact List.Perm.append_left _ (List.Perm.append_left _ (List.Perm.append_left _ (List.Perm.append_left _ (List.Perm.append_left _ (List.Perm.append_left _ (h1))))))
theorem text_perm {x r t y n s i p q h j m q1 qr qn : va_W} (h1 : q.Perm (q1 ++ qr)) (h2 : qn.Perm (t ++ qr)) : ((x ++ (r ++ (t ++ []))) ++ (y ++ (n ++ (s ++ (i ++ (p ++ (q ++ (h ++ (j ++ (m ++ [])))))))))).Perm ((x ++ (y ++ (n ++ (s ++ (i ++ (p ++ (qn ++ (r ++ (h ++ (j ++ (m ++ ([] : va_W)))))))))))) ++ q1) := by
  have e0 : (x ++ (r ++ (t ++ []))) ++ (y ++ (n ++ (s ++ (i ++ (p ++ (q ++ (h ++ (j ++ (m ++ []))))))))) = (x ++ (r ++ (t ++ (y ++ (n ++ (s ++ (i ++ (p ++ (q ++ (h ++ (j ++ (m ++ ([] : va_W))))))))))))) := by simp only [List.append_assoc, List.append_nil]
  have k1 : (q ++ (h ++ (j ++ (m ++ [])))).Perm (q1 ++ (qr ++ (h ++ (j ++ (m ++ []))))) := by rw [← List.append_assoc q1]; exact h1.append_right _
  have s1 : (x ++ (r ++ (t ++ (y ++ (n ++ (s ++ (i ++ (p ++ (q ++ (h ++ (j ++ (m ++ ([] : va_W))))))))))))).Perm (x ++ (r ++ (t ++ (y ++ (n ++ (s ++ (i ++ (p ++ (q1 ++ (qr ++ (h ++ (j ++ (m ++ ([] : va_W)))))))))))))) := List.Perm.append_left _ (List.Perm.append_left _ (List.Perm.append_left _ (List.Perm.append_left _ (List.Perm.append_left _ (List.Perm.append_left _ (List.Perm.append_left _ (List.Perm.append_left _ (k1))))))))
  have s2 : (x ++ (r ++ (t ++ (y ++ (n ++ (s ++ (i ++ (p ++ (q1 ++ (qr ++ (h ++ (j ++ (m ++ ([] : va_W)))))))))))))).Perm (x ++ (y ++ (n ++ (s ++ (i ++ (p ++ (t ++ (qr ++ (r ++ (h ++ (j ++ (m ++ (q1 ++ ([] : va_W)))))))))))))) := (psel pfst (psel (pnext (pnext pfst)) (psel (pnext (pnext pfst)) (psel (pnext (pnext pfst)) (psel (pnext (pnext pfst)) (psel (pnext (pnext pfst)) (psel (pnext pfst) (psel (pnext (pnext pfst)) (psel pfst (psel (pnext pfst) (psel (pnext pfst) (psel (pnext pfst) (psel pfst (List.Perm.refl []))))))))))))))
  have k3 : (t ++ (qr ++ (r ++ (h ++ (j ++ (m ++ (q1 ++ []))))))).Perm (qn ++ (r ++ (h ++ (j ++ (m ++ (q1 ++ [])))))) := by rw [← List.append_assoc t]; exact (h2.append_right _).symm
  have s3 : (x ++ (y ++ (n ++ (s ++ (i ++ (p ++ (t ++ (qr ++ (r ++ (h ++ (j ++ (m ++ (q1 ++ ([] : va_W)))))))))))))).Perm (x ++ (y ++ (n ++ (s ++ (i ++ (p ++ (qn ++ (r ++ (h ++ (j ++ (m ++ (q1 ++ ([] : va_W))))))))))))) := List.Perm.append_left _ (List.Perm.append_left _ (List.Perm.append_left _ (List.Perm.append_left _ (List.Perm.append_left _ (List.Perm.append_left _ (k3))))))
  have e4 : (x ++ (y ++ (n ++ (s ++ (i ++ (p ++ (qn ++ (r ++ (h ++ (j ++ (m ++ (q1 ++ ([] : va_W))))))))))))) = (x ++ (y ++ (n ++ (s ++ (i ++ (p ++ (qn ++ (r ++ (h ++ (j ++ (m ++ ([] : va_W)))))))))))) ++ q1 := by simp only [List.append_assoc, List.append_nil, List.nil_append]
  rw [e0, ← e4]
  exact s1.trans (s2.trans s3)
theorem tf_up {ta : Nat → Nat → Nat} {tx : TXS} {t : Nat} {at0 : Nat → Nat} {z : Nat × RS} : va_up (tfOf ta tx) t (some (at0 0)) = tfOf (fun i => if i = t then at0 else ta i) (fun i => if i = t then some z else tx i) := by
  funext i
  by_cases q : i = t
  · subst q; simp [va_up, tfOf]
  · simp [va_up, tfOf, q]
theorem rQ_new1 {E : GE} {ta ta1 : Nat → Nat → Nat} {tx tx1 : TXS} {t n : Nat} {w : RS} {at0 : Nat → Nat} (ht : t < 4) (h1 : ta1 t = at0) (h2 : tx1 t = some (n, w)) (h3 : ∀ i, i ≠ t → ta1 i = ta i) (h4 : ∀ i, i ≠ t → tx1 i = tx i) : (rQ E ta1 tx1).Perm (rT E at0 n w ++ rQr E ta tx t) := by
  have h := rQ_some (E := E) (ta := ta1) ht h2
  have e2 : rQr E ta1 tx1 t = rQr E ta tx t := by
    unfold rQr
    refine fm_cg _ fun i hi => ?_
    have hne : i ≠ t := ((List.Nodup.mem_erase_iff List.nodup_range).mp hi).1
    unfold rQ1
    rw [h4 i hne, h3 i hne]
  rw [h1, e2] at h
  exact h
theorem rQ_new {E : GE} {ta : Nat → Nat → Nat} {tx : TXS} {t n : Nat} {w : RS} {at0 : Nat → Nat} (ht : t < 4) : (rQ E (fun i => if i = t then at0 else ta i) (fun i => if i = t then some (n, w) else tx i)).Perm (rT E at0 n w ++ rQr E ta tx t) := rQ_new1 ht (if_pos rfl) (if_pos rfl) (fun i q => if_neg q) (fun i q => if_neg q)
/-- the state of both within the law, ahead of a call -/
def LCX (p : Program) (l : Launch) (e : Env) (s : State) (m : MethodId) (below : List Frame) (meth : Method) (c : Code) (Q : State → Prop) (E : GE) (N : Nat) (b : Nat) (L : Nat) (xs : Nat → Int32) (ax : Nat → Nat) (an : Nat → Nat) (asx : Nat → Nat) (ay : Nat → Nat) (ap : Nat → Nat) (ar : Nat → Nat) (ai : Nat → Nat) (am : Nat → Nat) (ah : Nat → Nat → Nat) (aj : Nat → Nat → Nat) (ta : Nat → Nat → Nat) (tx : TXS) (ye : Nat → Value) (xx : RS) (yy : RS) (nn : RS) (ss : RS) (ii : RS) (pp : RS) (rr : RS) (hh : HS) (jj : HS) (mm : RS) (k : Nat) (H : Heap) (locs : List Loc) (ls : Array Slot) : Prop :=
  gC E p m c cL_law 4 s #[Value.ref b] RL (fun q : Nat => s.heap.size ≤ q) ∧ E.2.2 0 ≤ s.heap.size ∧ va_X b L xs s s.heap ∧ b < s.heap.size ∧ L ≤ 3072 ∧ 6 * k + 6 ≤ L ∧ 300000 ≤ N ∧
  gG E (fun q : Nat => s.heap.size ≤ q) s.heap (rX E ax an asx ay ap ar ai ah aj (tfOf ta tx) xx ++ (rY E ay ye yy ++ (rW E an nn ++ (rW E asx ss ++ (rW E ai ii ++ (rP E ap pp ++ (rQ E ta tx ++ (rR E ar rr ++ (rH E ah hh ++ (rH E aj jj ++ (rM E am mm ++ []))))))))))) H locs ∧ INV (16200 * k) xx nn ii rr hh jj tx mm ∧ lv_has ls 4 [(0, .ref b), (1, .ref (ax 0)), (2, .ref (am 0)), (3, .int (nI (6 * k)))] ∧
  ∀ (ta : Nat → Nat → Nat) (tx : TXS) (ye : Nat → Value) (xx : RS) (yy : RS) (nn : RS) (ss : RS) (ii : RS) (pp : RS) (rr : RS) (hh : HS) (jj : HS) (mm : RS) (H : Heap) (locs : List Loc) (ls : Array Slot), gG E (fun q : Nat => s.heap.size ≤ q) s.heap (rX E ax an asx ay ap ar ai ah aj (tfOf ta tx) xx ++ (rY E ay ye yy ++ (rW E an nn ++ (rW E asx ss ++ (rW E ai ii ++ (rP E ap pp ++ (rQ E ta tx ++ (rR E ar rr ++ (rH E ah hh ++ (rH E aj jj ++ (rM E am mm ++ []))))))))))) H locs → INV (16200 * k + 16200) xx nn ii rr hh jj tx mm → lv_has ls 4 [(0, .ref b), (1, .ref (ax 0)), (2, .ref (am 0)), (3, .int (nI (6 * k)))] → W p l e room_1 s m #[Value.ref b] below meth c H locs (1926 + 3 * (k + 1)) (49660 + 603 * (k + 1)) Q (F0 m 1596 ls [])
end LW
