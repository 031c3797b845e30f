/-! more rows: names for what stands on top, switches, arraycopy -/
theorem pst {ws : va_W} : ws.Perm (([] : va_W) ++ ws) := List.Perm.refl _
section G3
variable {p : Program} {l : Launch} {e : Env} {R : Room} {s : State} {m : MethodId} {args : Array Value} {below : List Frame} {meth : Method} {c : Code} {H : Heap} {locs : List Loc} {cells slots : Nat} {Q : State → Prop}
variable {E : GE} {cc : ByteArray} {nL idx n pc a ci N : Nat} {own : String} {A : Nat → Prop} {ws ws' : va_W} {rest : List Value} {ls : Array Slot}
theorem g_int {x v : Int32} (h : v = x) (k : W p l e R s m args below meth c H locs cells slots Q (F0 m pc ls (.int v :: rest))) : W p l e R s m args below meth c H locs cells slots Q (F0 m pc ls (.int x :: rest)) := h ▸ k
theorem g_long {x v : Int64} (h : v = x) (k : W p l e R s m args below meth c H locs cells slots Q (F0 m pc ls (.long v :: rest))) : W p l e R s m args below meth c H locs cells slots Q (F0 m pc ls (.long x :: rest)) := h ▸ k
theorem g_double {x v : UInt64} (h : v = x) (k : W p l e R s m args below meth c H locs cells slots Q (F0 m pc ls (.double v :: rest))) : W p l e R s m args below meth c H locs cells slots Q (F0 m pc ls (.double x :: rest)) := h ▸ k
theorem g_float {x v : UInt32} (h : v = x) (k : W p l e R s m args below meth c H locs cells slots Q (F0 m pc ls (.float v :: rest))) : W p l e R s m args below meth c H locs cells slots Q (F0 m pc ls (.float x :: rest)) := h ▸ k
def strlen (i : Nat) : Int32 := Int32.ofNat (lenS.getD i 0)
def strch (i k : Nat) : Int32 := (bytS.getD i []).getD k 0
def irem (x y : Int32) : Int32 := x - x / y * y
def lrem (x y : Int64) : Int64 := x - x / y * y
def iushr (x y : Int32) : Int32 := (x.toUInt32 >>> (y.toUInt32 &&& Int32.toUInt32 31)).toInt32
def imin (x y : Int32) : Int32 := if y < x then y else x
def n32 (r : UInt32) : Bool := decide (r &&& 0x7fffffff ≤ 0x7f800000)
theorem n32_n {r : UInt32} (h : n32 r = true) : vf_n32 r := (of_decide_eq_true h : r &&& 0x7fffffff ≤ 0x7f800000)
def n64 (r : UInt64) : Bool := decide (r &&& 0x7fffffffffffffff ≤ 0x7ff0000000000000)
theorem n64_n {r : UInt64} (h : n64 r = true) : vf_n64 r := (of_decide_eq_true h : r &&& 0x7fffffffffffffff ≤ 0x7ff0000000000000)
def lshl (x : Int64) (y : Int32) : Int64 := x <<< (y.toInt64 &&& 63)
def acp (sp dp n : Int32) (n0 n1 : Nat) : Bool := decide (¬ sp < 0 ∧ ¬ dp < 0 ∧ ¬ n < 0 ∧ sp.toNatClampNeg + n.toNatClampNeg ≤ n0 ∧ dp.toNatClampNeg + n.toNatClampNeg ≤ n1)
theorem g_swo (x : Int32) (lo hi : Int) (l : List Int32) (hc : ((List.range (hi - lo + 1).toNat).all fun i => l.contains (Int32.ofInt (lo + i))) = true) (h : ∀ v ∈ l, ¬ x = v) : x.toInt < lo ∨ hi < x.toInt := by
  rcases Int.lt_or_le x.toInt lo with a | a
  · exact Or.inl a
  · rcases Int.lt_or_le hi x.toInt with b | b
    · exact Or.inr b
    · exfalso
      have hi' : (x.toInt - lo).toNat ∈ List.range (hi - lo + 1).toNat := List.mem_range.mpr (by omega)
      have h2 := List.all_eq_true.mp hc _ hi'
      have e : lo + ((x.toInt - lo).toNat : Int) = x.toInt := by omega
      rw [e, Int32.ofInt_toInt] at h2
      exact h x (by simpa using h2) rfl
theorem gS_cpy (C : gC E p m c cc nL s args own A) (hl : ls.size = nL) (hG : gG E A s.heap ws H locs) (q0 q1 : Nat) {a0 n0 n1 js jd jn : Nat} {f g : Nat → Int32} (ha0 : ws[q0]? = some (a0, .inl (E.2.1 0, n0, .inl f))) (ha1 : ws[q1]? = some (a, .inl (E.2.1 0, n1, .inl g))) {sp dp n : Int32} (hc : acp sp dp n n0 n1 = true) (hs : sp.toNatClampNeg = js) (hd : dp.toNatClampNeg = jd) (hn : n.toNatClampNeg = jn)
    (hlk : Cond.methodLink own idx arraycopyName ∈ wAll) (hnat : Cond.native arraycopyName ∈ wAll) (hstat : Cond.static arraycopyName ∈ wAll) (hini : Cond.initialized "java/lang/System" ∈ wAll)
    (hframes : 1 ≤ R.frames) (hlocals : (rest.map fun v => v.category).sum + (nativeFrameWords "java/lang/System" "arraycopy" 5 + 11) ≤ R.locals) (hdg : decode cc pc = .ok (.invokestatic idx, 3)) (hw : ws.set q1 (a, .inl (E.2.1 0, n1, .inl (va_cpy f g js jd jn))) = ws')
    (kk : ∀ (H1 : Heap) (locs1 : List Loc), gG E A s.heap ws' H1 locs1 → W p l e R s m args below meth c H1 locs1 cells slots Q (F0 m (pc + 3) ls rest)) : W p l e R s m args below meth c H locs cells slots Q (F0 m pc ls (.int n :: .int dp :: .ref a :: .int sp :: .ref a0 :: rest)) := by
  obtain ⟨h1, h2, h3, h4, h5⟩ := of_decide_eq_true (show decide (¬ sp < 0 ∧ ¬ dp < 0 ∧ ¬ n < 0 ∧ sp.toNatClampNeg + n.toNatClampNeg ≤ n0 ∧ dp.toNatClampNeg + n.toNatClampNeg ≤ n1) = true from hc)
  have hts := C.1.2.2.2.2
  exact va_copyi C.1.1 C.1.2.1 (C.1.2.2.1.trans hl.symm) C.1.2.2.2.1 (hts _ hlk) (hts _ hnat) (hts _ hstat) (hts _ hini) C.2.1 hG.1 hG.2.1 hG.2.2 q0 q1 0 0 (ty := .int) ha0 ha1 rfl rfl rfl h1 h2 h3 h4 h5 (fun _ _ => rfl) hframes hlocals hdg (fun H1 locs1 hP hD hS => kk H1 locs1 (gG_of hP hD hS (by rw [hs, hd, hn]; exact hw)))
end G3
