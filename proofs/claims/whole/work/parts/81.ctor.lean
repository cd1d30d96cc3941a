/-! CONSTRUCTORS: what all of them have in common -/
def kNc : List Jvm.Cond := [.methodLinkNest "PennyALap" 9 ⟨"PennyALap$Law", "<init>", "()V"⟩ "PennyALap", .methodLinkNest "PennyALap" 27 ⟨"PennyALap$Changes", "<init>", "()V"⟩ "PennyALap", .methodLinkNest "PennyALap" 59 ⟨"PennyALap$Deed", "<init>", "()V"⟩ "PennyALap", .methodLinkNest "PennyALap" 69 ⟨"PennyALap$Bodies", "<init>", "()V"⟩ "PennyALap", .fieldLinkNest "PennyALap$Folk" 22 "PennyALap" "AT_FIRST" "[I" "PennyALap"]
def cFirst : Nat → Int32 := fun j => Int32.ofInt (zFIRST.getD j 0)
def cZ (zf : Nat) (A : Nat → Prop) (U : State) : Prop := va_Z "PennyALap" "AT_FIRST" "[I" (.ref zf) A U U.heap ∧ va_T .int zf 13 (fun j => .int (cFirst j)) A U U.heap ∧ kNok kNc U
def cPc (D : va_G) (tc : Nat → ClassId) (zf ci : Nat) (fs0 as : List Value) (h0 sz : Nat) : Array Value → State → Prop := va_Pc (.ref h0 :: as) (fun U => U.heap.size = sz ∧ va_P D kCl [(h0, .inr (ci, fs0))] U.heap ∧ va_K D kCl (kTy tc) U ∧ va_D (fun _ => True) [(h0, .inr (ci, fs0))] ∧ cZ zf (va_A [(h0, .inr (ci, fs0))] sz) U)
def cMet (l : Launch) (D : va_G) (tc : Nat → ClassId) (zf ci : Nat) (fs0 as : List Value) (rm : Room) (y : MethodName) (cc : ByteArray) (maxL : Nat) (w1 : Nat → (Nat → Nat) → va_W) : Prop := ∀ h0 sz, Met l y (Jvm.Cond.code y cc maxL none :: kTbl) rm (cPc D tc zf ci fs0 as h0 sz) (va_Qv (fun _ : Nat → Nat => True) (fun u t => va_P D kCl (w1 h0 u) t.heap ∧ va_D (va_A [(h0, .inr (ci, fs0))] sz) (w1 h0 u)) (va_A [(h0, .inr (ci, fs0))] sz)) rm.cells rm.slots (va_A [(h0, .inr (ci, fs0))] sz)
def kCk (ci : Nat) (C : String) (T : u_T) (N : Nat) (ty0 : Nat → FieldType) : Prop := kCl[ci]? = some (C, T, N) ∧ (∀ k, k < N → parseFieldDescriptor (T k).2.2.1 = some (ty0 k)) ∧ ∀ a, a < N → ∀ b, b < N → a ≠ b → (T a).2.1 ≠ (T b).2.1
def cX (p : Program) (s : State) (m : MethodId) (args : Array Value) (meth : Method) (c : Code) (D : va_G) (tc : Nat → ClassId) (zf : Nat) (A : Nat → Prop) (own : String) (cc : ByteArray) (maxL : Nat) : Prop := (p.tables.exec = Jvm.exec) ∧ (c.code = cc) ∧ (c.maxLocals = maxL) ∧ (∀ w ∈ kTbl, w.before args s = true) ∧ (s.vm.findClass own = some m.cls) ∧ (va_K D kCl (kTy tc) s) ∧ (cZ zf A s) ∧ (∀ q, s.heap.size ≤ q → A q)
theorem cX.hx {p : Program} {s : State} {m : MethodId} {args : Array Value} {meth : Method} {c : Code} {D : va_G} {tc : Nat → ClassId} {zf : Nat} {A : Nat → Prop} {own : String} {cc : ByteArray} {maxL : Nat} (h : cX p s m args meth c D tc zf A own cc maxL) : p.tables.exec = Jvm.exec := h.1
theorem cX.hb {p : Program} {s : State} {m : MethodId} {args : Array Value} {meth : Method} {c : Code} {D : va_G} {tc : Nat → ClassId} {zf : Nat} {A : Nat → Prop} {own : String} {cc : ByteArray} {maxL : Nat} (h : cX p s m args meth c D tc zf A own cc maxL) : c.code = cc := h.2.1
theorem cX.hml {p : Program} {s : State} {m : MethodId} {args : Array Value} {meth : Method} {c : Code} {D : va_G} {tc : Nat → ClassId} {zf : Nat} {A : Nat → Prop} {own : String} {cc : ByteArray} {maxL : Nat} (h : cX p s m args meth c D tc zf A own cc maxL) : c.maxLocals = maxL := h.2.2.1
theorem cX.hts {p : Program} {s : State} {m : MethodId} {args : Array Value} {meth : Method} {c : Code} {D : va_G} {tc : Nat → ClassId} {zf : Nat} {A : Nat → Prop} {own : String} {cc : ByteArray} {maxL : Nat} (h : cX p s m args meth c D tc zf A own cc maxL) : ∀ w ∈ kTbl, w.before args s = true := h.2.2.2.1
theorem cX.hown {p : Program} {s : State} {m : MethodId} {args : Array Value} {meth : Method} {c : Code} {D : va_G} {tc : Nat → ClassId} {zf : Nat} {A : Nat → Prop} {own : String} {cc : ByteArray} {maxL : Nat} (h : cX p s m args meth c D tc zf A own cc maxL) : s.vm.findClass own = some m.cls := h.2.2.2.2.1
theorem cX.hK {p : Program} {s : State} {m : MethodId} {args : Array Value} {meth : Method} {c : Code} {D : va_G} {tc : Nat → ClassId} {zf : Nat} {A : Nat → Prop} {own : String} {cc : ByteArray} {maxL : Nat} (h : cX p s m args meth c D tc zf A own cc maxL) : va_K D kCl (kTy tc) s := h.2.2.2.2.2.1
theorem cX.hZ {p : Program} {s : State} {m : MethodId} {args : Array Value} {meth : Method} {c : Code} {D : va_G} {tc : Nat → ClassId} {zf : Nat} {A : Nat → Prop} {own : String} {cc : ByteArray} {maxL : Nat} (h : cX p s m args meth c D tc zf A own cc maxL) : cZ zf A s := h.2.2.2.2.2.2.1
theorem cX.hA {p : Program} {s : State} {m : MethodId} {args : Array Value} {meth : Method} {c : Code} {D : va_G} {tc : Nat → ClassId} {zf : Nat} {A : Nat → Prop} {own : String} {cc : ByteArray} {maxL : Nat} (h : cX p s m args meth c D tc zf A own cc maxL) : ∀ q, s.heap.size ≤ q → A q := h.2.2.2.2.2.2.2
section Ctor
variable {p : Program} {l : Launch} {e : Env} {R : Room} {s : State} {m : MethodId} {args : Array Value} {below : List Frame} {meth : Method} {c : Code} {cells slots : Nat} {Q : State → Prop} {H : Heap} {locs : List Loc}
variable {D : va_G} {A : Nat → Prop} {tc : Nat → ClassId} {zf : Nat} {pc : Nat} {ls : Array Slot} {cc : ByteArray} {own : String} {maxL : Nat}
theorem mk_put (X : cX p s m args meth c D tc zf A own cc maxL) {ci k idx : Nat} {T : u_T} {N : Nat} {ty0 : Nat → FieldType} (hin2 : meth.name = "<init>") (hck : kCk ci own T N ty0) {h0 : Nat} {fs : List Value} {rest : va_W} (hP : va_P D kCl ((h0, .inr (ci, fs)) :: rest) H) (hD : va_D A ((h0, .inr (ci, fs)) :: rest)) (hS : va_S A s.heap H locs)
    (hw : Jvm.Cond.fieldLink own idx own (T k).2.1 (T k).2.2.1 ∈ kTbl) (hk : k < N) (hT : (T k).1 = own) (hl : k < fs.length) {ty : FieldType} {v : Value} (hd : parseFieldDescriptor (T k).2.2.1 = some ty) (hn : narrow ty v = v) (hfit : fits ty v = true) (hdg : decode cc pc = .ok (.putfield idx, 3)) {stk : List Value}
    (kk : ∀ (H1 : Heap) (locs1 : List Loc), va_P D kCl ((h0, .inr (ci, fs.set k v)) :: rest) H1 → va_D A ((h0, .inr (ci, fs.set k v)) :: rest) → va_S A s.heap H1 locs1 → W p l e R s m args below meth c H1 locs1 cells slots Q (F0 m (pc + 3) ls stk)) : W p l e R s m args below meth c H locs cells slots Q (F0 m pc ls (v :: .ref h0 :: stk)) := by
  have hsame : ∀ x, s.fieldFound? (T k).1 (T k).2.1 (T k).2.2.1 = some x → s.fieldFound? own (T k).2.1 (T k).2.2.1 = some x := fun x q => by rw [hT] at q; exact q
  by_cases hf : (T k).2.2.2 = true
  · exact va_putF X.hx X.hb X.hts (kCl_ok ci (own, T, N) hck.1) ty0 hck.2.1 hck.2.2 X.hown X.hK hP hD hS 0 rfl hck.1 k hk (X.hts _ hw) hsame hf hin2 hT hd hn hfit hl hdg kk
  · exact va_put X.hx X.hb X.hts (kCl_ok ci (own, T, N) hck.1) ty0 hck.2.1 hck.2.2 X.hown X.hK hP hD hS 0 rfl hck.1 k hk (X.hts _ hw) hsame (by cases h9 : (T k).2.2.2 with
      | true => exact absurd h9 hf
      | false => rfl) hd hn hfit hl hdg kk
theorem mk_newa (X : cX p s m args meth c D tc zf A own cc maxL) {t N : Nat} {ty : FieldType} {atype : ArrayType} {a0 : vp_A} {n : Int32} {ws : va_W} (hP : va_P D kCl ws H) (hD : va_D A ws) (hS : va_S A s.heap H locs) (hat : Jvm.Cond.arrayClass ty ∈ kTbl) (hty : newarray.typeOf atype = ty) (ht : (kTy tc)[t]? = some (tc t, ty)) (hpr : ∀ C, ty ≠ .object C)
    (ha : ∀ cA : ClassId, vp_cell cA a0 = arrV cA N (fun _ => defaultValue ty)) (hn : ¬ n < 0) (hN : n.toNatClampNeg = N) (hby : N * componentBytes ty ≤ 536870912) {k1 n1 : Nat} (hk1 : cells + 1 = k1) (hn1 : slots + N = n1) (hc : k1 ≤ R.cells) (hs : n1 ≤ R.slots) (hdg : decode cc pc = .ok (.newarray atype, 2)) {rest : List Value}
    (kk : ∀ (q : Nat) (H1 : Heap), va_P D kCl (ws ++ [(q, .inl (tc t, a0))]) H1 → va_D A (ws ++ [(q, .inl (tc t, a0))]) → va_S A s.heap H1 locs → W p l e R s m args below meth c H1 locs k1 n1 Q (F0 m (pc + 2) ls (.ref q :: rest))) : W p l e R s m args below meth c H locs cells slots Q (F0 m pc ls (.int n :: rest)) := by
  subst hk1; subst hn1
  refine va_newa X.hx X.hb (by rw [hty]; exact X.hts _ hat) hty X.hK hP hD hS X.hA ha hn hN hby hc hs hdg (fun q cA H1 hK1 hP1 hD1 hS1 => ?_)
  have e : cA = tc t := by
    have h1 := (hK1.2 (kTy tc).length (cA, ty) (by simp)).2
    have h2 := (X.hK.2 t (tc t, ty) ht).2
    cases ty <;> first | exact absurd rfl (hpr _) | exact Option.some.inj (h1.symm.trans h2)
  subst e
  exact kk q H1 hP1 hD1 hS1
def kPu (i : Instr) (z : Int) (ln : Nat) : Prop := (i = .bipush z ∧ ln = 2 ∧ (Int8.ofInt z).toInt32 = Int32.ofInt z) ∨ (i = .sipush z ∧ ln = 3 ∧ (Int16.ofInt z).toInt32 = Int32.ofInt z) ∨ (i = .iconst z ∧ ln = 1)
theorem mk_push (X : cX p s m args meth c D tc zf A own cc maxL) {i : Instr} {z : Int} {ln : Nat} {stk : List Value} (hp : kPu i z ln) (hdg : decode cc pc = .ok (i, ln)) (kk : W p l e R s m args below meth c H locs cells slots Q (F0 m (pc + ln) ls (.int (Int32.ofInt z) :: stk))) : W p l e R s m args below meth c H locs cells slots Q (F0 m pc ls stk) := by
  rcases hp with ⟨rfl, rfl, h⟩ | ⟨rfl, rfl, h⟩ | ⟨rfl, rfl⟩
  · exact lv_bipush X.hx X.hb hdg h kk
  · exact lv_sipush X.hx X.hb hdg h kk
  · exact lv_iconst X.hx X.hb hdg rfl kk
/-- a field gets a new array -/
theorem mk_arr (X : cX p s m args meth c D tc zf A own cc maxL) {ci k idx : Nat} {T : u_T} {N0 : Nat} {ty0 : Nat → FieldType} (hin2 : meth.name = "<init>") (hck : kCk ci own T N0 ty0) {h0 : Nat} {fs : List Value} {rest : va_W} {lr : List (Nat × Value)} (hl : lv_has ls maxL ((0, .ref h0) :: lr)) (hP : va_P D kCl ((h0, .inr (ci, fs)) :: rest) H) (hD : va_D A ((h0, .inr (ci, fs)) :: rest)) (hS : va_S A s.heap H locs)
    {i : Instr} {z : Int} {ln : Nat} (hp : kPu i z ln) {t N : Nat} {ty : FieldType} {atype : ArrayType} {a0 : vp_A} (hat : Jvm.Cond.arrayClass ty ∈ kTbl) (hty : newarray.typeOf atype = ty) (ht : (kTy tc)[t]? = some (tc t, ty)) (hpr : ∀ C, ty ≠ .object C) (ha : ∀ cA : ClassId, vp_cell cA a0 = arrV cA N (fun _ => defaultValue ty)) (hn : ¬ Int32.ofInt z < 0) (hN : (Int32.ofInt z).toNatClampNeg = N) (hby : N * componentBytes ty ≤ 536870912)
    {k1 n1 : Nat} (hk1 : cells + 1 = k1) (hn1 : slots + N = n1) (hc : k1 ≤ R.cells) (hs : n1 ≤ R.slots)
    (hw : Jvm.Cond.fieldLink own idx own (T k).2.1 (T k).2.2.1 ∈ kTbl) (hk : k < N0) (hT : (T k).1 = own) (hlf : k < fs.length) {tyf : FieldType} (hd : parseFieldDescriptor (T k).2.2.1 = some tyf) (hnf : ∀ q, narrow tyf (.ref q) = .ref q) (hfit : ∀ q, fits tyf (.ref q) = true)
    (d0 : decode cc pc = .ok (.aload_n 0, 1)) (d1 : decode cc (pc + 1) = .ok (i, ln)) (d2 : decode cc (pc + 1 + ln) = .ok (.newarray atype, 2)) (d3 : decode cc (pc + 1 + ln + 2) = .ok (.putfield idx, 3))
    (kk : ∀ (q : Nat) (H1 : Heap) (locs1 : List Loc), va_P D kCl ((h0, .inr (ci, fs.set k (.ref q))) :: (rest ++ [(q, .inl (tc t, a0))])) H1 → va_D A ((h0, .inr (ci, fs.set k (.ref q))) :: (rest ++ [(q, .inl (tc t, a0))])) → va_S A s.heap H1 locs1 → W p l e R s m args below meth c H1 locs1 k1 n1 Q (F0 m (pc + 1 + ln + 2 + 3) ls [])) : W p l e R s m args below meth c H locs cells slots Q (F0 m pc ls []) := by
  refine lv_aload_n X.hx X.hb d0 rfl (lv_at hl 0 rfl) ?_
  refine mk_push X hp d1 ?_
  refine mk_newa X hP hD hS hat hty ht hpr ha hn hN hby hk1 hn1 hc hs d2 (fun q H1 hP1 hD1 hS1 => ?_)
  exact mk_put X hin2 hck hP1 hD1 hS1 hw hk hT hlf hd (hnf q) (hfit q) d3 (fun H2 locs2 hP2 hD2 hS2 => kk q H2 locs2 hP2 hD2 hS2)
/-- a field gets an argument -/
theorem mk_ref (X : cX p s m args meth c D tc zf A own cc maxL) {ci k idx : Nat} {T : u_T} {N0 : Nat} {ty0 : Nat → FieldType} (hin2 : meth.name = "<init>") (hck : kCk ci own T N0 ty0) {h0 : Nat} {fs : List Value} {rest : va_W} {lr : List (Nat × Value)} (hl : lv_has ls maxL ((0, .ref h0) :: lr)) (hP : va_P D kCl ((h0, .inr (ci, fs)) :: rest) H) (hD : va_D A ((h0, .inr (ci, fs)) :: rest)) (hS : va_S A s.heap H locs)
    {j : Fin 4} {r : Nat} (jj : Nat) (hj : lr[jj]? = some ((j : Nat), .ref r)) (hw : Jvm.Cond.fieldLink own idx own (T k).2.1 (T k).2.2.1 ∈ kTbl) (hk : k < N0) (hT : (T k).1 = own) (hlf : k < fs.length) {tyf : FieldType} (hd : parseFieldDescriptor (T k).2.2.1 = some tyf) (hnf : ∀ q, narrow tyf (.ref q) = .ref q) (hfit : ∀ q, fits tyf (.ref q) = true)
    (d0 : decode cc pc = .ok (.aload_n 0, 1)) (d1 : decode cc (pc + 1) = .ok (.aload_n j, 1)) (d3 : decode cc (pc + 2) = .ok (.putfield idx, 3))
    (kk : ∀ (H1 : Heap) (locs1 : List Loc), va_P D kCl ((h0, .inr (ci, fs.set k (.ref r))) :: rest) H1 → va_D A ((h0, .inr (ci, fs.set k (.ref r))) :: rest) → va_S A s.heap H1 locs1 → W p l e R s m args below meth c H1 locs1 cells slots Q (F0 m (pc + 5) ls [])) : W p l e R s m args below meth c H locs cells slots Q (F0 m pc ls []) := by
  refine lv_aload_n X.hx X.hb d0 rfl (lv_at hl 0 rfl) ?_
  refine lv_aload_n (i := (j : Nat)) (x := r) X.hx X.hb d1 rfl (lv_at hl (jj + 1) hj) ?_
  exact mk_put X hin2 hck hP hD hS hw hk hT hlf hd (hnf r) (hfit r) d3 kk
/-- a field gets a constant -/
theorem mk_int (X : cX p s m args meth c D tc zf A own cc maxL) {ci k idx : Nat} {T : u_T} {N0 : Nat} {ty0 : Nat → FieldType} (hin2 : meth.name = "<init>") (hck : kCk ci own T N0 ty0) {h0 : Nat} {fs : List Value} {rest : va_W} {lr : List (Nat × Value)} (hl : lv_has ls maxL ((0, .ref h0) :: lr)) (hP : va_P D kCl ((h0, .inr (ci, fs)) :: rest) H) (hD : va_D A ((h0, .inr (ci, fs)) :: rest)) (hS : va_S A s.heap H locs)
    {i : Instr} {z : Int} {ln : Nat} (hp : kPu i z ln) (hw : Jvm.Cond.fieldLink own idx own (T k).2.1 (T k).2.2.1 ∈ kTbl) (hk : k < N0) (hT : (T k).1 = own) (hlf : k < fs.length) {tyf : FieldType} (hd : parseFieldDescriptor (T k).2.2.1 = some tyf) (hnf : narrow tyf (.int (Int32.ofInt z)) = .int (Int32.ofInt z)) (hfit : fits tyf (.int (Int32.ofInt z)) = true)
    (d0 : decode cc pc = .ok (.aload_n 0, 1)) (d1 : decode cc (pc + 1) = .ok (i, ln)) (d3 : decode cc (pc + 1 + ln) = .ok (.putfield idx, 3))
    (kk : ∀ (H1 : Heap) (locs1 : List Loc), va_P D kCl ((h0, .inr (ci, fs.set k (.int (Int32.ofInt z)))) :: rest) H1 → va_D A ((h0, .inr (ci, fs.set k (.int (Int32.ofInt z)))) :: rest) → va_S A s.heap H1 locs1 → W p l e R s m args below meth c H1 locs1 cells slots Q (F0 m (pc + 1 + ln + 3) ls [])) : W p l e R s m args below meth c H locs cells slots Q (F0 m pc ls []) := by
  refine lv_aload_n X.hx X.hb d0 rfl (lv_at hl 0 rfl) ?_
  refine mk_push X hp d1 ?_
  exact mk_put X hin2 hck hP hD hS hw hk hT hlf hd hnf hfit d3 kk
theorem mk_init (X : cX p s m args meth c D tc zf A own cc maxL) {idx : Nat} {h0 : Nat} {lr : List (Nat × Value)} (hl : lv_has ls maxL ((0, .ref h0) :: lr)) (hw : Jvm.Cond.methodLink own idx Lib.objectInit ∈ kTbl) (hi : Jvm.Cond.instanceMethod Lib.objectInit ∈ kTbl) (hc : Jvm.Cond.code Lib.objectInit ⟨#[0xb1]⟩ 1 none ∈ kTbl) (hR : 1 ≤ R.frames ∧ 12 ≤ R.locals)
    (d0 : decode cc 0 = .ok (.aload_n 0, 1)) (d1 : decode cc 1 = .ok (.invokespecial idx, 3)) (kk : W p l e R s m args below meth c H locs cells slots Q (F0 m 4 ls [])) : W p l e R s m args below meth c H locs cells slots Q (F0 m 0 ls []) := by
  refine lv_aload_n X.hx X.hb d0 rfl (lv_at hl 0 rfl) ?_
  exact W.objInit (g := F0 m 1 ls [.ref h0]) X.hx X.hb X.hown (X.hts _ hw) (X.hts _ hi) (X.hts _ hc) rfl (by rw [X.hml]; exact hl.1) rfl d1 hR.1 hR.2 (W.eq (g2 := F0 m 4 ls []) rfl kk)
theorem cMet_of {ci : Nat} {fs0 as : List Value} {rm : Room} {y : MethodName} {w1 : Nat → (Nat → Nat) → va_W} (hy : plainName y.cls = true) (hn : y.name = "<init>") (hsl : ∀ h0, (lg_sl (Value.ref h0 :: as)).length ≤ maxL)
    (body : ∀ {p : Program} {e : Env} {s : State} {m : MethodId} {args : Array Value} {below : List Frame} {meth : Method} {c : Code} {Q : State → Prop} {A : Nat → Prop} {ls : Array Slot} (h0 : Nat), cX p s m args meth c D tc zf A y.cls cc maxL → meth.name = "<init>" →
      (∀ (u : Nat → Nat) (H : Heap) (locs : List Loc) (pc : Nat) (ls : Array Slot), va_P D kCl (w1 h0 u) H → va_D A (w1 h0 u) → va_S A s.heap H locs → decode cc pc = .ok (.return_, 1) → W p l e rm s m args below meth c H locs rm.cells rm.slots Q (F0 m pc ls [])) →
      lv_has ls maxL (lv_args 0 (.ref h0 :: as)) → va_P D kCl [(h0, .inr (ci, fs0))] s.heap → va_D A [(h0, .inr (ci, fs0))] → va_S A s.heap s.heap [] → W p l e rm s m args below meth c s.heap [] 0 0 Q (F0 m 0 ls [])) : cMet l D tc zf ci fs0 as rm y cc maxL w1 := by
  intro h0 sz
  refine Met.ofW (cc := cc) (maxL := maxL) (ret := none) hy rfl ?_
  intro p e s m args below meth c s₁ B hml hv
  obtain ⟨rfl, hsz, hP, hK, hD0, hZ⟩ := hv
  have hr := B.returns
  have hts := atoms_spec (ws := Jvm.Cond.code y cc maxL none :: kTbl) B.pre
  have hlocks := B.notSynchronized
  subst hsz
  rw [lg_entry_eq]
  refine body h0 ⟨B.exec, B.bytes, hml, fun w q => hts w (List.mem_cons_of_mem _ q), findClass_of_methodNamed B.named, hK, hZ, fun q h => Or.inr h⟩ ((name_of_methodNamed B.named B.method).1.trans hn) ?_ (lv_entry (.ref h0 :: as) (hsl h0)) hP hD0.self va_S.rf
  intro u H locs pc ls hP1 hD1 hS1 hd
  exact W.vret B.exec B.bytes hr (fun t ht hW => ⟨⟨u, rfl, trivial, by rw [ht]; exact hP1, hD1⟩, hS1.F ht⟩) hS1.2.2 hd
theorem cPc_blind {ci : Nat} {fs0 as : List Value} (h0 sz : Nat) : FrameBlind (cPc D tc zf ci fs0 as h0 sz) := by
  intro a U g mk q
  obtain ⟨q0, q1, qP, qK, qD, qR, qT, qN⟩ := q
  exact ⟨q0, q1, qP, va_K.moved (u := U) (U := U.calling g mk a) (Vm.Alike.refl U.vm) qK, qD, qR.moved (u := U) (U := U.calling g mk a) (Vm.Alike.refl U.vm), qT.moved (u := U) (U := U.calling g mk a) (Vm.Alike.refl U.vm), qN.same (u := U) (U := U.calling g mk a) rfl⟩
theorem va_nd_range : ∀ n, va_nd (List.range n) = true := by
  have key : ∀ l : List Nat, l.Nodup → va_nd l = true := by
    intro l
    induction l with
    | nil => intro _; rfl
    | cons a l ih =>
      intro h
      obtain ⟨h1, h2⟩ := List.nodup_cons.mp h
      simp [va_nd, h1, ih h2]
  exact fun n => key _ List.nodup_range
theorem c_call (X : cX p s m args meth c D tc zf A own cc maxL) {ci idx : Nat} {fs0 as : List Value} {rm : Room} {y : MethodName} {cc' : ByteArray} {maxL' : Nat} {w1 : Nat → (Nat → Nat) → va_W} (hM : cMet l D tc zf ci fs0 as rm y cc' maxL' w1) (hcode : Jvm.Cond.code y cc' maxL' none ∈ kTbl) (hini : Jvm.Cond.initialized y.cls ∈ kTbl) (him : Jvm.Cond.instanceMethod y ∈ kTbl) (hy : y.name = "<init>")
    (hyc : y.cls ≠ "java/lang/invoke/MethodHandle" ∧ y.cls ≠ "java/lang/invoke/VarHandle" ∧ (parseMethodDescriptor y.desc).map (fun d => d.parameters.length) = some as.length) (hlink : Jvm.Cond.methodLink own idx y ∈ kTbl ∨ ∃ host, Jvm.Cond.methodLinkNest own idx y host ∈ kNc) (hroom : rm.frames + 1 ≤ R.frames ∧ 8 + (maxL' + 11) + rm.locals ≤ R.locals)
    {ws0 : va_W} {q : Nat} (hP : va_P D kCl (ws0 ++ [(q, .inr (ci, fs0))]) H) (hD : va_D A (ws0 ++ [(q, .inr (ci, fs0))])) (hS : va_S A s.heap H locs) {rest : List Value} (hcat : (rest.map fun v => v.category).sum ≤ 8) (hls : ls.size = maxL) (hd : decode cc pc = .ok (.invokespecial idx, 3)) {k1 n1 : Nat} (hk1 : cells + rm.cells = k1) (hn1 : slots + rm.slots = n1) (hc : k1 ≤ R.cells) (hs : n1 ≤ R.slots)
    (kk : ∀ (u : Nat → Nat) (H1 : Heap) (locs1 : List Loc), va_P D kCl (ws0 ++ w1 q u) H1 → va_D A (ws0 ++ w1 q u) → va_S A s.heap H1 locs1 → W p l e R s m args below meth c H1 locs1 k1 n1 Q (F0 m (pc + 3) ls rest)) : W p l e R s m args below meth c H locs cells slots Q (F0 m pc ls (as.reverse ++ .ref q :: rest)) := by
  subst hk1; subst hn1
  have hPc := hP.sub (ws' := [(q, .inr (ci, fs0))]) [ws0.length] (by simp)
  have hDc := hD.sub (ws' := [(q, .inr (ci, fs0))]) [ws0.length] rfl (by simp)
  have hFc := va_free (wc := [(q, .inr (ci, fs0))]) hD hS X.hA [ws0.length] (by simp)
  have hG : GoodIn kTbl (Jvm.Cond.code y cc' maxL' none :: kTbl) := by
    intro w hw
    rcases List.mem_cons.mp hw with rfl | hw
    · exact ⟨hcode, good_of_word (kGood _ hcode)⟩
    · exact ⟨hw, good_of_word (kGood _ hw)⟩
  have hpre : PreS s H (cPc D tc zf ci fs0 as q H.size) (.ref q :: as) := ⟨cPc_blind q H.size, fun U hU hW => ⟨rfl, by rw [hU], by rw [hU]; exact hPc, va_K.moved hW.alike X.hK, hDc.weaken (fun _ _ _ _ => trivial), by rw [hU]; exact ((X.hZ.1.kept (H1 := H) (fun a h1 h2 => hS.2.1 a h1 h2)).narrow hFc).moved hW.alike, by rw [hU]; exact ((X.hZ.2.1.kept (H1 := H) (fun a h1 h2 => hS.2.1 a h1 h2)).narrow hFc).moved hW.alike, X.hZ.2.2.warm hW⟩⟩
  have go : ∀ (u : Nat → Nat) (t : State) (H1 : Heap) (locs1 : List Loc), t.heap = H1 → s.vm.Alike t.vm → True → (va_P D kCl (w1 q u) t.heap ∧ va_D (va_A [(q, .inr (ci, fs0))] H.size) (w1 q u)) → H.size ≤ H1.size → (∀ a : Nat, a < H.size → ¬ va_A [(q, .inr (ci, fs0))] H.size a → H1[a]? = H[a]?) → va_S A s.heap H1 locs1 → W p l e R s m args below meth c H1 locs1 (cells + rm.cells) (slots + rm.slots) Q (F0 m (pc + 3) ls rest) := by
    intro u t H1 locs1 ht hvm _ hB hz1 hk1 hS1
    obtain ⟨hP1, hD1⟩ := hB
    rw [ht] at hP1
    obtain ⟨hP2, hD2⟩ := va_join (wr := ws0) (w1 := w1 q u) hP hD [ws0.length] (List.range ws0.length) (wc := [(q, .inr (ci, fs0))]) (by simp) (by
      apply List.ext_getElem?
      intro i
      by_cases hi : i < ws0.length
      · simp [hi, List.getElem?_append_left]
      · simp [hi]) (va_nd_range _) (by
      intro i hi hj
      have h1 := List.mem_range.mp hi
      have h2 := List.mem_singleton.mp hj
      omega) hk1 hFc hP1 hD1
    exact kk u H1 locs1 hP2 hD2 hS1
  rcases hlink with hlink | ⟨host, hlink⟩
  · exact va_callv (va_runI (g := F0 m pc ls (as.reverse ++ .ref q :: rest)) ⟨X.hx, X.hb, X.hml, X.hown, X.hts⟩ (hM q H.size) (cwI as.length X.hts hG rfl rfl rfl (X.hts _ hini) (X.hts _ hlink) (X.hts _ him) hy hyc hroom) hpre rfl rfl hls rfl (lv_room hcat) hd ⟨hc, hs⟩) hS (fun a _ h => hFc a h) hFc go
  · exact va_callv (va_runIN (g := F0 m pc ls (as.reverse ++ .ref q :: rest)) ⟨X.hx, X.hb, X.hml, X.hown, X.hts⟩ (hM q H.size) ⟨va_cnB as.length X.hts hG rfl rfl rfl (X.hZ.2.2 _ hlink).1 (X.hts _ hini) hyc hroom, hy, X.hts _ him⟩ hpre rfl rfl hls rfl (lv_room hcat) hd ⟨hc, hs⟩) hS (fun a _ h => hFc a h) hFc go
end Ctor
