/-! CONSTRUCTORS: stores of ints, new objects; the store at the start -/
def zS0 : zSt := fun q => cond (Nat.beq q 16) (fun k => if k = 105 then 8 else if k = 106 then 2 else 0) (cond (Nat.beq q 1) (fun k => if k = 3 then 12 else if k = 5 then 13 else 0) (cond (Nat.beq q 38) (fun k => if k < 6 then 6 else 0) (cond (Nat.beq q 79) (fun k => if k < 6 then -1 else 0) (cond (Nat.beq q 42) (fun k => if k = 14 then 8 else if k = 15 then 2 else 0) (fun _ => 0)))))
section Ctor
variable {p : Program} {l : Launch} {e : Env} {R : Room} {s : State} {m : MethodId} {args : Array Value} {below : List Frame} {meth : Method} {c : Code} {cells slots : Nat} {Q : State → Prop} {H : Heap} {locs : List Loc}
variable {D : va_G} {A : Nat → Prop} {tc : Nat → ClassId} {zf : Nat} {pc : Nat} {ls : Array Slot} {cc : ByteArray} {own : String} {maxL : Nat}
theorem mk_iast (X : cX p s m args meth c D tc zf A own cc maxL) {ws : va_W} (hP : va_P D kCl ws H) (hD : va_D A ws) (hS : va_S A s.heap H locs) (q0 : Nat) {a n : Nat} {f : Nat → Int32} (ha : ws[q0]? = some (a, .inl (tc 0, n, .inl f))) {i x : Int32} {j : Nat} (hin : vp_in i n) (hj : i.toNatClampNeg = j) (hdg : decode cc pc = .ok (.iastore, 1)) {rest : List Value}
    (kk : ∀ (H1 : Heap) (locs1 : List Loc), va_P D kCl (ws.set q0 (a, .inl (tc 0, n, .inl (upd f j x)))) H1 → va_D A (ws.set q0 (a, .inl (tc 0, n, .inl (upd f j x)))) → va_S A s.heap H1 locs1 → W p l e R s m args below meth c H1 locs1 cells slots Q (F0 m (pc + 1) ls rest)) : W p l e R s m args below meth c H locs cells slots Q (F0 m pc ls (.int x :: .int i :: .ref a :: rest)) := by
  subst hj
  exact va_iast X.hx X.hb X.hK hP hD hS q0 0 ha rfl hin hdg kk
theorem mk_new (X : cX p s m args meth c D tc zf A own cc maxL) {ci idx : Nat} {C : String} {T : u_T} {N : Nat} {ty : Nat → FieldType} (hck : kCk ci C T N ty) (hcl : Jvm.Cond.classLink own idx C ∈ kTbl) (hinst : Jvm.Cond.instantiable C N ∈ kTbl) (hini : Jvm.Cond.initialized C ∈ kTbl) {ws : va_W} (hP : va_P D kCl ws H) (hD : va_D A ws) (hS : va_S A s.heap H locs) {fs : List Value} (hfs : fs = (List.range N).map (fun j => defaultValue (ty j)))
    {k1 n1 : Nat} (hk1 : cells + 1 = k1) (hn1 : slots + N = n1) (hc : k1 ≤ R.cells) (hs : n1 ≤ R.slots) (d0 : decode cc pc = .ok (.new idx, 3)) (d1 : decode cc (pc + 3) = .ok (.dup, 1)) {rest : List Value}
    (kk : ∀ (q : Nat) (H1 : Heap), va_P D kCl (ws ++ [(q, .inr (ci, fs))]) H1 → va_D A (ws ++ [(q, .inr (ci, fs))]) → va_S A s.heap H1 locs → W p l e R s m args below meth c H1 locs k1 n1 Q (F0 m (pc + 4) ls (.ref q :: .ref q :: rest))) : W p l e R s m args below meth c H locs cells slots Q (F0 m pc ls rest) := by
  subst hk1; subst hn1
  refine va_new (fs := fs) X.hx X.hb X.hts (kCl_ok ci (C, T, N) hck.1) ty hck.2.1 X.hown (X.hts _ hcl) (X.hts _ hinst) (X.hts _ hini) X.hK hP hD hS X.hA hck.1 (fun j hj => ?_) hc hs d0 (fun q H1 hP1 hD1 hS1 => ?_)
  · subst hfs
    unfold vp_V
    rw [List.getD_eq_getElem?_getD, List.getElem?_map, List.getElem?_range hj]
    rfl
  · exact lv_dup X.hx X.hb d1 rfl (kk q H1 hP1 hD1 hS1)
end Ctor
