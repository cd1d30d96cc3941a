/-! THE ENGINE IS SOUND: blocks, calls, methods -/
abbrev kMi : Type := MethodName × ByteArray × Nat × Option FieldType × Nat × Bool × Nat
def kRm (d : Nat) : Room := { frames := d, cells := 0, slots := 0, locals := 64 * d }
def kTb (pc : Nat) : Int → List Int → List (Int32 × Nat) → Prop
  | _, [], [] => True
  | lo, o :: os, q :: r => q.1.toInt = lo ∧ (pc : Int) + o = (q.2 : Int) ∧ kTb pc (lo + 1) os r
  | _, _, _ => False
def kLk (pc : Nat) : List (Int × Int) → List (Int32 × Nat) → Prop
  | [], [] => True
  | o :: os, q :: r => q.1.toInt = o.1 ∧ (pc : Int) + o.2 = (q.2 : Int) ∧ kLk pc os r
  | _, _ => False
def kRok (i : Instr) (a : Nat) (ret : Option FieldType) : Prop := match i with
  | .ireturn => (a = 0 ∧ ret = some .int) ∨ (a = 1 ∧ ret = some .boolean)
  | .lreturn => ret = some .long
  | .return_ => ret = none
  | _ => False
def kCok (tbl : List Jvm.Cond) (zs : kZt) (mi : Nat → Option kMi) (M : kMi) (pc a b : Nat) : Prop := ∃ (M' : kMi) (idx : Nat), mi a = some M' ∧
  ((M'.2.2.2.2.2.1 = true ∧ b = M'.2.2.2.2.1 ∧ decode M.2.1 pc = .ok (.invokestatic idx, 3) ∧ (Jvm.Cond.methodLink M.1.cls idx M'.1 ∈ tbl ∨ ∃ host, Jvm.Cond.methodLinkNest M.1.cls idx M'.1 host ∈ zs.2))
    ∨ (M'.2.2.2.2.2.1 = false ∧ b = M'.2.2.2.2.1 + 1 ∧ decode M.2.1 pc = .ok (.invokevirtual idx, 3) ∧ Jvm.Cond.methodLink M.1.cls idx M'.1 ∈ tbl))
def kOk (tbl : List Jvm.Cond) (cl : List vw_C) (zs : kZt) (mi : Nat → Option kMi) (M : kMi) : Nat → List kIt → Prop
  | _, [] => True
  | pc, (_, .inl (i, a, b, z)) :: is => decode M.2.1 pc = .ok (i, kLn i) ∧ kWd tbl cl M.1.cls zs i a b z ∧ kOk tbl cl zs mi M (pc + kLn i) is
  | pc, (_, .inr (i, k, a, b, sw)) :: is =>
      (k = 0 → (∃ cd off, (i = .ifCond cd off ∨ i = .if_icmp cd off) ∧ (pc : Int) + off = (a : Int)) ∧ decode M.2.1 pc = .ok (i, 3) ∧ kOk tbl cl zs mi M (pc + 3) is)
    ∧ (k = 1 → a = pc ∨ ∃ off, decode M.2.1 pc = .ok (.goto off, 3) ∧ (pc : Int) + off = (a : Int))
    ∧ (k = 2 → (∃ dflt lo hi offs len, decode M.2.1 pc = .ok (.tableswitch dflt lo hi offs, len) ∧ (pc : Int) + dflt = (a : Int) ∧ hi + 1 = lo + offs.toList.length ∧ kTb pc lo offs.toList sw)
        ∨ ∃ dflt ps len, decode M.2.1 pc = .ok (.lookupswitch dflt ps, len) ∧ (ps.toList.zip (ps.toList.drop 1)).all (fun (a, next) => a.1 < next.1) = true ∧ (pc : Int) + dflt = (a : Int) ∧ kLk pc ps.toList sw)
    ∧ (k = 3 → decode M.2.1 pc = .ok (i, 1) ∧ kRok i a M.2.2.2.1)
    ∧ (k = 4 → kCok tbl zs mi M pc a b ∧ kOk tbl cl zs mi M (pc + 3) is)
def kMok (tbl : List Jvm.Cond) (cl : List vw_C) (M : kMi) : Prop := plainName M.1.cls = true ∧ Jvm.Cond.code M.1 M.2.1 M.2.2.1 M.2.2.2.1 ∈ tbl ∧ Jvm.Cond.initialized M.1.cls ∈ tbl ∧ (M.1.cls ≠ "java/lang/invoke/MethodHandle" ∧ M.1.cls ≠ "java/lang/invoke/VarHandle")
  ∧ (parseMethodDescriptor M.1.desc).map (fun d => d.parameters.length) = some M.2.2.2.2.1 ∧ M.2.2.1 ≤ 45
  ∧ (M.2.2.2.2.2.1 = true → Jvm.Cond.static M.1 ∈ tbl) ∧ (M.2.2.2.2.2.1 = false → Jvm.Cond.instanceMethod M.1 ∈ tbl ∧ Jvm.Cond.selects M.1.cls M.1 M.1 ∈ tbl ∧ ∃ q : vw_C, cl[M.2.2.2.2.2.2]? = some q ∧ q.1 = M.1.cls)
theorem kSw_tb {α : Type} {k : Nat → α} {pc d : Nat} {x : Int32} : ∀ (offs : List Int) (lo : Int) (sw : List (Int32 × Nat)), kTb pc lo offs sw →
    ((x.toInt < lo ∨ lo + offs.length ≤ x.toInt) ∧ kSw k x d sw = k d) ∨ (¬ x.toInt < lo ∧ x.toInt < lo + offs.length ∧ ∃ (off : Int) (t : Nat), offs[(x.toInt - lo).toNat]? = some off ∧ (pc : Int) + off = (t : Int) ∧ kSw k x d sw = k t)
  | [], lo, [], _ => Or.inl ⟨by simp; omega, rfl⟩
  | [], lo, _ :: _, h => h.elim
  | _ :: _, lo, [], h => h.elim
  | o :: os, lo, q :: r, h => by
    obtain ⟨h1, h2, h3⟩ := h
    by_cases hq : x = q.1
    · right
      have hx : x.toInt = lo := by rw [hq]; exact h1
      refine ⟨by omega, by rw [List.length_cons]; omega, o, q.2, ?_, h2, ?_⟩
      · rw [show (x.toInt - lo).toNat = 0 by omega]; rfl
      · unfold kSw; rw [if_pos hq]
    · have hx : ¬ x.toInt = lo := fun z => hq (Int32.toInt_inj.mp (z.trans h1.symm))
      have e : kSw k x d (q :: r) = kSw k x d r := by
        show (if x = q.1 then k q.2 else kSw k x d r) = _
        rw [if_neg hq]
      rcases kSw_tb (k := k) (d := d) (x := x) os (lo + 1) r h3 with ⟨g1, g2⟩ | ⟨g1, g2, off, t, g3, g4, g5⟩
      · left
        exact ⟨by rw [List.length_cons]; omega, e.trans g2⟩
      · right
        refine ⟨by omega, by rw [List.length_cons]; omega, off, t, ?_, g4, e.trans g5⟩
        rw [show (x.toInt - lo).toNat = (x.toInt - (lo + 1)).toNat + 1 by omega]
        exact g3
theorem kSw_lk {α : Type} {k : Nat → α} {pc d : Nat} {dflt : Int} {x : Int32} (hd : (pc : Int) + dflt = (d : Int)) : ∀ (ps : List (Int × Int)) (sw : List (Int32 × Nat)), kLk pc ps sw → ∃ t : Nat, (pc : Int) + Op.lookupswitch.offset ps dflt x.toInt = (t : Int) ∧ kSw k x d sw = k t
  | [], [], _ => ⟨d, hd, rfl⟩
  | [], _ :: _, h => h.elim
  | _ :: _, [], h => h.elim
  | o :: os, q :: r, h => by
    obtain ⟨h1, h2, h3⟩ := h
    by_cases hq : x = q.1
    · refine ⟨q.2, ?_, ?_⟩
      · rw [Op.lookupswitch.offset_cons, if_pos (by rw [hq, h1])]; exact h2
      · unfold kSw; rw [if_pos hq]
    · obtain ⟨t, g1, g2⟩ := kSw_lk (k := k) (x := x) hd os r h3
      refine ⟨t, ?_, ?_⟩
      · rw [Op.lookupswitch.offset_cons, if_neg (fun z => hq (Int32.toInt_inj.mp (by rw [h1, z])))]; exact g1
      · show (if x = q.1 then k q.2 else kSw k x d r) = _
        rw [if_neg hq]; exact g2
section KSnd
variable {p : Program} {l : Launch} {e : Env} {R : Room} {s : State} {m : MethodId} {args : Array Value} {below : List Frame} {meth : Method} {c : Code} {cells slots : Nat} {Q : State → Prop} {H : Heap} {locs : List Loc}
variable {D : va_G} {cl : List vw_C} {A : Nat → Prop} {tc : Nat → ClassId} {ad : Nat → Nat} {ro : kRo} {Ts tbl : List Jvm.Cond} {zs : kZt} {pc : Nat} {ls : Array Slot}
/-- a method's start and end, over the lists -/
def kPc (D : va_G) (cl : List vw_C) (tc : Nat → ClassId) (ad : Nat → Nat) (ro : kRo) (zs : kZt) (as : List Value) (hp : kH) (sz : Nat) : Array Value → State → Prop :=
  va_Pc (as.map (kV ad)) (fun U => U.heap.size = sz ∧ va_P D cl (kW tc ad 0 hp) U.heap ∧ va_K D cl (kTy tc) U ∧ va_D (fun _ => True) (kW tc ad 0 hp) ∧ kRoOk ro ad (va_A (kW tc ad 0 hp) sz) U ∧ kZOk zs ad (va_A (kW tc ad 0 hp) sz) U)
def kQc (D : va_G) (cl : List vw_C) (tc : Nat → ClassId) (ad : Nat → Nat) (hp : kH) (sz : Nat) (r : Option Value) (hp' : kH) : Array Value → State → Outcome → State → Prop := fun _ st oc t =>
  oc = .returned (r.map (kV ad)) ∧ va_P D cl (kW tc ad 0 hp') t.heap ∧ va_D (va_A (kW tc ad 0 hp) sz) (kW tc ad 0 hp') ∧ va_F (va_A (kW tc ad 0 hp) sz) st t
def kMet (l : Launch) (D : va_G) (cl : List vw_C) (tc : Nat → ClassId) (ad : Nat → Nat) (ro : kRo) (tbl : List Jvm.Cond) (zs : kZt) (d : Nat) (M : kMi) (as : List Value) (hp : kH) (r : Option Value) (hp' : kH) : Prop :=
  ∀ sz, Met l M.1 (.code M.1 M.2.1 M.2.2.1 M.2.2.2.1 :: tbl) (kRm d) (kPc D cl tc ad ro zs as hp sz) (kQc D cl tc ad hp sz r hp') 0 0 (va_A (kW tc ad 0 hp) sz)
theorem kPc_blind (as : List Value) (hp : kH) (sz : Nat) : FrameBlind (kPc D cl tc ad ro zs as hp sz) := by
  intro a U g mk q
  obtain ⟨q0, q1, qP, qK, qD, qR, qZ⟩ := q
  exact ⟨q0, q1, qP, va_K.moved (u := U) (U := U.calling g mk a) (Vm.Alike.refl U.vm) qK, qD, fun x y h => (qR x y h).moved (u := U) (U := U.calling g mk a) (Vm.Alike.refl U.vm), fun x h => (qZ.1 x h).moved (u := U) (U := U.calling g mk a) (Vm.Alike.refl U.vm), qZ.2.same (u := U) (U := U.calling g mk a) rfl⟩
theorem kFree (hA : ∀ q : Nat, s.heap.size ≤ q → A q) {hp : kH} (hI : kIv D cl tc ad A s hp H locs) : ∀ q, va_A (kW tc ad 0 hp) H.size q → A q := by
  intro q h
  rcases h with ⟨k, e', h⟩ | h
  · exact hI.2.1.2 k (q, e') h
  · exact hA q (Nat.le_trans hI.2.2.1 h)
theorem kPc_of (hA : ∀ q : Nat, s.heap.size ≤ q → A q) (hK : va_K D cl (kTy tc) s) (hro : kRoOk ro ad A s) (hz : kZOk zs ad A s) {hp : kH} (hI : kIv D cl tc ad A s hp H locs) (as : List Value) {U : State} (hU : U.heap = H) (hW : s.WarmedH U.vm) : kPc D cl tc ad ro zs as hp H.size (as.map (kV ad)).toArray U := by
  have hF := kFree hA hI
  refine ⟨rfl, by rw [hU], by rw [hU]; exact hI.1, va_K.moved hW.alike hK, hI.2.1.weaken (fun _ _ _ _ => trivial), fun q x h => ?_, fun x h => ?_, hz.2.warm hW⟩
  · rw [hU]; exact (((hro q x h).kept (H1 := H) (fun a h1 h2 => hI.2.2.2.1 a h1 h2)).narrow hF).moved hW.alike
  · rw [hU]; exact (((hz.1 x h).kept (H1 := H) (fun a h1 h2 => hI.2.2.2.1 a h1 h2)).narrow hF).moved hW.alike
theorem kCall {rest : List Value} {st0 : List Value} {r : Option Value} {hp hp' : kH} {aa : Array Value} (hA : ∀ q : Nat, s.heap.size ≤ q → A q) (hI : kIv D cl tc ad A s hp H locs)
    (hr : va_Run p l e R s m args below meth c H locs cells slots 0 0 (F0 m pc ls st0) rest (kQc D cl tc ad hp H.size r hp' aa) (va_A (kW tc ad 0 hp) H.size))
    (kk : ∀ (H1 : Heap) (locs1 : List Loc), kIv D cl tc ad A s hp' H1 locs1 → W p l e R s m args below meth c H1 locs1 cells slots Q (F0 m (pc + 3) ls ((r.map (kV ad)).toList ++ rest))) : W p l e R s m args below meth c H locs cells slots Q (F0 m pc ls st0) := by
  have hF := kFree hA hI
  intro T hT X
  obtain ⟨v, st₀, t, T', L, h0, X', hL, e1, e2, ⟨hv, hP, hD, hz, hk⟩, st⟩ := hr T hT X
  cases hv
  rw [h0] at hz hk
  have hS := hI.2.2
  obtain ⟨t2, a1, b1⟩ := kk T'.heap (locs ++ L) ⟨by rw [e1]; exact hP, hD.weaken (fun _ q _ h => hF q.1 h), Nat.le_trans hS.1 (by rw [e1]; exact hz), fun q h1 h2 => by rw [e1, hk q (Nat.lt_of_lt_of_le h1 hS.1) (fun z => h2 (hF q z))]; exact hS.2.1 q h1 h2, fun q hq => by
      rcases List.mem_append.mp hq with h | h
      · exact hS.2.2 q h
      · exact hF _ (hL q h)⟩ T' rfl X'
  exact ⟨t2, st t2 a1, b1⟩
theorem kIf (hx : p.tables.exec = Jvm.exec) {cc : ByteArray} (hb : c.code = cc) {i : Instr} {cd : ClassFile.Cond} {off : Int} {a : Nat} {st : List Value} {w : Bool × List Value} (hi : i = .ifCond cd off ∨ i = .if_icmp cd off) (ha : (pc : Int) + off = (a : Int)) (hd : decode cc pc = .ok (i, 3)) (h : kCd i st = some w)
    (kt : w.1 = true → W p l e R s m args below meth c H locs cells slots Q (F0 m a ls (w.2.map (kV ad)))) (kf : w.1 = false → W p l e R s m args below meth c H locs cells slots Q (F0 m (pc + 3) ls (w.2.map (kV ad)))) : W p l e R s m args below meth c H locs cells slots Q (F0 m pc ls (st.map (kV ad))) := by
  rcases hi with rfl | rfl
  · simp only [kCd] at h
    split at h
    · cases h
      cases cd
      · exact lv_if_eq hx hb hd ha (fun q => kt (decide_eq_true q)) (fun q => kf (decide_eq_false q))
      · exact lv_if_ne hx hb hd ha (fun q => kt (decide_eq_true q)) (fun q => kf (decide_eq_false (fun z => z q)))
      · exact lv_if_lt hx hb hd ha (fun q => kt (decide_eq_true q)) (fun q => kf (decide_eq_false q))
      · exact lv_if_ge hx hb hd ha (fun q => kt (decide_eq_true q)) (fun q => kf (decide_eq_false q))
      · exact lv_if_gt hx hb hd ha (fun q => kt (decide_eq_true q)) (fun q => kf (decide_eq_false q))
      · exact lv_if_le hx hb hd ha (fun q => kt (decide_eq_true q)) (fun q => kf (decide_eq_false q))
    · cases h
  · simp only [kCd] at h
    split at h
    · cases h
      cases cd
      · exact lv_icmp_eq hx hb hd ha (fun q => kt (decide_eq_true q)) (fun q => kf (decide_eq_false q))
      · exact lv_icmp_ne hx hb hd ha (fun q => kt (decide_eq_true q)) (fun q => kf (decide_eq_false (fun z => z q)))
      · exact lv_icmp_lt hx hb hd ha (fun q => kt (decide_eq_true q)) (fun q => kf (decide_eq_false q))
      · exact lv_icmp_ge hx hb hd ha (fun q => kt (decide_eq_true q)) (fun q => kf (decide_eq_false q))
      · exact lv_icmp_gt hx hb hd ha (fun q => kt (decide_eq_true q)) (fun q => kf (decide_eq_false q))
      · exact lv_icmp_le hx hb hd ha (fun q => kt (decide_eq_true q)) (fun q => kf (decide_eq_false q))
    · cases h
set_option maxHeartbeats 4000000 in
theorem kX_ok (hx : p.tables.exec = Jvm.exec) {M : kMi} {mi : Nat → Option kMi} {E : kEo} {J : kJo} {r0 : kR} {d : Nat} (hb : c.code = M.2.1) (hml : c.maxLocals = M.2.2.1) (hown : s.vm.findClass M.1.cls = some m.cls) (hts : ∀ w ∈ Ts, w.before args s = true) (hT : ∀ w ∈ tbl, w ∈ Ts) (hG : ∀ w ∈ tbl, goodWord w = true)
    (hK : va_K D cl (kTy tc) s) (hro : kRoOk ro ad A s) (hz : kZOk zs ad A s) (hA : ∀ q : Nat, s.heap.size ≤ q → A q) (hR : d + 1 ≤ R.frames ∧ 64 * (d + 1) ≤ R.locals ∧ cells ≤ R.cells ∧ slots ≤ R.slots)
    (hMok : ∀ a M', mi a = some M' → kMok tbl cl M')
    (hE : ∀ a M' as hp r, mi a = some M' → E a as hp = some r → kMet l D cl tc ad ro tbl zs d M' as hp r.1 r.2 ∧ (M'.2.2.2.2.2.1 = false → ∃ q As fs, as = .ref q :: As ∧ hp[q]? = some (.inr (M'.2.2.2.2.2.2, fs))))
    (hJ : ∀ t lv st hp (ls : Array Slot) (H : Heap) (locs : List Loc), J t lv st hp = some r0 → lv.length = M.2.2.1 → lv_has ls M.2.2.1 (kLl ad 0 lv) → kIv D cl tc ad A s hp H locs → W p l e R s m args below meth c H locs cells slots Q (F0 m t ls (st.map (kV ad))))
    (hRet : ∀ i a pc st hp (ls : Array Slot) (H : Heap) (locs : List Loc), decode M.2.1 pc = .ok (i, 1) → kRok i a M.2.2.2.1 → kRt i a st hp = some r0 → kIv D cl tc ad A s hp H locs → W p l e R s m args below meth c H locs cells slots Q (F0 m pc ls (st.map (kV ad)))) :
    ∀ (is : List kIt) (pc : Nat) (lv : kL) (st : List Value) (hp : kH) (ls : Array Slot) (H : Heap) (locs : List Loc), kOk tbl cl zs mi M pc is → kX ro E J is lv st hp = some r0 → lv.length = M.2.2.1 → lv_has ls M.2.2.1 (kLl ad 0 lv) → kIv D cl tc ad A s hp H locs → W p l e R s m args below meth c H locs cells slots Q (F0 m pc ls (st.map (kV ad))) := by
  intro is
  induction is with
  | nil => intro pc lv st hp ls H locs _ h; cases h
  | cons it is ih =>
    intro pc lv st hp ls H locs hok h hlen hl hI
    obtain ⟨q, it⟩ := it
    cases it with
    | inl x =>
      obtain ⟨i, a, b, z⟩ := x
      obtain ⟨h1, h2, h3⟩ := hok
      unfold kX at h
      cases hs : kS ro i a b z lv st hp with
      | none => rw [hs] at h; cases h
      | some w =>
        rw [hs] at h
        obtain ⟨lv', st', hp'⟩ := w
        exact kS_ok hx hb hml hown hts hT hK hro hz ⟨by omega, by omega, hR.2.2.1, hR.2.2.2⟩ h2 h1 hs hlen hl hI (fun ls' H' locs' g1 g2 g3 => ih _ _ _ _ _ _ _ h3 h g1 g2 g3)
    | inr x =>
      obtain ⟨i, k, a, b, sw⟩ := x
      obtain ⟨o0, o1, o2, o3, o4⟩ := hok
      unfold kX at h
      by_cases h0 : k = 0
      · rw [if_pos h0] at h
        obtain ⟨⟨cd, off, hi, ha⟩, hd, hrest⟩ := o0 h0
        cases hs : kCd i st with
        | none => rw [hs] at h; cases h
        | some w =>
          rw [hs] at h
          dsimp only at h
          refine kIf hx hb hi ha hd hs (fun hw => ?_) (fun hw => ?_)
          · rw [if_pos hw] at h; exact hJ _ _ _ _ _ _ _ h hlen hl hI
          · rw [if_neg (by rw [hw]; decide)] at h; exact ih _ _ _ _ _ _ _ hrest h hlen hl hI
      · rw [if_neg h0] at h
        by_cases h1 : k = 1
        · rw [if_pos h1] at h
          rcases o1 h1 with rfl | ⟨off, hd, ha⟩
          · exact hJ _ _ _ _ _ _ _ h hlen hl hI
          · exact lv_goto hx hb hd ha (hJ _ _ _ _ _ _ _ h hlen hl hI)
        · rw [if_neg h1] at h
          by_cases h2 : k = 2
          · rw [if_pos h2] at h
            split at h
            · rename_i x r
              rcases o2 h2 with ⟨dflt, lo, hi, offs, len, hd, ha, hhi, htb⟩ | ⟨dflt, ps, len, hd, hsrt, ha, hlk⟩
              · rcases kSw_tb (k := fun t => J t lv r hp) (d := a) (x := x) _ _ _ htb with ⟨g1, g2⟩ | ⟨g1, g2, off, t, g3, g4, g5⟩
                · rw [g2] at h
                  exact lv_tableOut hx hb hd (by omega) ha (hJ _ _ _ _ _ _ _ h hlen hl hI)
                · rw [g5] at h
                  exact lv_tableIn hx hb hd g1 (by omega) (by rw [← Array.getElem?_toList]; exact g3) g4 (hJ _ _ _ _ _ _ _ h hlen hl hI)
              · obtain ⟨t, g1, g2⟩ := kSw_lk (k := fun t => J t lv r hp) (x := x) ha _ _ hlk
                rw [g2] at h
                exact lv_lookup hx hb hd hsrt rfl g1 (hJ _ _ _ _ _ _ _ h hlen hl hI)
            · cases h
          · rw [if_neg h2] at h
            by_cases h3 : k = 3
            · rw [if_pos h3] at h
              exact hRet _ _ _ _ _ _ _ _ (o3 h3).1 (o3 h3).2 h hI
            · rw [if_neg h3] at h
              by_cases h4 : k = 4
              · rw [if_pos h4] at h
                by_cases hln : b ≤ st.length ∧ ((st.drop b).map (fun v => v.category)).sum ≤ 8
                · rw [if_pos hln] at h
                  obtain ⟨⟨M', idx, hm, hcall⟩, hrest⟩ := o4 h4
                  cases hs : E a (st.take b).reverse hp with
                  | none => rw [hs] at h; cases h
                  | some w =>
                    rw [hs] at h
                    obtain ⟨hM, hrec⟩ := hE _ _ _ _ _ hm hs
                    obtain ⟨m1, m2, m3, m4, m5, m6, m7, m8⟩ := hMok _ _ hm
                    have htb : ∀ w ∈ tbl, w.before args s = true := fun w q => hts w (hT w q)
                    have hGI : GoodIn Ts (Jvm.Cond.code M'.1 M'.2.1 M'.2.2.1 M'.2.2.2.1 :: tbl) := by
                      intro w hw
                      rcases List.mem_cons.mp hw with rfl | hw
                      · exact ⟨hT _ m2, good_of_word (hG _ m2)⟩
                      · exact ⟨hT _ hw, good_of_word (hG _ hw)⟩
                    have hroom : (kRm d).frames + 1 ≤ R.frames ∧ 8 + (M'.2.2.1 + 11) + (kRm d).locals ≤ R.locals := ⟨hR.1, by have := hR.2.1; show 8 + (M'.2.2.1 + 11) + 64 * d ≤ R.locals; omega⟩
                    have hsum : (((st.drop b).map (kV ad)).map fun v => v.category).sum ≤ 8 := by
                      rw [List.map_map]
                      have h9 : ((fun v : Value => v.category) ∘ kV ad) = fun v => v.category := by
                        funext v
                        exact kV_cat ad v
                      rw [h9]
                      exact hln.2
                    have hst : st.map (kV ad) = (st.take b).map (kV ad) ++ (st.drop b).map (kV ad) := by rw [← List.map_append, List.take_append_drop]
                    have hgo : ∀ (H1 : Heap) (locs1 : List Loc), kIv D cl tc ad A s w.2 H1 locs1 → W p l e R s m args below meth c H1 locs1 cells slots Q (F0 m (pc + 3) ls ((w.1.map (kV ad)).toList ++ (st.drop b).map (kV ad))) := by
                      intro H1 locs1 hI1
                      have := ih (pc + 3) lv (w.1.toList ++ st.drop b) w.2 ls H1 locs1 hrest h hlen hl hI1
                      rw [List.map_append] at this
                      rw [show (w.1.map (kV ad)).toList = w.1.toList.map (kV ad) by cases w.1 <;> rfl]
                      exact this
                    rcases hcall with ⟨c1, c2, c3, c4⟩ | ⟨c1, c2, c3, c4⟩
                    · have hAs : ((st.take b).reverse.map (kV ad)).length = M'.2.2.2.2.1 := by
                        rw [List.length_map, List.length_reverse, List.length_take]; omega
                      have hpre : PreS s H (kPc D cl tc ad ro zs (st.take b).reverse hp H.size) ((st.take b).reverse.map (kV ad)) := ⟨kPc_blind _ _ _, fun U hU hW => kPc_of hA hK hro hz hI _ hU hW⟩
                      have hstk : st.map (kV ad) = ((st.take b).reverse.map (kV ad)).reverse ++ (st.drop b).map (kV ad) := by
                        rw [← List.map_reverse, List.reverse_reverse]; exact hst
                      rcases c4 with c4 | ⟨host, c4⟩
                      · exact kCall hA hI (va_runS (g := F0 m pc ls (st.map (kV ad))) ⟨hx, hb, hml, hown, hts⟩ (hM H.size) ⟨callB_of M'.2.2.2.2.1 hts hGI rfl rfl rfl (htb _ m3) (htb _ c4) ⟨m4.1, m4.2, m5⟩ hroom, htb _ (m7 c1)⟩ hpre rfl hAs hl.1 hstk (lv_room hsum) c3 ⟨hR.2.2.1, hR.2.2.2⟩) hgo
                      · exact kCall hA hI (va_runSN (g := F0 m pc ls (st.map (kV ad))) ⟨hx, hb, hml, hown, hts⟩ (hM H.size) ⟨va_cnB M'.2.2.2.2.1 hts hGI rfl rfl rfl (hz.2 _ c4).1 (htb _ m3) ⟨m4.1, m4.2, m5⟩ hroom, htb _ (m7 c1), trivial⟩ hpre rfl hAs hl.1 hstk (lv_room hsum) c3 ⟨hR.2.2.1, hR.2.2.2⟩) hgo
                    · obtain ⟨i1, i2, ⟨C', T', N'⟩, i3, i4⟩ := m8 c1
                      obtain ⟨q0, As, fs, e1, e2⟩ := hrec c1
                      have hAs : (As.map (kV ad)).length = M'.2.2.2.2.1 := by
                        have h9 := congrArg List.length e1
                        rw [List.length_reverse, List.length_take, List.length_cons] at h9
                        rw [List.length_map]; omega
                      have hpre : PreV s H M'.1.cls (ad q0) (kPc D cl tc ad ro zs (st.take b).reverse hp H.size) (As.map (kV ad)) := by
                        refine ⟨kPc_blind _ _ _, ?_, fun U hU hW => ?_⟩
                        · have := va_recv hK hI.1 i3 (kW_at e2)
                          rw [← i4]; exact this
                        · have := kPc_of hA hK hro hz hI (st.take b).reverse hU hW
                          rw [e1] at this ⊢
                          exact this
                      have hstk : st.map (kV ad) = (As.map (kV ad)).reverse ++ .ref (ad q0) :: (st.drop b).map (kV ad) := by
                        have h9 : st.take b = As.reverse ++ [.ref q0] := by
                          have := congrArg List.reverse e1
                          rw [List.reverse_reverse, List.reverse_cons] at this
                          exact this
                        rw [hst, h9, List.map_append, List.map_reverse, List.append_assoc]; rfl
                      exact kCall hA hI (va_runV (g := F0 m pc ls (st.map (kV ad))) ⟨hx, hb, hml, hown, hts⟩ (hM H.size) ⟨callB_of M'.2.2.2.2.1 hts hGI rfl rfl rfl (htb _ m3) (htb _ c4) ⟨m4.1, m4.2, m5⟩ hroom, htb _ i1, htb _ i2⟩ hpre rfl hAs hl.1 hstk (lv_room hsum) c3 ⟨hR.2.2.1, hR.2.2.2⟩) hgo
                · rw [if_neg hln] at h; cases h
              · rw [if_neg h4] at h; cases h
end KSnd
