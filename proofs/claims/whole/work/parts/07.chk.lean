/-! A CHECK of blocks by program: what it lets through is so (kOk) -/
/-- the tables of links of one file's own numbers: fields (idx, sort, place), fields that may be put (sort, place, kind), statics (idx, place), ints (idx, value), longs, calls (idx, method, how many, static), library calls (idx, which) -/
abbrev kTab : Type := List (Nat × Nat × Nat) × List (Nat × Nat) × List (Nat × Int) × List (Nat × Int) × List (Nat × Nat × Nat × Bool) × List (Nat × Nat)
def kWdB (tb : kTab) (pl : List (Nat × Nat × Int)) (i : Instr) (a b : Nat) (z : Int) : Bool := match i with
  | .bipush n => decide ((Int8.ofInt n).toInt32 = Int32.ofInt n)
  | .sipush n => decide ((Int16.ofInt n).toInt32 = Int32.ofInt n)
  | .ldc idx => decide ((idx, z) ∈ tb.2.2.1)
  | .ldc_w idx => decide ((idx, z) ∈ tb.2.2.1)
  | .ldc2_w idx => decide ((idx, z) ∈ tb.2.2.2.1)
  | .getfield idx => decide ((idx, a, b) ∈ tb.1)
  | .putfield idx => decide ((idx, a, b) ∈ tb.1) && decide ((a, b, z) ∈ pl)
  | .getstatic idx => decide ((idx, a) ∈ tb.2.1)
  | .baload => a == 2 || a == 3
  | .bastore => a == 2 || a == 3
  | .invokestatic idx => decide ((idx, a) ∈ tb.2.2.2.2.2)
  | _ => true
def kBrB (pc : Nat) (i : Instr) (a : Nat) : Bool := match i with
  | .ifCond _ off => decide ((pc : Int) + off = (a : Int))
  | .if_icmp _ off => decide ((pc : Int) + off = (a : Int))
  | _ => false
def kTbB (pc : Nat) : Int → List Int → List (Int32 × Nat) → Bool
  | _, [], [] => true
  | lo, o :: os, q :: r => decide (q.1.toInt = lo) && decide ((pc : Int) + o = (q.2 : Int)) && kTbB pc (lo + 1) os r
  | _, _, _ => false
def kLkB (pc : Nat) : List (Int × Int) → List (Int32 × Nat) → Bool
  | [], [] => true
  | o :: os, q :: r => decide (q.1.toInt = o.1) && decide ((pc : Int) + o.2 = (q.2 : Int)) && kLkB pc os r
  | _, _ => false
def kRokB (i : Instr) (a : Nat) (ret : Option FieldType) : Bool := match i with
  | .ireturn => (a == 0 && decide (ret = some .int)) || (a == 1 && decide (ret = some .boolean))
  | .lreturn => decide (ret = some .long)
  | .return_ => decide (ret = none)
  | _ => false
def kGoB (cc : ByteArray) (pc a : Nat) : Bool := a == pc || (match decode cc pc with
  | .ok (.goto off, n) => n == 3 && decide ((pc : Int) + off = (a : Int))
  | _ => false)
def kSwB (cc : ByteArray) (pc a : Nat) (sw : List (Int32 × Nat)) : Bool := match decode cc pc with
  | .ok (.tableswitch dflt lo hi offs, _) => decide ((pc : Int) + dflt = (a : Int)) && decide (hi + 1 = lo + offs.toList.length) && kTbB pc lo offs.toList sw
  | .ok (.lookupswitch dflt ps, _) => (ps.toList.zip (ps.toList.drop 1)).all (fun (a, next) => a.1 < next.1) && decide ((pc : Int) + dflt = (a : Int)) && kLkB pc ps.toList sw
  | _ => false
def kCaB (tb : kTab) (cc : ByteArray) (pc a b : Nat) : Bool := match decode cc pc with
  | .ok (.invokestatic idx, n) => n == 3 && decide ((idx, a, b, true) ∈ tb.2.2.2.2.1)
  | .ok (.invokevirtual idx, n) => n == 3 && decide ((idx, a, b, false) ∈ tb.2.2.2.2.1)
  | _ => false
def kOkB (tb : kTab) (pl : List (Nat × Nat × Int)) (cc : ByteArray) (ret : Option FieldType) : Nat → List kIt → Bool
  | _, [] => true
  | pc, (_, .inl (i, a, b, z)) :: is => decide (decode cc pc = .ok (i, kLn i)) && (kWdB tb pl i a b z && kOkB tb pl cc ret (pc + kLn i) is)
  | pc, (_, .inr (i, k, a, b, sw)) :: is =>
    if k = 0 then decide (decode cc pc = .ok (i, 3)) && (kBrB pc i a && kOkB tb pl cc ret (pc + 3) is)
    else if k = 1 then kGoB cc pc a
    else if k = 2 then kSwB cc pc a sw
    else if k = 3 then decide (decode cc pc = .ok (i, 1)) && kRokB i a ret
    else if k = 4 then kCaB tb cc pc a b && kOkB tb pl cc ret (pc + 3) is
    else true
/-- what the tables of links stand for -/
def kTabOk (tbl : List Jvm.Cond) (cl : List vw_C) (zs : kZt) (mi : Nat → Option kMi) (own : String) (tb : kTab) : Prop :=
  (∀ x ∈ tb.1, ∃ q : vw_C, cl[x.2.1]? = some q ∧ x.2.2 < q.2.2 ∧ (q.2.1 x.2.2).1 = q.1 ∧ Jvm.Cond.fieldLink own x.1 q.1 (q.2.1 x.2.2).2.1 (q.2.1 x.2.2).2.2.1 ∈ tbl)
  ∧ (∀ x ∈ tb.2.1, ∃ C n host : String, (C, n, x.2) ∈ zs.1 ∧ (Jvm.Cond.fieldLink own x.1 C n "[I" ∈ tbl ∨ Jvm.Cond.fieldLinkNest own x.1 C n "[I" host ∈ zs.2))
  ∧ (∀ x ∈ tb.2.2.1, Jvm.Cond.constant own x.1 (Int32.ofInt x.2) ∈ tbl)
  ∧ (∀ x ∈ tb.2.2.2.1, Jvm.Cond.constantLong own x.1 (Int64.ofInt x.2) ∈ tbl)
  ∧ (∀ x ∈ tb.2.2.2.2.1, ∃ M' : kMi, mi x.2.1 = some M' ∧ M'.2.2.2.2.2.1 = x.2.2.2 ∧ x.2.2.1 = (if x.2.2.2 = true then M'.2.2.2.2.1 else M'.2.2.2.2.1 + 1) ∧ (Jvm.Cond.methodLink own x.1 M'.1 ∈ tbl ∨ (x.2.2.2 = true ∧ ∃ host, Jvm.Cond.methodLinkNest own x.1 M'.1 host ∈ zs.2)))
  ∧ (∀ x ∈ tb.2.2.2.2.2, ((x.2 = 1 → Jvm.Cond.methodLink own x.1 Lib.Math.max.name ∈ tbl ∧ Jvm.Cond.static Lib.Math.max.name ∈ tbl ∧ Jvm.Cond.initialized "java/lang/Math" ∈ tbl ∧ Jvm.Cond.code Lib.Math.max.name Lib.Math.max.code 2 (some .int) ∈ tbl)
      ∧ (x.2 = 2 → Jvm.Cond.methodLink own x.1 Lib.Math.min.name ∈ tbl ∧ Jvm.Cond.static Lib.Math.min.name ∈ tbl ∧ Jvm.Cond.initialized "java/lang/Math" ∈ tbl ∧ Jvm.Cond.code Lib.Math.min.name Lib.Math.min.code 2 (some .int) ∈ tbl)
      ∧ (x.2 = 3 ∨ x.2 = 4 → Jvm.Cond.methodLink own x.1 arraycopyName ∈ tbl ∧ Jvm.Cond.native arraycopyName ∈ tbl ∧ Jvm.Cond.static arraycopyName ∈ tbl ∧ Jvm.Cond.initialized "java/lang/System" ∈ tbl)))
def kPlOk (cl : List vw_C) (pl : List (Nat × Nat × Int)) : Prop := ∀ x ∈ pl, ∃ (q : vw_C) (ty0 : Nat → FieldType), cl[x.1]? = some q ∧ (q.2.1 x.2.1).2.2.2 = false ∧ (∀ k, k < q.2.2 → parseFieldDescriptor (q.2.1 k).2.2.1 = some (ty0 k)) ∧ (∀ a, a < q.2.2 → ∀ b, b < q.2.2 → a ≠ b → (q.2.1 a).2.1 ≠ (q.2.1 b).2.1) ∧ ((x.2.2 = 0 ∧ ty0 x.2.1 = .int) ∨ (x.2.2 = 1 ∧ ty0 x.2.1 = .boolean) ∨ (x.2.2 = 2 ∧ ty0 x.2.1 = .array .int))
def kClOk (tbl : List Jvm.Cond) (cl : List vw_C) : Prop := ∀ (a : Nat) (q : vw_C), cl[a]? = some q → ∀ w ∈ u_ws q.1 q.2.1 q.2.2, w ∈ tbl
section KChk
variable {tbl : List Jvm.Cond} {cl : List vw_C} {zs : kZt} {mi : Nat → Option kMi} {own : String} {tb : kTab} {pl : List (Nat × Nat × Int)}
theorem kWdB_ok (hT : kTabOk tbl cl zs mi own tb) (hP : kPlOk cl pl) (hC : kClOk tbl cl) {i : Instr} {a b : Nat} {z : Int} (h : kWdB tb pl i a b z = true) : kWd tbl cl own zs i a b z := by
  obtain ⟨t1, t2, t3, t4, t5, t6⟩ := hT
  cases i
  case bipush n =>
    have h' : decide ((Int8.ofInt n).toInt32 = Int32.ofInt n) = true := h
    have h2 := of_decide_eq_true h'
    exact h2
  case sipush n =>
    have h' : decide ((Int16.ofInt n).toInt32 = Int32.ofInt n) = true := h
    have h2 := of_decide_eq_true h'
    exact h2
  case ldc n => exact t3 _ (of_decide_eq_true h)
  case ldc_w n => exact t3 _ (of_decide_eq_true h)
  case ldc2_w n => exact t4 _ (of_decide_eq_true h)
  case getfield n =>
    obtain ⟨q, h1, h2, h3, h4⟩ := t1 _ (of_decide_eq_true h)
    exact ⟨q, h1, h2, h3, h4, hC _ _ h1⟩
  case putfield n =>
    have h := Bool.and_eq_true_iff.mp h
    obtain ⟨q, h1, h2, h3, h4⟩ := t1 _ (of_decide_eq_true h.1)
    obtain ⟨q', ty0, g1, g2, g3, g4, g5⟩ := hP _ (of_decide_eq_true h.2)
    cases h1.symm.trans g1
    exact ⟨q, ty0, h1, h2, h3, h4, hC _ _ h1, g2, g3, g4, g5⟩
  case getstatic n => exact t2 _ (of_decide_eq_true h)
  case baload =>
    simp only [kWdB, Bool.or_eq_true, beq_iff_eq] at h
    exact h
  case bastore =>
    simp only [kWdB, Bool.or_eq_true, beq_iff_eq] at h
    exact h
  case invokestatic n => exact t6 _ (of_decide_eq_true h)
  all_goals trivial
theorem kTbB_ok {pc : Nat} : ∀ (lo : Int) (os : List Int) (sw : List (Int32 × Nat)), kTbB pc lo os sw = true → kTb pc lo os sw
  | _, [], [], _ => trivial
  | lo, o :: os, q :: r, h => by
    simp only [kTbB, Bool.and_eq_true, decide_eq_true_eq] at h
    exact ⟨h.1.1, h.1.2, kTbB_ok _ _ _ h.2⟩
  | _, [], _ :: _, h => by cases h
  | _, _ :: _, [], h => by cases h
theorem kLkB_ok {pc : Nat} : ∀ (os : List (Int × Int)) (sw : List (Int32 × Nat)), kLkB pc os sw = true → kLk pc os sw
  | [], [], _ => trivial
  | o :: os, q :: r, h => by
    simp only [kLkB, Bool.and_eq_true, decide_eq_true_eq] at h
    exact ⟨h.1.1, h.1.2, kLkB_ok _ _ h.2⟩
  | [], _ :: _, h => by cases h
  | _ :: _, [], h => by cases h
theorem kRokB_ok {i : Instr} {a : Nat} {ret : Option FieldType} (h : kRokB i a ret = true) : kRok i a ret := by
  cases i
  case ireturn =>
    simp only [kRokB, Bool.or_eq_true, Bool.and_eq_true, beq_iff_eq, decide_eq_true_eq] at h
    exact h
  case lreturn =>
    have h' : decide (ret = some .long) = true := h
    have h2 := of_decide_eq_true h'
    exact h2
  case return_ =>
    have h' : decide (ret = none) = true := h
    have h2 := of_decide_eq_true h'
    exact h2
  all_goals cases h
theorem kOkB_ok {M : kMi} (hown : M.1.cls = own) (hT : kTabOk tbl cl zs mi own tb) (hP : kPlOk cl pl) (hC : kClOk tbl cl) : ∀ (is : List kIt) (pc : Nat), kOkB tb pl M.2.1 M.2.2.2.1 pc is = true → kOk tbl cl zs mi M pc is
  | [], pc, _ => trivial
  | (_, .inl (i, a, b, z)) :: is, pc, h => by
    simp only [kOkB, Bool.and_eq_true, decide_eq_true_eq] at h
    exact ⟨h.1, by rw [hown]; exact kWdB_ok hT hP hC h.2.1, kOkB_ok hown hT hP hC is _ h.2.2⟩
  | (_, .inr (i, k, a, b, sw)) :: is, pc, h => by
    unfold kOkB at h
    refine ⟨fun h0 => ?_, fun h1 => ?_, fun h2 => ?_, fun h3 => ?_, fun h4 => ?_⟩
    · rw [if_pos h0] at h
      simp only [Bool.and_eq_true, decide_eq_true_eq] at h
      refine ⟨?_, h.1, kOkB_ok hown hT hP hC is _ h.2.2⟩
      have hb := h.2.1
      cases i
      case ifCond cd off => exact ⟨cd, off, Or.inl rfl, of_decide_eq_true hb⟩
      case if_icmp cd off => exact ⟨cd, off, Or.inr rfl, of_decide_eq_true hb⟩
      all_goals cases hb
    · subst h1
      rw [if_neg (by decide), if_pos rfl] at h
      unfold kGoB at h
      rw [Bool.or_eq_true] at h
      rcases h with h | h
      · exact Or.inl (by simpa using h)
      · split at h
        · rename_i off n hd
          simp only [Bool.and_eq_true, beq_iff_eq, decide_eq_true_eq] at h
          obtain ⟨rfl, h⟩ := h
          exact Or.inr ⟨off, hd, h⟩
        · cases h
    · subst h2
      rw [if_neg (by decide), if_neg (by decide), if_pos rfl] at h
      unfold kSwB at h
      split at h
      · rename_i dflt lo hi offs len hd
        simp only [Bool.and_eq_true, decide_eq_true_eq] at h
        exact Or.inl ⟨dflt, lo, hi, offs, len, hd, h.1.1, h.1.2, kTbB_ok _ _ _ h.2⟩
      · rename_i dflt ps len hd
        rw [Bool.and_eq_true, Bool.and_eq_true] at h
        exact Or.inr ⟨dflt, ps, len, hd, h.1.1, of_decide_eq_true h.1.2, kLkB_ok _ _ h.2⟩
      · cases h
    · subst h3
      rw [if_neg (by decide), if_neg (by decide), if_neg (by decide), if_pos rfl] at h
      simp only [Bool.and_eq_true, decide_eq_true_eq] at h
      exact ⟨h.1, kRokB_ok h.2⟩
    · subst h4
      rw [if_neg (by decide), if_neg (by decide), if_neg (by decide), if_neg (by decide), if_pos rfl] at h
      rw [Bool.and_eq_true] at h
      refine ⟨?_, kOkB_ok hown hT hP hC is _ h.2⟩
      have hc := h.1
      unfold kCaB at hc
      split at hc
      · rename_i idx n hd
        simp only [Bool.and_eq_true, beq_iff_eq, decide_eq_true_eq] at hc
        obtain ⟨rfl, hc⟩ := hc
        obtain ⟨M', g1, g2, g3, g4⟩ := hT.2.2.2.2.1 _ hc
        refine ⟨M', idx, g1, Or.inl ⟨g2, g3, hd, ?_⟩⟩
        rw [hown]
        rcases g4 with g4 | ⟨-, g4⟩
        · exact Or.inl g4
        · exact Or.inr g4
      · rename_i idx n hd
        simp only [Bool.and_eq_true, beq_iff_eq, decide_eq_true_eq] at hc
        obtain ⟨rfl, hc⟩ := hc
        obtain ⟨M', g1, g2, g3, g4⟩ := hT.2.2.2.2.1 _ hc
        refine ⟨M', idx, g1, Or.inr ⟨g2, g3, hd, ?_⟩⟩
        rw [hown]
        rcases g4 with g4 | ⟨g5, -⟩
        · exact g4
        · cases g5
      · cases hc
end KChk
def kLook (t : Nat) : List (Nat × List kIt) → List kIt
  | [] => []
  | q :: r => if q.1 = t then q.2 else kLook t r
theorem kLook_all {f : Nat → List kIt → Bool} (h0 : ∀ t, f t [] = true) {t : Nat} : ∀ (bs : List (Nat × List kIt)), bs.all (fun q => f q.1 q.2) = true → f t (kLook t bs) = true
  | [], _ => h0 t
  | q :: r, h => by
    rw [List.all_cons, Bool.and_eq_true] at h
    unfold kLook
    split
    · rename_i hq; rw [← hq]; exact h.1
    · exact kLook_all h0 r h.2
