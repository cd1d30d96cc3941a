/-! THE ENGINE: a plain machine over lists (cells are known by their places), run by equations; its soundness over W is the next part.
    An item: (pc, a simple instruction and three numbers) or (pc, an instruction that goes elsewhere, its kind, two numbers, a list). -/
abbrev kE : Type := (Nat × vp_A) ⊕ (Nat × List Value)
abbrev kH : Type := List kE
abbrev kL : Type := List (Option Value)
abbrev kR : Type := Option Value × kH
abbrev kIt : Type := Nat × ((Instr × Nat × Nat × Int) ⊕ (Instr × Nat × Nat × Nat × List (Int32 × Nat)))
abbrev kRo : Type := Nat → Option (Nat × (Nat → Int32))
def kLd (lv : kL) (i : Nat) : Option Value := match lv[i]? with
  | some (some v) => some v
  | _ => none
def kClr (lv : kL) (i : Nat) : kL := match i with
  | 0 => lv
  | j + 1 => match lv[j]? with
    | some (some (.long _)) => lv.set j none
    | some (some (.double _)) => lv.set j none
    | _ => lv
def kSt1 (lv : kL) (i : Nat) (v : Value) : kL := (kClr lv i).set i (some v)
def kSt2 (lv : kL) (i : Nat) (v : Value) : kL := ((kClr lv i).set i (some v)).set (i + 1) none
def kArr (hp : kH) (q t : Nat) : Option (Nat × (Nat → Int32)) := match hp[q]? with
  | some (.inl x) => if x.1 = t then (match x.2.2 with
    | .inl f => some (x.2.1, f)
    | _ => none) else none
  | _ => none
def kArrL (hp : kH) (q : Nat) : Option (Nat × (Nat → Int64)) := match hp[q]? with
  | some (.inl x) => if x.1 = 1 then (match x.2.2 with
    | .inr (.inl f) => some (x.2.1, f)
    | _ => none) else none
  | _ => none
def kObj (hp : kH) (q a : Nat) : Option (List Value) := match hp[q]? with
  | some (.inr o) => if o.1 = a then some o.2 else none
  | _ => none
def kRd (ro : kRo) (hp : kH) (q : Nat) : Option (Nat × (Nat → Int32)) := match ro q with
  | some x => some x
  | none => kArr hp q 0
def kLen (ro : kRo) (hp : kH) (q : Nat) : Option Nat := match ro q with
  | some x => some x.1
  | none => match hp[q]? with
    | some (.inl x) => if x.1 < 5 then some x.2.1 else none
    | _ => none
def kFit (z : Int) (v : Value) : Bool := match v with
  | .int x => z == 0 || (z == 1 && (x == 0 || x == 1))
  | .ref _ => z == 2
  | _ => false
def kBy (a : Nat) : FieldType := if a = 2 then .byte else .boolean
def kI1 (st : List Value) (f : Int32 → Value) : Option (List Value) := match st with
  | .int x :: r => some (f x :: r)
  | _ => none
def kI2 (st : List Value) (f : Int32 → Int32 → Value) : Option (List Value) := match st with
  | .int y :: .int x :: r => some (f x y :: r)
  | _ => none
def kJ2 (st : List Value) (f : Int64 → Int64 → Value) : Option (List Value) := match st with
  | .long y :: .long x :: r => some (f x y :: r)
  | _ => none
def kSi (lv : kL) (hp : kH) (o : Option (List Value)) : Option (kL × List Value × kH) := match o with
  | some s => some (lv, s, hp)
  | none => none
def kPi (lv : kL) (st : List Value) (hp : kH) (i : Nat) : Option (kL × List Value × kH) := match kLd lv i with
  | some (.int x) => some (lv, .int x :: st, hp)
  | _ => none
def kPl (lv : kL) (st : List Value) (hp : kH) (i : Nat) : Option (kL × List Value × kH) := match kLd lv i with
  | some (.long x) => some (lv, .long x :: st, hp)
  | _ => none
def kPa (lv : kL) (st : List Value) (hp : kH) (i : Nat) : Option (kL × List Value × kH) := match kLd lv i with
  | some (.ref x) => some (lv, .ref x :: st, hp)
  | _ => none
def kTi (lv : kL) (st : List Value) (hp : kH) (i : Nat) : Option (kL × List Value × kH) := match st with
  | .int x :: r => if i < lv.length then some (kSt1 lv i (.int x), r, hp) else none
  | _ => none
def kTa (lv : kL) (st : List Value) (hp : kH) (i : Nat) : Option (kL × List Value × kH) := match st with
  | .ref x :: r => if i < lv.length then some (kSt1 lv i (.ref x), r, hp) else none
  | _ => none
def kTl (lv : kL) (st : List Value) (hp : kH) (i : Nat) : Option (kL × List Value × kH) := match st with
  | .long x :: r => if i + 1 < lv.length then some (kSt2 lv i (.long x), r, hp) else none
  | _ => none
def kInc (lv : kL) (st : List Value) (hp : kH) (i : Nat) (n : Int) : Option (kL × List Value × kH) := match kLd lv i with
  | some (.int x) => some (kSt1 lv i (.int (x + Int32.ofInt n)), st, hp)
  | _ => none
def kDiv (lv : kL) (st : List Value) (hp : kH) (f : Int32 → Int32 → Int32) : Option (kL × List Value × kH) := match st with
  | .int y :: .int x :: r => if y = 0 then none else some (lv, .int (f x y) :: r, hp)
  | _ => none
def kDup (lv : kL) (st : List Value) (hp : kH) : Option (kL × List Value × kH) := match st with
  | v :: r => if v.category = 1 then some (lv, v :: v :: r, hp) else none
  | _ => none
def kPop (lv : kL) (st : List Value) (hp : kH) : Option (kL × List Value × kH) := match st with
  | v :: r => if v.category = 1 then some (lv, r, hp) else none
  | _ => none
def kDup2 (lv : kL) (st : List Value) (hp : kH) : Option (kL × List Value × kH) := match st with
  | v :: w :: r => if v.category = 1 ∧ w.category = 1 then some (lv, v :: w :: v :: w :: r, hp) else none
  | _ => none
def kGet (lv : kL) (st : List Value) (hp : kH) (a b : Nat) : Option (kL × List Value × kH) := match st with
  | .ref q :: r => match kObj hp q a with
    | some fs => match fs[b]? with
      | some v => some (lv, v :: r, hp)
      | none => none
    | none => none
  | _ => none
def kPut (lv : kL) (st : List Value) (hp : kH) (a b : Nat) (z : Int) : Option (kL × List Value × kH) := match st with
  | v :: .ref q :: r => match kObj hp q a with
    | some fs => if b < fs.length ∧ kFit z v = true then some (lv, r, hp.set q (.inr (a, fs.set b v))) else none
    | none => none
  | _ => none
def kAl (lv : kL) (st : List Value) (hp : kH) (ro : kRo) : Option (kL × List Value × kH) := match st with
  | .ref q :: r => match kLen ro hp q with
    | some n => some (lv, .int (Int32.ofNat n) :: r, hp)
    | none => none
  | _ => none
def kAi (lv : kL) (st : List Value) (hp : kH) (ro : kRo) : Option (kL × List Value × kH) := match st with
  | .int j :: .ref q :: r => match kRd ro hp q with
    | some x => if j < 0 ∨ x.1 ≤ j.toNatClampNeg then none else some (lv, .int (x.2 j.toNatClampNeg) :: r, hp)
    | none => none
  | _ => none
def kAt (lv : kL) (st : List Value) (hp : kH) (t : Nat) : Option (kL × List Value × kH) := match st with
  | .int j :: .ref q :: r => match kArr hp q t with
    | some x => if j < 0 ∨ x.1 ≤ j.toNatClampNeg then none else some (lv, .int (x.2 j.toNatClampNeg) :: r, hp)
    | none => none
  | _ => none
def kAj (lv : kL) (st : List Value) (hp : kH) : Option (kL × List Value × kH) := match st with
  | .int j :: .ref q :: r => match kArrL hp q with
    | some x => if j < 0 ∨ x.1 ≤ j.toNatClampNeg then none else some (lv, .long (x.2 j.toNatClampNeg) :: r, hp)
    | none => none
  | _ => none
def kBt (lv : kL) (st : List Value) (hp : kH) (t : Nat) (g : Int32 → Int32) : Option (kL × List Value × kH) := match st with
  | .int v :: .int j :: .ref q :: r => match kArr hp q t with
    | some x => if j < 0 ∨ x.1 ≤ j.toNatClampNeg then none else some (lv, r, hp.set q (.inl (t, x.1, .inl (upd x.2 j.toNatClampNeg (g v)))))
    | none => none
  | _ => none
def kBj (lv : kL) (st : List Value) (hp : kH) : Option (kL × List Value × kH) := match st with
  | .long v :: .int j :: .ref q :: r => match kArrL hp q with
    | some x => if j < 0 ∨ x.1 ≤ j.toNatClampNeg then none else some (lv, r, hp.set q (.inl (1, x.1, .inr (.inl (vp_updL x.2 j.toNatClampNeg v)))))
    | none => none
  | _ => none
def kMx (lv : kL) (st : List Value) (hp : kH) (f : Int32 → Int32 → Int32) : Option (kL × List Value × kH) := match st with
  | .int y :: .int x :: r => if r.length ≤ 4 then some (lv, .int (f x y) :: r, hp) else none
  | _ => none
def kCpI (lv : kL) (st : List Value) (hp : kH) : Option (kL × List Value × kH) := match st with
  | .int n :: .int dp :: .ref q1 :: .int sp :: .ref q0 :: r => match kArr hp q0 0, kArr hp q1 0 with
    | some x, some y => if r.length ≤ 4 ∧ ¬ sp < 0 ∧ ¬ dp < 0 ∧ ¬ n < 0 ∧ sp.toNatClampNeg + n.toNatClampNeg ≤ x.1 ∧ dp.toNatClampNeg + n.toNatClampNeg ≤ y.1 then some (lv, r, hp.set q1 (.inl (0, y.1, .inl (va_cpy x.2 y.2 sp.toNatClampNeg dp.toNatClampNeg n.toNatClampNeg)))) else none
    | _, _ => none
  | _ => none
def kCpL (lv : kL) (st : List Value) (hp : kH) : Option (kL × List Value × kH) := match st with
  | .int n :: .int dp :: .ref q1 :: .int sp :: .ref q0 :: r => match kArrL hp q0, kArrL hp q1 with
    | some x, some y => if r.length ≤ 4 ∧ ¬ sp < 0 ∧ ¬ dp < 0 ∧ ¬ n < 0 ∧ sp.toNatClampNeg + n.toNatClampNeg ≤ x.1 ∧ dp.toNatClampNeg + n.toNatClampNeg ≤ y.1 then some (lv, r, hp.set q1 (.inl (1, y.1, .inr (.inl (va_cpy x.2 y.2 sp.toNatClampNeg dp.toNatClampNeg n.toNatClampNeg))))) else none
    | _, _ => none
  | _ => none
def kNat (lv : kL) (st : List Value) (hp : kH) (a : Nat) : Option (kL × List Value × kH) :=
  if a = 1 then kMx lv st hp (fun x y => if x < y then y else x)
  else if a = 2 then kMx lv st hp (fun x y => if y < x then y else x)
  else if a = 3 then kCpI lv st hp
  else if a = 4 then kCpL lv st hp
  else none
def kS (ro : kRo) (i : Instr) (a b : Nat) (z : Int) (lv : kL) (st : List Value) (hp : kH) : Option (kL × List Value × kH) :=
  match i with
  | .iconst n => some (lv, .int (Int32.ofInt n) :: st, hp)
  | .bipush n => some (lv, .int (Int32.ofInt n) :: st, hp)
  | .sipush n => some (lv, .int (Int32.ofInt n) :: st, hp)
  | .lconst n => some (lv, .long (Int64.ofNat (n : Nat)) :: st, hp)
  | .ldc _ => some (lv, .int (Int32.ofInt z) :: st, hp)
  | .ldc_w _ => some (lv, .int (Int32.ofInt z) :: st, hp)
  | .ldc2_w _ => some (lv, .long (Int64.ofInt z) :: st, hp)
  | .iload_n k => kPi lv st hp k
  | .iload k => kPi lv st hp k
  | .lload_n k => kPl lv st hp k
  | .lload k => kPl lv st hp k
  | .aload_n k => kPa lv st hp k
  | .aload k => kPa lv st hp k
  | .istore_n k => kTi lv st hp k
  | .istore k => kTi lv st hp k
  | .astore_n k => kTa lv st hp k
  | .lstore k => kTl lv st hp k
  | .iinc k n => kInc lv st hp k n
  | .iadd => kSi lv hp (kI2 st (fun x y => .int (x + y)))
  | .isub => kSi lv hp (kI2 st (fun x y => .int (x - y)))
  | .imul => kSi lv hp (kI2 st (fun x y => .int (x * y)))
  | .iand => kSi lv hp (kI2 st (fun x y => .int (x &&& y)))
  | .ior => kSi lv hp (kI2 st (fun x y => .int (x ||| y)))
  | .ixor => kSi lv hp (kI2 st (fun x y => .int (x ^^^ y)))
  | .ishl => kSi lv hp (kI2 st (fun x y => .int (x <<< (y &&& 31))))
  | .iushr => kSi lv hp (kI2 st (fun x y => .int ((x.toUInt32 >>> (y.toUInt32 &&& Int32.toUInt32 31)).toInt32)))
  | .idiv => kDiv lv st hp (fun x y => x / y)
  | .irem => kDiv lv st hp (fun x y => x - x / y * y)
  | .ineg => kSi lv hp (kI1 st (fun x => .int (-x)))
  | .i2l => kSi lv hp (kI1 st (fun x => .long x.toInt64))
  | .i2b => kSi lv hp (kI1 st (fun x => .int x.toInt8.toInt32))
  | .i2s => kSi lv hp (kI1 st (fun x => .int x.toInt16.toInt32))
  | .l2i => (match st with
    | .long x :: r => some (lv, .int x.toInt32 :: r, hp)
    | _ => none)
  | .ladd => kSi lv hp (kJ2 st (fun x y => .long (x + y)))
  | .land => kSi lv hp (kJ2 st (fun x y => .long (x &&& y)))
  | .lor => kSi lv hp (kJ2 st (fun x y => .long (x ||| y)))
  | .lcmp => kSi lv hp (kJ2 st (fun x y => .int (lg_cmp x y)))
  | .lshl => (match st with
    | .int y :: .long x :: r => some (lv, .long (x <<< (y.toInt64 &&& 63)) :: r, hp)
    | _ => none)
  | .dup => kDup lv st hp
  | .pop => kPop lv st hp
  | .dup2 => kDup2 lv st hp
  | .getfield _ => kGet lv st hp a b
  | .putfield _ => kPut lv st hp a b z
  | .getstatic _ => some (lv, .ref a :: st, hp)
  | .arraylength => kAl lv st hp ro
  | .iaload => kAi lv st hp ro
  | .baload => kAt lv st hp a
  | .saload => kAt lv st hp 4
  | .laload => kAj lv st hp
  | .iastore => kBt lv st hp 0 (fun x => x)
  | .bastore => kBt lv st hp a (fun x => vp_nar (kBy a) x)
  | .sastore => kBt lv st hp 4 (fun x => vp_nar .short x)
  | .lastore => kBj lv st hp
  | .invokestatic _ => kNat lv st hp a
  | _ => none
def kCm (c : ClassFile.Cond) (x y : Int32) : Bool := match c with
  | .eq => decide (x = y)
  | .ne => decide (¬ x = y)
  | .lt => decide (x < y)
  | .ge => decide (y ≤ x)
  | .gt => decide (y < x)
  | .le => decide (x ≤ y)
def kCd (i : Instr) (st : List Value) : Option (Bool × List Value) := match i with
  | .ifCond c _ => (match st with
    | .int x :: r => some (kCm c x 0, r)
    | _ => none)
  | .if_icmp c _ => (match st with
    | .int y :: .int x :: r => some (kCm c x y, r)
    | _ => none)
  | _ => none
def kSw {α : Type} (k : Nat → α) (x : Int32) (d : Nat) : List (Int32 × Nat) → α
  | [] => k d
  | q :: r => if x = q.1 then k q.2 else kSw k x d r
def kRt (i : Instr) (a : Nat) (st : List Value) (hp : kH) : Option kR := match i with
  | .ireturn => (match st with
    | [.int x] => if a = 0 then some (some (.int x), hp) else if x = 0 ∨ x = 1 then some (some (.int x), hp) else none
    | _ => none)
  | .lreturn => (match st with
    | [.long x] => some (some (.long x), hp)
    | _ => none)
  | .return_ => (match st with
    | [] => some (none, hp)
    | _ => none)
  | _ => none
abbrev kEo : Type := Nat → List Value → kH → Option kR
abbrev kJo : Type := Nat → kL → List Value → kH → Option kR
def kX (ro : kRo) (E : kEo) (J : kJo) : List kIt → kL → List Value → kH → Option kR
  | [], _, _, _ => none
  | (_, .inl (i, a, b, z)) :: is, lv, st, hp => match kS ro i a b z lv st hp with
    | some w => kX ro E J is w.1 w.2.1 w.2.2
    | none => none
  | (_, .inr (i, k, a, b, sw)) :: is, lv, st, hp =>
    if k = 0 then (match kCd i st with
      | some w => if w.1 = true then J a lv w.2 hp else kX ro E J is lv w.2 hp
      | none => none)
    else if k = 1 then J a lv st hp
    else if k = 2 then (match st with
      | .int x :: r => kSw (fun t => J t lv r hp) x a sw
      | _ => none)
    else if k = 3 then kRt i a st hp
    else if k = 4 then (if b ≤ st.length ∧ ((st.drop b).map (fun v => v.category)).sum ≤ 8 then (match E a (st.take b).reverse hp with
      | some w => kX ro E J is lv (w.1.toList ++ st.drop b) w.2
      | none => none) else none)
    else none
/-- so many jumps of one method, its calls answered by E -/
def kG (ro : kRo) (blk : Nat → Nat → List kIt) (E : kEo) (m : Nat) : Nat → kJo
  | 0 => fun _ _ _ _ => none
  | n + 1 => fun l lv st hp => kX ro E (kG ro blk E m n) (blk m l) lv st hp
noncomputable def kU (ro : kRo) (blk : Nat → Nat → List kIt) (E : kEo) (m : Nat) : kJo := fun l lv st hp =>
  @dite _ (∃ r, ∃ n, kG ro blk E m n l lv st hp = some r) (Classical.propDecidable _) (fun h => some (Classical.choose h)) (fun _ => none)
def kEnt (n : Nat) (as : List Value) : kL := (fun l : kL => l ++ List.replicate (n - l.length) none) (as.flatMap fun v => if v.category = 2 then [some v, none] else [some v])
def kRc (o : Option Nat) (as : List Value) (hp : kH) : Bool := match o with
  | none => true
  | some ci => match as with
    | .ref q :: _ => (kObj hp q ci).isSome
    | _ => false
/-- a call enters its method if the arguments fit and the receiver is of its sort -/
def kMof (mx : Nat → Nat) (rc : Nat → Option Nat) (B : Nat → kJo) : kEo := fun m as hp => if (kEnt (mx m) as).length = mx m ∧ kRc (rc m) as hp = true then B m 0 (kEnt (mx m) as) [] hp else none
noncomputable def kD (ro : kRo) (blk : Nat → Nat → List kIt) (mx : Nat → Nat) (rc : Nat → Option Nat) : Nat → Nat → kJo
  | 0 => fun _ _ _ _ _ => none
  | d + 1 => fun m => kU ro blk (kMof mx rc (kD ro blk mx rc d)) m
/-- a call of a method, d calls deep at most -/
noncomputable def kM (ro : kRo) (blk : Nat → Nat → List kIt) (mx : Nat → Nat) (rc : Nat → Option Nat) (d : Nat) : kEo := kMof mx rc (kD ro blk mx rc d)
theorem kSw_mono {β : Type} {k k' : Nat → Option β} (h : ∀ t r, k t = some r → k' t = some r) (x : Int32) (d : Nat) : ∀ (sw : List (Int32 × Nat)) (r : β), kSw k x d sw = some r → kSw k' x d sw = some r
  | [], r, e => h _ _ e
  | q :: l, r, e => by
    unfold kSw at e ⊢
    split
    · rename_i hq; rw [if_pos hq] at e; exact h _ _ e
    · rename_i hq; rw [if_neg hq] at e; exact kSw_mono h x d l r e
theorem kX_mono {ro : kRo} {E E' : kEo} {J J' : kJo} (hE : ∀ m as hp r, E m as hp = some r → E' m as hp = some r) (hJ : ∀ t lv st hp r, J t lv st hp = some r → J' t lv st hp = some r) :
    ∀ (is : List kIt) (lv : kL) (st : List Value) (hp : kH) (r : kR), kX ro E J is lv st hp = some r → kX ro E' J' is lv st hp = some r
  | [], lv, st, hp, r, h => h
  | (_, .inl (i, a, b, z)) :: is, lv, st, hp, r, h => by
    unfold kX at h ⊢
    cases hs : kS ro i a b z lv st hp with
    | none => rw [hs] at h; cases h
    | some w =>
      rw [hs] at h
      exact kX_mono hE hJ is _ _ _ r h
  | (_, .inr (i, k, a, b, sw)) :: is, lv, st, hp, r, h => by
    unfold kX at h ⊢
    by_cases h0 : k = 0
    · rw [if_pos h0] at h ⊢
      cases hs : kCd i st with
      | none => rw [hs] at h; cases h
      | some w =>
        rw [hs] at h
        dsimp only at h ⊢
        by_cases hw : w.1 = true
        · rw [if_pos hw] at h ⊢; exact hJ _ _ _ _ _ h
        · rw [if_neg hw] at h ⊢; exact kX_mono hE hJ is _ _ _ r h
    · rw [if_neg h0] at h ⊢
      by_cases h1 : k = 1
      · rw [if_pos h1] at h ⊢; exact hJ _ _ _ _ _ h
      · rw [if_neg h1] at h ⊢
        by_cases h2 : k = 2
        · rw [if_pos h2] at h ⊢
          split at h
          · exact kSw_mono (fun t r => hJ t _ _ _ r) _ _ _ _ h
          · cases h
        · rw [if_neg h2] at h ⊢
          by_cases h3 : k = 3
          · rw [if_pos h3] at h ⊢; exact h
          · rw [if_neg h3] at h ⊢
            by_cases h4 : k = 4
            · rw [if_pos h4] at h ⊢
              by_cases hl : b ≤ st.length ∧ ((st.drop b).map (fun v => v.category)).sum ≤ 8
              · rw [if_pos hl] at h ⊢
                cases hs : E a (st.take b).reverse hp with
                | none => rw [hs] at h; cases h
                | some w =>
                  rw [hs] at h
                  rw [hE _ _ _ _ hs]
                  exact kX_mono hE hJ is _ _ _ r h
              · rw [if_neg hl] at h; cases h
            · rw [if_neg h4] at h; cases h
theorem kG_mono {ro : kRo} {blk : Nat → Nat → List kIt} {E : kEo} {m : Nat} : ∀ (n : Nat) (l : Nat) (lv : kL) (st : List Value) (hp : kH) (r : kR), kG ro blk E m n l lv st hp = some r → kG ro blk E m (n + 1) l lv st hp = some r
  | 0, l, lv, st, hp, r, h => by cases h
  | n + 1, l, lv, st, hp, r, h => kX_mono (fun _ _ _ _ h => h) (kG_mono n) _ _ _ _ _ h
theorem kG_le {ro : kRo} {blk : Nat → Nat → List kIt} {E : kEo} {m : Nat} {n l : Nat} {lv : kL} {st : List Value} {hp : kH} {r : kR} (h : kG ro blk E m n l lv st hp = some r) (k : Nat) : kG ro blk E m (n + k) l lv st hp = some r := by
  induction k with
  | zero => exact h
  | succ k ih => exact kG_mono _ _ _ _ _ _ ih
theorem kU_iff {ro : kRo} {blk : Nat → Nat → List kIt} {E : kEo} {m l : Nat} {lv : kL} {st : List Value} {hp : kH} {r : kR} : kU ro blk E m l lv st hp = some r ↔ ∃ n, kG ro blk E m n l lv st hp = some r := by
  unfold kU
  by_cases h : ∃ r, ∃ n, kG ro blk E m n l lv st hp = some r
  · rw [dif_pos h]
    obtain ⟨n, hn⟩ := Classical.choose_spec h
    constructor
    · intro e
      cases e
      exact ⟨n, hn⟩
    · rintro ⟨k, hk⟩
      have h1 := kG_le hn k
      have h2 := kG_le hk n
      rw [Nat.add_comm k n] at h2
      exact h1.symm.trans h2
  · rw [dif_neg h]
    constructor
    · intro e; cases e
    · rintro ⟨n, hn⟩
      exact absurd ⟨r, n, hn⟩ h
theorem kSw_fin {ro : kRo} {blk : Nat → Nat → List kIt} {E : kEo} {m : Nat} (lv : kL) (st : List Value) (hp : kH) (x : Int32) (d : Nat) : ∀ (sw : List (Int32 × Nat)) (r : kR), kSw (fun t => kU ro blk E m t lv st hp) x d sw = some r → ∃ n, kSw (fun t => kG ro blk E m n t lv st hp) x d sw = some r
  | [], r, e => kU_iff.mp e
  | q :: l, r, e => by
    unfold kSw at e ⊢
    split
    · rename_i hq; rw [if_pos hq] at e; exact kU_iff.mp e
    · rename_i hq; rw [if_neg hq] at e; exact kSw_fin lv st hp x d l r e
theorem kX_fin {ro : kRo} {blk : Nat → Nat → List kIt} {E : kEo} {m : Nat} :
    ∀ (is : List kIt) (lv : kL) (st : List Value) (hp : kH) (r : kR), kX ro E (kU ro blk E m) is lv st hp = some r → ∃ n, kX ro E (kG ro blk E m n) is lv st hp = some r
  | [], lv, st, hp, r, h => by cases h
  | (_, .inl (i, a, b, z)) :: is, lv, st, hp, r, h => by
    unfold kX at h ⊢
    cases hs : kS ro i a b z lv st hp with
    | none => rw [hs] at h; cases h
    | some w =>
      rw [hs] at h
      exact kX_fin is _ _ _ r h
  | (_, .inr (i, k, a, b, sw)) :: is, lv, st, hp, r, h => by
    unfold kX at h ⊢
    by_cases h0 : k = 0
    · simp only [if_pos h0] at h ⊢
      cases hs : kCd i st with
      | none => rw [hs] at h; cases h
      | some w =>
        rw [hs] at h
        dsimp only at h ⊢
        by_cases hw : w.1 = true
        · simp only [if_pos hw] at h ⊢; exact kU_iff.mp h
        · simp only [if_neg hw] at h ⊢; exact kX_fin is _ _ _ r h
    · simp only [if_neg h0] at h ⊢
      by_cases h1 : k = 1
      · simp only [if_pos h1] at h ⊢; exact kU_iff.mp h
      · simp only [if_neg h1] at h ⊢
        by_cases h2 : k = 2
        · simp only [if_pos h2] at h ⊢
          split at h
          · exact kSw_fin _ _ _ _ _ _ _ h
          · cases h
        · simp only [if_neg h2] at h ⊢
          by_cases h3 : k = 3
          · simp only [if_pos h3] at h ⊢; exact ⟨0, h⟩
          · simp only [if_neg h3] at h ⊢
            by_cases h4 : k = 4
            · simp only [if_pos h4] at h ⊢
              by_cases hl : b ≤ st.length ∧ ((st.drop b).map (fun v => v.category)).sum ≤ 8
              · simp only [if_pos hl] at h ⊢
                cases hs : E a (st.take b).reverse hp with
                | none => rw [hs] at h; cases h
                | some w =>
                  rw [hs] at h
                  exact kX_fin is _ _ _ r h
              · simp only [if_neg hl] at h; cases h
            · simp only [if_neg h4] at h; cases h
/-- a method's block runs by its own equation -/
theorem kU_eq (ro : kRo) (blk : Nat → Nat → List kIt) (E : kEo) (m l : Nat) (lv : kL) (st : List Value) (hp : kH) : kU ro blk E m l lv st hp = kX ro E (kU ro blk E m) (blk m l) lv st hp := by
  apply Option.ext
  intro r
  constructor
  · intro h
    obtain ⟨n, hn⟩ := kU_iff.mp h
    cases n with
    | zero => cases hn
    | succ n => exact kX_mono (fun _ _ _ _ h => h) (fun t lv st hp r h => kU_iff.mpr ⟨n, h⟩) _ _ _ _ _ hn
  · intro h
    obtain ⟨n, hn⟩ := kX_fin _ _ _ _ _ h
    exact kU_iff.mpr ⟨n + 1, hn⟩
theorem kD_eq (ro : kRo) (blk : Nat → Nat → List kIt) (mx : Nat → Nat) (rc : Nat → Option Nat) (d m l : Nat) (lv : kL) (st : List Value) (hp : kH) : kD ro blk mx rc (d + 1) m l lv st hp = kX ro (kM ro blk mx rc d) (kD ro blk mx rc (d + 1) m) (blk m l) lv st hp := kU_eq _ _ _ _ _ _ _ _
