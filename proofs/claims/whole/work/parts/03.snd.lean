/-! THE ENGINE IS SOUND, simple instructions: what it does to the lists, the machine does to its heap -/
def kV (ad : Nat → Nat) (v : Value) : Value := match v with
  | .ref a => .ref (ad a)
  | v => v
def kC (tc : Nat → ClassId) (ad : Nat → Nat) (e : kE) : va_E := match e with
  | .inl x => .inl (tc x.1, x.2)
  | .inr o => .inr (o.1, o.2.map (kV ad))
def kW (tc : Nat → ClassId) (ad : Nat → Nat) : Nat → kH → va_W
  | _, [] => []
  | i, e :: r => (ad i, kC tc ad e) :: kW tc ad (i + 1) r
theorem kW_get (tc : Nat → ClassId) (ad : Nat → Nat) : ∀ (hp : kH) (i0 i : Nat), (kW tc ad i0 hp)[i]? = (hp[i]?).map (fun e => (ad (i0 + i), kC tc ad e))
  | [], i0, i => by simp [kW]
  | e :: r, i0, 0 => by simp [kW]
  | e :: r, i0, i + 1 => by
    have h := kW_get tc ad r (i0 + 1) i
    simp only [kW, List.getElem?_cons_succ, h]
    rw [show i0 + 1 + i = i0 + (i + 1) by omega]
theorem kW_at {tc : Nat → ClassId} {ad : Nat → Nat} {hp : kH} {q : Nat} {e : kE} (h : hp[q]? = some e) : (kW tc ad 0 hp)[q]? = some (ad q, kC tc ad e) := by
  rw [kW_get, h, Nat.zero_add]; rfl
theorem kW_set (tc : Nat → ClassId) (ad : Nat → Nat) (e : kE) : ∀ (hp : kH) (i0 i : Nat), kW tc ad i0 (hp.set i e) = (kW tc ad i0 hp).set i (ad (i0 + i), kC tc ad e)
  | [], i0, i => by simp [kW]
  | x :: r, i0, 0 => by simp [kW]
  | x :: r, i0, i + 1 => by
    have h := kW_set tc ad e r (i0 + 1) i
    simp only [kW, List.set_cons_succ, h]
    rw [show i0 + 1 + i = i0 + (i + 1) by omega]
theorem kW_put (tc : Nat → ClassId) (ad : Nat → Nat) (e : kE) (hp : kH) (i : Nat) : kW tc ad 0 (hp.set i e) = (kW tc ad 0 hp).set i (ad i, kC tc ad e) := by
  rw [kW_set, Nat.zero_add]
theorem kV_cat (ad : Nat → Nat) (v : Value) : (kV ad v).category = v.category := by cases v <;> rfl
def kLl (ad : Nat → Nat) : Nat → kL → List (Nat × Value)
  | _, [] => []
  | i, none :: r => kLl ad (i + 1) r
  | i, some v :: r => (i, kV ad v) :: kLl ad (i + 1) r
theorem kLl_mem {ad : Nat → Nat} {i : Nat} {w : Value} : ∀ (lv : kL) (i0 : Nat), (i, w) ∈ kLl ad i0 lv ↔ ∃ j v, lv[j]? = some (some v) ∧ i = i0 + j ∧ w = kV ad v
  | [], i0 => by simp [kLl]
  | none :: r, i0 => by
    have h := kLl_mem (ad := ad) (i := i) (w := w) r (i0 + 1)
    simp only [kLl, h]
    constructor
    · rintro ⟨j, v, h1, h2, h3⟩
      exact ⟨j + 1, v, by simpa using h1, by omega, h3⟩
    · rintro ⟨j, v, h1, h2, h3⟩
      cases j with
      | zero => simp at h1
      | succ j => exact ⟨j, v, by simpa using h1, by omega, h3⟩
  | some u :: r, i0 => by
    have h := kLl_mem (ad := ad) (i := i) (w := w) r (i0 + 1)
    simp only [kLl, List.mem_cons, h]
    constructor
    · rintro (h0 | ⟨j, v, h1, h2, h3⟩)
      · cases h0
        exact ⟨0, u, by simp, by omega, rfl⟩
      · exact ⟨j + 1, v, by simpa using h1, by omega, h3⟩
    · rintro ⟨j, v, h1, h2, h3⟩
      cases j with
      | zero =>
        simp at h1
        subst h1
        left
        rw [h2, h3]; rfl
      | succ j => exact Or.inr ⟨j, v, by simpa using h1, by omega, h3⟩
theorem kLd_some {lv : kL} {i : Nat} {v : Value} (h : kLd lv i = some v) : lv[i]? = some (some v) := by
  unfold kLd at h
  split at h
  · rename_i w hw; cases h; exact hw
  · cases h
theorem kLd_at {ad : Nat → Nat} {ls : Array Slot} {nL : Nat} {lv : kL} {i : Nat} {v : Value} (hl : lv_has ls nL (kLl ad 0 lv)) (h : kLd lv i = some v) : ls[i]? = some (.val (kV ad v)) :=
  hl.2.2 (i, kV ad v) ((kLl_mem lv 0).mpr ⟨i, v, kLd_some h, by omega, rfl⟩)
theorem kClr_len (lv : kL) (i : Nat) : (kClr lv i).length = lv.length := by
  cases i with
  | zero => rfl
  | succ j =>
    unfold kClr
    dsimp only
    split <;> simp
theorem kClr_get {lv : kL} {i j : Nat} {v : Value} (h : (kClr lv i)[j]? = some (some v)) : lv[j]? = some (some v) ∧ (j + 1 = i → v.category = 1) := by
  cases i with
  | zero => exact ⟨h, fun q => by omega⟩
  | succ k =>
    unfold kClr at h
    dsimp only at h
    split at h
    · by_cases hj : k = j
      · subst hj
        rw [List.getElem?_set] at h
        simp at h
      · rw [List.getElem?_set_ne hj] at h
        exact ⟨h, fun q => by omega⟩
    · by_cases hj : k = j
      · subst hj
        rw [List.getElem?_set] at h
        simp at h
      · rw [List.getElem?_set_ne hj] at h
        exact ⟨h, fun q => by omega⟩
    · rename_i h1 h2
      refine ⟨h, fun q => ?_⟩
      have hk : j = k := by omega
      subst hk
      cases v with
      | long x => exact absurd h (h1 x)
      | double x => exact absurd h (h2 x)
      | _ => rfl
theorem kSt1_has {ad : Nat → Nat} {ls ls' : Array Slot} {nL i : Nat} {lv : kL} {v : Value} (hi : i < lv.length)
    (h' : lv_has ls' nL ((i, kV ad v) :: (kLl ad 0 lv).filter (fun q => !(q.1 == i) && !(q.1 + 1 == i && q.2.category == 2)))) : lv_has ls' nL (kLl ad 0 (kSt1 lv i v)) := by
  refine ⟨h'.1, h'.2.1, fun q hq => h'.2.2 q ?_⟩
  obtain ⟨qi, qw⟩ := q
  obtain ⟨j, u, h1, h2, h3⟩ := (kLl_mem _ _).mp hq
  rw [Nat.zero_add] at h2
  subst h2; subst h3
  unfold kSt1 at h1
  by_cases hj : i = qi
  · subst hj
    rw [List.getElem?_set_self (by rw [kClr_len]; exact hi)] at h1
    cases h1
    exact List.mem_cons_self
  · rw [List.getElem?_set_ne hj] at h1
    obtain ⟨g1, g2⟩ := kClr_get h1
    refine List.mem_cons_of_mem _ (List.mem_filter.mpr ⟨(kLl_mem _ _).mpr ⟨qi, u, g1, by omega, rfl⟩, ?_⟩)
    simp only [kV_cat, Bool.and_eq_true, Bool.not_eq_true', beq_eq_false_iff_ne, Bool.and_eq_false_iff]
    refine ⟨fun h => hj h.symm, ?_⟩
    by_cases hq1 : qi + 1 = i
    · right; rw [g2 hq1]; decide
    · left; exact hq1
theorem kSt2_has {ad : Nat → Nat} {ls ls' : Array Slot} {nL i : Nat} {lv : kL} {v : Value} (hi : i + 1 < lv.length)
    (h' : lv_has ls' nL ((i, kV ad v) :: (kLl ad 0 lv).filter (fun q => !(q.1 == i) && (!(q.1 == i + 1) && !(q.1 + 1 == i && q.2.category == 2))))) : lv_has ls' nL (kLl ad 0 (kSt2 lv i v)) := by
  refine ⟨h'.1, h'.2.1, fun q hq => h'.2.2 q ?_⟩
  obtain ⟨qi, qw⟩ := q
  obtain ⟨j, u, h1, h2, h3⟩ := (kLl_mem _ _).mp hq
  rw [Nat.zero_add] at h2
  subst h2; subst h3
  unfold kSt2 at h1
  by_cases hj2 : i + 1 = qi
  · subst hj2
    rw [List.getElem?_set_self (by simp [kClr_len]; exact hi)] at h1
    cases h1
  · rw [List.getElem?_set_ne hj2] at h1
    by_cases hj : i = qi
    · subst hj
      rw [List.getElem?_set_self (by rw [kClr_len]; omega)] at h1
      cases h1
      exact List.mem_cons_self
    · rw [List.getElem?_set_ne hj] at h1
      obtain ⟨g1, g2⟩ := kClr_get h1
      refine List.mem_cons_of_mem _ (List.mem_filter.mpr ⟨(kLl_mem _ _).mpr ⟨qi, u, g1, by omega, rfl⟩, ?_⟩)
      simp only [kV_cat, Bool.and_eq_true, Bool.not_eq_true', beq_eq_false_iff_ne, Bool.and_eq_false_iff]
      refine ⟨fun h => hj h.symm, fun h => hj2 h.symm, ?_⟩
      by_cases hq1 : qi + 1 = i
      · right; rw [g2 hq1]; decide
      · left; exact hq1
theorem kSt1_len (lv : kL) (i : Nat) (v : Value) : (kSt1 lv i v).length = lv.length := by unfold kSt1; rw [List.length_set, kClr_len]
theorem kSt2_len (lv : kL) (i : Nat) (v : Value) : (kSt2 lv i v).length = lv.length := by unfold kSt2; rw [List.length_set, List.length_set, kClr_len]
def kTy (tc : Nat → ClassId) : List (ClassId × FieldType) := [(tc 0, .int), (tc 1, .long), (tc 2, .byte), (tc 3, .boolean), (tc 4, .short)]
def kIv (D : va_G) (cl : List vw_C) (tc : Nat → ClassId) (ad : Nat → Nat) (A : Nat → Prop) (s : State) (hp : kH) (H : Heap) (locs : List Loc) : Prop := va_P D cl (kW tc ad 0 hp) H ∧ va_D A (kW tc ad 0 hp) ∧ va_S A s.heap H locs
def kRoOk (ro : kRo) (ad : Nat → Nat) (A : Nat → Prop) (s : State) : Prop := ∀ q x, ro q = some x → va_T .int (ad q) x.1 (fun j => .int (x.2 j)) A s s.heap
/-- statics (file, name, place) and links across a nest -/
abbrev kZt : Type := List (String × String × Nat) × List Jvm.Cond
def kNok (ns : List Jvm.Cond) (U : State) : Prop := ∀ w ∈ ns, va_Nw w U ∧ ((∃ a i b n d h, w = .fieldLinkNest a i b n d h) ∨ ∃ a i x h, w = .methodLinkNest a i x h)
theorem kNok.same {ns : List Jvm.Cond} {u U : State} (h : u.vm = U.vm) (hn : kNok ns u) : kNok ns U := by
  intro w hw
  obtain ⟨h1, h2⟩ := hn w hw
  refine ⟨?_, h2⟩
  rcases h2 with ⟨a, i, b, n, d, q, rfl⟩ | ⟨a, i, x, q, rfl⟩
  · exact va_Nw.same rfl h h1
  · exact va_Nw.same rfl h h1
theorem kNok.warm {ns : List Jvm.Cond} {s U : State} (hW : s.WarmedH U.vm) (hn : kNok ns s) : kNok ns U := by
  intro w hw
  obtain ⟨h1, h2⟩ := hn w hw
  refine ⟨?_, h2⟩
  rcases h2 with ⟨a, i, b, n, d, q, rfl⟩ | ⟨a, i, x, q, rfl⟩
  · exact va_Nw.warmF hW h1
  · exact va_Nw.warmM hW h1
def kZOk (zs : kZt) (ad : Nat → Nat) (A : Nat → Prop) (s : State) : Prop := (∀ z ∈ zs.1, va_Z z.1 z.2.1 "[I" (.ref (ad z.2.2)) A s s.heap) ∧ kNok zs.2 s
def kLn (i : Instr) : Nat := match i with
  | .bipush _ => 2 | .sipush _ => 3 | .ldc _ => 2 | .ldc_w _ => 3 | .ldc2_w _ => 3 | .iload _ => 2 | .lload _ => 2 | .aload _ => 2 | .istore _ => 2 | .lstore _ => 2 | .iinc _ _ => 3
  | .getfield _ => 3 | .putfield _ => 3 | .getstatic _ => 3 | .invokestatic _ => 3 | .invokevirtual _ => 3 | .ifCond _ _ => 3 | .if_icmp _ _ => 3 | .goto _ => 3
  | _ => 1
/-- what the tables must say for a simple instruction of the method's own file -/
def kWd (tbl : List Jvm.Cond) (cl : List vw_C) (own : String) (zs : kZt) (i : Instr) (a b : Nat) (z : Int) : Prop := match i with
  | .bipush n => (Int8.ofInt n).toInt32 = Int32.ofInt n
  | .sipush n => (Int16.ofInt n).toInt32 = Int32.ofInt n
  | .ldc idx => Jvm.Cond.constant own idx (Int32.ofInt z) ∈ tbl
  | .ldc_w idx => Jvm.Cond.constant own idx (Int32.ofInt z) ∈ tbl
  | .ldc2_w idx => Jvm.Cond.constantLong own idx (Int64.ofInt z) ∈ tbl
  | .getfield idx => ∃ q : vw_C, cl[a]? = some q ∧ b < q.2.2 ∧ (q.2.1 b).1 = q.1 ∧ Jvm.Cond.fieldLink own idx q.1 (q.2.1 b).2.1 (q.2.1 b).2.2.1 ∈ tbl ∧ ∀ w ∈ u_ws q.1 q.2.1 q.2.2, w ∈ tbl
  | .putfield idx => ∃ (q : vw_C) (ty0 : Nat → FieldType), cl[a]? = some q ∧ b < q.2.2 ∧ (q.2.1 b).1 = q.1 ∧ Jvm.Cond.fieldLink own idx q.1 (q.2.1 b).2.1 (q.2.1 b).2.2.1 ∈ tbl ∧ (∀ w ∈ u_ws q.1 q.2.1 q.2.2, w ∈ tbl) ∧ (q.2.1 b).2.2.2 = false ∧ (∀ k, k < q.2.2 → parseFieldDescriptor (q.2.1 k).2.2.1 = some (ty0 k)) ∧ (∀ a, a < q.2.2 → ∀ b, b < q.2.2 → a ≠ b → (q.2.1 a).2.1 ≠ (q.2.1 b).2.1) ∧ ((z = 0 ∧ ty0 b = .int) ∨ (z = 1 ∧ ty0 b = .boolean) ∨ (z = 2 ∧ ty0 b = .array .int))
  | .getstatic idx => ∃ C n host : String, (C, n, a) ∈ zs.1 ∧ (Jvm.Cond.fieldLink own idx C n "[I" ∈ tbl ∨ Jvm.Cond.fieldLinkNest own idx C n "[I" host ∈ zs.2)
  | .baload => a = 2 ∨ a = 3
  | .bastore => a = 2 ∨ a = 3
  | .invokestatic idx => (a = 1 → Jvm.Cond.methodLink own idx Lib.Math.max.name ∈ tbl ∧ Jvm.Cond.static Lib.Math.max.name ∈ tbl ∧ Jvm.Cond.initialized "java/lang/Math" ∈ tbl ∧ Jvm.Cond.code Lib.Math.max.name Lib.Math.max.code 2 (some .int) ∈ tbl)
      ∧ (a = 2 → Jvm.Cond.methodLink own idx Lib.Math.min.name ∈ tbl ∧ Jvm.Cond.static Lib.Math.min.name ∈ tbl ∧ Jvm.Cond.initialized "java/lang/Math" ∈ tbl ∧ Jvm.Cond.code Lib.Math.min.name Lib.Math.min.code 2 (some .int) ∈ tbl)
      ∧ (a = 3 ∨ a = 4 → Jvm.Cond.methodLink own idx arraycopyName ∈ tbl ∧ Jvm.Cond.native arraycopyName ∈ tbl ∧ Jvm.Cond.static arraycopyName ∈ tbl ∧ Jvm.Cond.initialized "java/lang/System" ∈ tbl)
  | _ => True
theorem kSi_inv {lv lv' : kL} {hp hp' : kH} {o : Option (List Value)} {st' : List Value} (h : kSi lv hp o = some (lv', st', hp')) : o = some st' ∧ lv' = lv ∧ hp' = hp := by
  unfold kSi at h
  cases o with
  | none => cases h
  | some x => cases h; exact ⟨rfl, rfl, rfl⟩
theorem kI1_inv {lv lv' : kL} {hp hp' : kH} {st st' : List Value} {f : Int32 → Value} (h : kSi lv hp (kI1 st f) = some (lv', st', hp')) : ∃ x r, st = .int x :: r ∧ lv' = lv ∧ st' = f x :: r ∧ hp' = hp := by
  obtain ⟨h1, h2, h3⟩ := kSi_inv h
  unfold kI1 at h1
  split at h1
  · cases h1; exact ⟨_, _, rfl, h2, rfl, h3⟩
  · cases h1
theorem kI2_inv {lv lv' : kL} {hp hp' : kH} {st st' : List Value} {f : Int32 → Int32 → Value} (h : kSi lv hp (kI2 st f) = some (lv', st', hp')) : ∃ x y r, st = .int y :: .int x :: r ∧ lv' = lv ∧ st' = f x y :: r ∧ hp' = hp := by
  obtain ⟨h1, h2, h3⟩ := kSi_inv h
  unfold kI2 at h1
  split at h1
  · cases h1; exact ⟨_, _, _, rfl, h2, rfl, h3⟩
  · cases h1
theorem kJ2_inv {lv lv' : kL} {hp hp' : kH} {st st' : List Value} {f : Int64 → Int64 → Value} (h : kSi lv hp (kJ2 st f) = some (lv', st', hp')) : ∃ x y r, st = .long y :: .long x :: r ∧ lv' = lv ∧ st' = f x y :: r ∧ hp' = hp := by
  obtain ⟨h1, h2, h3⟩ := kSi_inv h
  unfold kJ2 at h1
  split at h1
  · cases h1; exact ⟨_, _, _, rfl, h2, rfl, h3⟩
  · cases h1
theorem kPi_inv {lv lv' : kL} {hp hp' : kH} {st st' : List Value} {i : Nat} (h : kPi lv st hp i = some (lv', st', hp')) : ∃ x, kLd lv i = some (.int x) ∧ lv' = lv ∧ st' = .int x :: st ∧ hp' = hp := by
  unfold kPi at h
  split at h
  · rename_i x hx; cases h; exact ⟨x, hx, rfl, rfl, rfl⟩
  · cases h
theorem kPl_inv {lv lv' : kL} {hp hp' : kH} {st st' : List Value} {i : Nat} (h : kPl lv st hp i = some (lv', st', hp')) : ∃ x, kLd lv i = some (.long x) ∧ lv' = lv ∧ st' = .long x :: st ∧ hp' = hp := by
  unfold kPl at h
  split at h
  · rename_i x hx; cases h; exact ⟨x, hx, rfl, rfl, rfl⟩
  · cases h
theorem kPa_inv {lv lv' : kL} {hp hp' : kH} {st st' : List Value} {i : Nat} (h : kPa lv st hp i = some (lv', st', hp')) : ∃ x, kLd lv i = some (.ref x) ∧ lv' = lv ∧ st' = .ref x :: st ∧ hp' = hp := by
  unfold kPa at h
  split at h
  · rename_i x hx; cases h; exact ⟨x, hx, rfl, rfl, rfl⟩
  · cases h
theorem kTi_inv {lv lv' : kL} {hp hp' : kH} {st st' : List Value} {i : Nat} (h : kTi lv st hp i = some (lv', st', hp')) : ∃ x, st = .int x :: st' ∧ i < lv.length ∧ lv' = kSt1 lv i (.int x) ∧ hp' = hp := by
  unfold kTi at h
  split at h
  · split at h
    · rename_i hi; cases h; exact ⟨_, rfl, hi, rfl, rfl⟩
    · cases h
  · cases h
theorem kTa_inv {lv lv' : kL} {hp hp' : kH} {st st' : List Value} {i : Nat} (h : kTa lv st hp i = some (lv', st', hp')) : ∃ x, st = .ref x :: st' ∧ i < lv.length ∧ lv' = kSt1 lv i (.ref x) ∧ hp' = hp := by
  unfold kTa at h
  split at h
  · split at h
    · rename_i hi; cases h; exact ⟨_, rfl, hi, rfl, rfl⟩
    · cases h
  · cases h
theorem kTl_inv {lv lv' : kL} {hp hp' : kH} {st st' : List Value} {i : Nat} (h : kTl lv st hp i = some (lv', st', hp')) : ∃ x, st = .long x :: st' ∧ i + 1 < lv.length ∧ lv' = kSt2 lv i (.long x) ∧ hp' = hp := by
  unfold kTl at h
  split at h
  · split at h
    · rename_i hi; cases h; exact ⟨_, rfl, hi, rfl, rfl⟩
    · cases h
  · cases h
theorem kInc_inv {lv lv' : kL} {hp hp' : kH} {st st' : List Value} {i : Nat} {n : Int} (h : kInc lv st hp i n = some (lv', st', hp')) : ∃ x, kLd lv i = some (.int x) ∧ lv' = kSt1 lv i (.int (x + Int32.ofInt n)) ∧ st' = st ∧ hp' = hp := by
  unfold kInc at h
  split at h
  · rename_i x hx; cases h; exact ⟨x, hx, rfl, rfl, rfl⟩
  · cases h
theorem kDiv_inv {lv lv' : kL} {hp hp' : kH} {st st' : List Value} {f : Int32 → Int32 → Int32} (h : kDiv lv st hp f = some (lv', st', hp')) : ∃ x y r, st = .int y :: .int x :: r ∧ ¬ y = 0 ∧ lv' = lv ∧ st' = .int (f x y) :: r ∧ hp' = hp := by
  unfold kDiv at h
  split at h
  · split at h
    · cases h
    · rename_i hi; cases h; exact ⟨_, _, _, rfl, hi, rfl, rfl, rfl⟩
  · cases h
theorem kDup_inv {lv lv' : kL} {hp hp' : kH} {st st' : List Value} (h : kDup lv st hp = some (lv', st', hp')) : ∃ v r, st = v :: r ∧ v.category = 1 ∧ lv' = lv ∧ st' = v :: v :: r ∧ hp' = hp := by
  unfold kDup at h
  split at h
  · split at h
    · rename_i hi; cases h; exact ⟨_, _, rfl, hi, rfl, rfl, rfl⟩
    · cases h
  · cases h
theorem kPop_inv {lv lv' : kL} {hp hp' : kH} {st st' : List Value} (h : kPop lv st hp = some (lv', st', hp')) : ∃ v, st = v :: st' ∧ v.category = 1 ∧ lv' = lv ∧ hp' = hp := by
  unfold kPop at h
  split at h
  · split at h
    · rename_i hi; cases h; exact ⟨_, rfl, hi, rfl, rfl⟩
    · cases h
  · cases h
theorem kDup2_inv {lv lv' : kL} {hp hp' : kH} {st st' : List Value} (h : kDup2 lv st hp = some (lv', st', hp')) : ∃ v w r, st = v :: w :: r ∧ v.category = 1 ∧ w.category = 1 ∧ lv' = lv ∧ st' = v :: w :: v :: w :: r ∧ hp' = hp := by
  unfold kDup2 at h
  split at h
  · split at h
    · rename_i hi; cases h; exact ⟨_, _, _, rfl, hi.1, hi.2, rfl, rfl, rfl⟩
    · cases h
  · cases h
theorem kObj_inv {hp : kH} {q a : Nat} {fs : List Value} (h : kObj hp q a = some fs) : hp[q]? = some (.inr (a, fs)) := by
  unfold kObj at h
  split at h
  · rename_i o ho
    split at h
    · rename_i ha; cases h; rw [ho]; obtain ⟨o1, o2⟩ := o; dsimp only at ha; rw [ha]
    · cases h
  · cases h
theorem kArr_inv {hp : kH} {q t : Nat} {x : Nat × (Nat → Int32)} (h : kArr hp q t = some x) : hp[q]? = some (.inl (t, x.1, .inl x.2)) := by
  unfold kArr at h
  split at h
  · rename_i y hy
    obtain ⟨y1, y2, y3⟩ := y
    split at h
    · rename_i ha
      dsimp only at ha h
      subst ha
      split at h
      · cases h; exact hy
      · cases h
    · cases h
  · cases h
theorem kArrL_inv {hp : kH} {q : Nat} {x : Nat × (Nat → Int64)} (h : kArrL hp q = some x) : hp[q]? = some (.inl (1, x.1, .inr (.inl x.2))) := by
  unfold kArrL at h
  split at h
  · rename_i y hy
    obtain ⟨y1, y2, y3⟩ := y
    split at h
    · rename_i ha
      dsimp only at ha h
      subst ha
      split at h
      · cases h; exact hy
      · cases h
    · cases h
  · cases h
theorem kGet_inv {lv lv' : kL} {hp hp' : kH} {st st' : List Value} {a b : Nat} (h : kGet lv st hp a b = some (lv', st', hp')) : ∃ q r fs v, st = .ref q :: r ∧ hp[q]? = some (.inr (a, fs)) ∧ fs[b]? = some v ∧ lv' = lv ∧ st' = v :: r ∧ hp' = hp := by
  unfold kGet at h
  split at h
  · split at h
    · rename_i fs ho
      split at h
      · rename_i v hv; cases h; exact ⟨_, _, fs, v, rfl, kObj_inv ho, hv, rfl, rfl, rfl⟩
      · cases h
    · cases h
  · cases h
theorem kPut_inv {lv lv' : kL} {hp hp' : kH} {st st' : List Value} {a b : Nat} {z : Int} (h : kPut lv st hp a b z = some (lv', st', hp')) : ∃ v q fs, st = v :: .ref q :: st' ∧ hp[q]? = some (.inr (a, fs)) ∧ b < fs.length ∧ kFit z v = true ∧ lv' = lv ∧ hp' = hp.set q (.inr (a, fs.set b v)) := by
  unfold kPut at h
  split at h
  · split at h
    · rename_i fs ho
      split at h
      · rename_i hc; cases h; exact ⟨_, _, fs, rfl, kObj_inv ho, hc.1, hc.2, rfl, rfl⟩
      · cases h
    · cases h
  · cases h
theorem kAl_inv {lv lv' : kL} {hp hp' : kH} {st st' : List Value} {ro : kRo} (h : kAl lv st hp ro = some (lv', st', hp')) : ∃ q r n, st = .ref q :: r ∧ kLen ro hp q = some n ∧ lv' = lv ∧ st' = .int (Int32.ofNat n) :: r ∧ hp' = hp := by
  unfold kAl at h
  split at h
  · split at h
    · rename_i n hn; cases h; exact ⟨_, _, n, rfl, hn, rfl, rfl, rfl⟩
    · cases h
  · cases h
theorem kAi_inv {lv lv' : kL} {hp hp' : kH} {st st' : List Value} {ro : kRo} (h : kAi lv st hp ro = some (lv', st', hp')) : ∃ j q r x, st = .int j :: .ref q :: r ∧ kRd ro hp q = some x ∧ vp_in j x.1 ∧ lv' = lv ∧ st' = .int (x.2 j.toNatClampNeg) :: r ∧ hp' = hp := by
  unfold kAi at h
  split at h
  · split at h
    · rename_i x hn
      split at h
      · cases h
      · rename_i hi; cases h; exact ⟨_, _, _, x, rfl, hn, hi, rfl, rfl, rfl⟩
    · cases h
  · cases h
theorem kAt_inv {lv lv' : kL} {hp hp' : kH} {st st' : List Value} {t : Nat} (h : kAt lv st hp t = some (lv', st', hp')) : ∃ j q r x, st = .int j :: .ref q :: r ∧ kArr hp q t = some x ∧ vp_in j x.1 ∧ lv' = lv ∧ st' = .int (x.2 j.toNatClampNeg) :: r ∧ hp' = hp := by
  unfold kAt at h
  split at h
  · split at h
    · rename_i x hn
      split at h
      · cases h
      · rename_i hi; cases h; exact ⟨_, _, _, x, rfl, hn, hi, rfl, rfl, rfl⟩
    · cases h
  · cases h
theorem kAj_inv {lv lv' : kL} {hp hp' : kH} {st st' : List Value} (h : kAj lv st hp = some (lv', st', hp')) : ∃ j q r x, st = .int j :: .ref q :: r ∧ kArrL hp q = some x ∧ vp_in j x.1 ∧ lv' = lv ∧ st' = .long (x.2 j.toNatClampNeg) :: r ∧ hp' = hp := by
  unfold kAj at h
  split at h
  · split at h
    · rename_i x hn
      split at h
      · cases h
      · rename_i hi; cases h; exact ⟨_, _, _, x, rfl, hn, hi, rfl, rfl, rfl⟩
    · cases h
  · cases h
theorem kBt_inv {lv lv' : kL} {hp hp' : kH} {st st' : List Value} {t : Nat} {g : Int32 → Int32} (h : kBt lv st hp t g = some (lv', st', hp')) : ∃ v j q x, st = .int v :: .int j :: .ref q :: st' ∧ kArr hp q t = some x ∧ vp_in j x.1 ∧ lv' = lv ∧ hp' = hp.set q (.inl (t, x.1, .inl (upd x.2 j.toNatClampNeg (g v)))) := by
  unfold kBt at h
  split at h
  · split at h
    · rename_i x hn
      split at h
      · cases h
      · rename_i hi; cases h; exact ⟨_, _, _, x, rfl, hn, hi, rfl, rfl⟩
    · cases h
  · cases h
theorem kBj_inv {lv lv' : kL} {hp hp' : kH} {st st' : List Value} (h : kBj lv st hp = some (lv', st', hp')) : ∃ v j q x, st = .long v :: .int j :: .ref q :: st' ∧ kArrL hp q = some x ∧ vp_in j x.1 ∧ lv' = lv ∧ hp' = hp.set q (.inl (1, x.1, .inr (.inl (vp_updL x.2 j.toNatClampNeg v)))) := by
  unfold kBj at h
  split at h
  · split at h
    · rename_i x hn
      split at h
      · cases h
      · rename_i hi; cases h; exact ⟨_, _, _, x, rfl, hn, hi, rfl, rfl⟩
    · cases h
  · cases h
theorem kMx_inv {lv lv' : kL} {hp hp' : kH} {st st' : List Value} {f : Int32 → Int32 → Int32} (h : kMx lv st hp f = some (lv', st', hp')) : ∃ x y r, st = .int y :: .int x :: r ∧ r.length ≤ 4 ∧ lv' = lv ∧ st' = .int (f x y) :: r ∧ hp' = hp := by
  unfold kMx at h
  split at h
  · split at h
    · rename_i hi; cases h; exact ⟨_, _, _, rfl, hi, rfl, rfl, rfl⟩
    · cases h
  · cases h
theorem kCpI_inv {lv lv' : kL} {hp hp' : kH} {st st' : List Value} (h : kCpI lv st hp = some (lv', st', hp')) : ∃ n dp q1 sp q0 x y, st = .int n :: .int dp :: .ref q1 :: .int sp :: .ref q0 :: st' ∧ kArr hp q0 0 = some x ∧ kArr hp q1 0 = some y ∧ st'.length ≤ 4 ∧ ¬ sp < 0 ∧ ¬ dp < 0 ∧ ¬ n < 0 ∧ sp.toNatClampNeg + n.toNatClampNeg ≤ x.1 ∧ dp.toNatClampNeg + n.toNatClampNeg ≤ y.1 ∧ lv' = lv ∧ hp' = hp.set q1 (.inl (0, y.1, .inl (va_cpy x.2 y.2 sp.toNatClampNeg dp.toNatClampNeg n.toNatClampNeg))) := by
  unfold kCpI at h
  split at h
  · split at h
    · rename_i x y hx hy
      split at h
      · rename_i hc
        cases h
        exact ⟨_, _, _, _, _, x, y, rfl, hx, hy, hc.1, hc.2.1, hc.2.2.1, hc.2.2.2.1, hc.2.2.2.2.1, hc.2.2.2.2.2, rfl, rfl⟩
      · cases h
    · cases h
  · cases h
theorem kCpL_inv {lv lv' : kL} {hp hp' : kH} {st st' : List Value} (h : kCpL lv st hp = some (lv', st', hp')) : ∃ n dp q1 sp q0 x y, st = .int n :: .int dp :: .ref q1 :: .int sp :: .ref q0 :: st' ∧ kArrL hp q0 = some x ∧ kArrL hp q1 = some y ∧ st'.length ≤ 4 ∧ ¬ sp < 0 ∧ ¬ dp < 0 ∧ ¬ n < 0 ∧ sp.toNatClampNeg + n.toNatClampNeg ≤ x.1 ∧ dp.toNatClampNeg + n.toNatClampNeg ≤ y.1 ∧ lv' = lv ∧ hp' = hp.set q1 (.inl (1, y.1, .inr (.inl (va_cpy x.2 y.2 sp.toNatClampNeg dp.toNatClampNeg n.toNatClampNeg)))) := by
  unfold kCpL at h
  split at h
  · split at h
    · rename_i x y hx hy
      split at h
      · rename_i hc
        cases h
        exact ⟨_, _, _, _, _, x, y, rfl, hx, hy, hc.1, hc.2.1, hc.2.2.1, hc.2.2.2.1, hc.2.2.2.2.1, hc.2.2.2.2.2, rfl, rfl⟩
      · cases h
    · cases h
  · cases h
theorem kSum_le (ad : Nat → Nat) : ∀ (st : List Value), ((st.map (kV ad)).map fun v => v.category).sum ≤ 2 * st.length
  | [] => by simp
  | v :: r => by
    have h := kSum_le ad r
    have hc : (kV ad v).category ≤ 2 := by cases v <;> simp [kV, Value.category]
    simp only [List.map_cons, List.sum_cons, List.length_cons]
    omega
