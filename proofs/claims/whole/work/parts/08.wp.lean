/-! THE STORE: a fixed shape of cells, their ints by place and index; what must hold ahead of a block (zX), and that the engine then runs -/
abbrev zV : Type := Int ⊕ (Nat ⊕ Int)
abbrev zL : Type := List (Option zV)
abbrev zSt : Type := Nat → Nat → Int
abbrev zC : Type := (Nat × Nat) ⊕ (Nat × List (Option (Option Nat)))
abbrev zQ : Type := Option zV → zSt → Prop
abbrev zEo : Type := Nat → List zV → zSt → zQ → Prop
abbrev zJo : Type := Nat → zL → List zV → zSt → zQ → Prop
def zv (v : zV) : Value := match v with
  | .inl x => .int (Int32.ofInt x)
  | .inr (.inl q) => .ref q
  | .inr (.inr x) => .long (Int64.ofInt x)
def zM (lv : zL) : kL := lv.map (fun o => o.map zv)
def zSv (f : Nat → Int) (b : Nat) (t : Option (Option Nat)) : Value := match t with
  | none => .int (Int32.ofInt (f b))
  | some (some q) => .ref q
  | some none => .ref (f b).toNat
def zSl (f : Nat → Int) : Nat → List (Option (Option Nat)) → List Value
  | _, [] => []
  | b, t :: r => zSv f b t :: zSl f (b + 1) r
def zCe (f : Nat → Int) (c : zC) : kE := match c with
  | .inl x => .inl (x.1, x.2, if x.1 = 1 then .inr (.inl (fun j => Int64.ofInt (f j))) else .inl (fun j => Int32.ofInt (f j)))
  | .inr o => .inr (o.1, zSl f 0 o.2)
def zH (s : zSt) : Nat → List zC → kH
  | _, [] => []
  | q, c :: r => zCe (s q) c :: zH s (q + 1) r
def zU (s : zSt) (q k : Nat) (v : Int) : zSt := fun q' => if q' = q then (fun k' => if k' = k then v else s q k') else s q'
def zF (s : zSt) (q : Nat) (f : Nat → Int) : zSt := fun q' => if q' = q then f else s q'
theorem zU_at (s : zSt) (q k : Nat) (v : Int) : zU s q k v q = fun k' => if k' = k then v else s q k' := if_pos rfl
theorem zU_ne {q q' : Nat} (h : q' ≠ q) (s : zSt) (k : Nat) (v : Int) : zU s q k v q' = s q' := if_neg h
theorem zF_at (s : zSt) (q : Nat) (f : Nat → Int) : zF s q f q = f := if_pos rfl
theorem zF_ne {q q' : Nat} (h : q' ≠ q) (s : zSt) (f : Nat → Int) : zF s q f q' = s q' := if_neg h
theorem zH_len (s : zSt) : ∀ (sh : List zC) (q : Nat), (zH s q sh).length = sh.length
  | [], _ => rfl
  | _ :: r, q => by simp only [zH, List.length_cons, zH_len s r]
theorem zH_get (s : zSt) : ∀ (sh : List zC) (q0 q : Nat), (zH s q0 sh)[q]? = (sh[q]?).map (zCe (s (q0 + q)))
  | [], q0, q => by simp [zH]
  | c :: r, q0, 0 => by simp [zH]
  | c :: r, q0, q + 1 => by
    have h := zH_get s r (q0 + 1) q
    simp only [zH, List.getElem?_cons_succ, h]
    rw [show q0 + 1 + q = q0 + (q + 1) by omega]
theorem zH_at {s : zSt} {sh : List zC} {q : Nat} {c : zC} (h : sh[q]? = some c) : (zH s 0 sh)[q]? = some (zCe (s q) c) := by
  rw [zH_get, h, Nat.zero_add]; rfl
theorem zH_put {s s' : zSt} {sh : List zC} {q : Nat} {c : zC} (hc : sh[q]? = some c) (h : ∀ q', q' ≠ q → s' q' = s q') : (zH s 0 sh).set q (zCe (s' q) c) = zH s' 0 sh := by
  apply List.ext_getElem?
  intro i
  rw [zH_get, Nat.zero_add]
  by_cases hi : q = i
  · subst hi
    rw [List.getElem?_set_self (by rw [zH_len]; exact (List.getElem?_eq_some_iff.mp hc).1), hc]; rfl
  · rw [List.getElem?_set_ne hi, zH_get, Nat.zero_add, h i (fun e => hi e.symm)]
def zR (x : Int) : Prop := -2147483648 ≤ x ∧ x ≤ 2147483647
def zR64 (x : Int) : Prop := -9223372036854775808 ≤ x ∧ x ≤ 9223372036854775807
def zVok (v : zV) : Prop := match v with
  | .inl x => zR x
  | .inr (.inl _) => True
  | .inr (.inr x) => zR64 x
def zLong (sh : List zC) (q : Nat) : Bool := match sh[q]? with
  | some (.inl x) => Nat.beq x.1 1
  | _ => false
def zSok (sh : List zC) (s : zSt) : Prop := ∀ q j, (zLong sh q = true → zR64 (s q j)) ∧ (zLong sh q = false → zR (s q j))
def zLok (lv : zL) : Prop := ∀ v, some v ∈ lv → zVok v
def zTok (st : List zV) : Prop := ∀ v ∈ st, zVok v
def zro (ro : Nat → Option (List Int)) : kRo := fun q => (ro q).map (fun l => (l.length, fun j => Int32.ofInt (l.getD j 0)))
/-! ints that wrap -/
def wr (x : Int) : Int := (x + 2147483648) % 4294967296 - 2147483648
def wl (x : Int) : Int := (x + 9223372036854775808) % 18446744073709551616 - 9223372036854775808
def w8 (x : Int) : Int := (x + 128) % 256 - 128
def w16 (x : Int) : Int := (x + 32768) % 65536 - 32768
theorem wr_bmod (x : Int) : wr x = x.bmod 4294967296 := by
  unfold wr
  rw [Int.bmod_def]
  split <;> omega
theorem wl_bmod (x : Int) : wl x = x.bmod 18446744073709551616 := by
  unfold wl
  rw [Int.bmod_def]
  split <;> omega
theorem w8_bmod (x : Int) : w8 x = x.bmod 256 := by
  unfold w8
  rw [Int.bmod_def]
  split <;> omega
theorem w16_bmod (x : Int) : w16 x = x.bmod 65536 := by
  unfold w16
  rw [Int.bmod_def]
  split <;> omega
theorem wr_R (x : Int) : zR (wr x) := by unfold wr zR; omega
theorem wl_R (x : Int) : zR64 (wl x) := by unfold wl zR64; omega
theorem wr_id {x : Int} (h : zR x) : wr x = x := by unfold wr; unfold zR at h; omega
theorem wl_id {x : Int} (h : zR64 x) : wl x = x := by unfold wl; unfold zR64 at h; omega
theorem z32 {x : Int} (h : zR x) : (Int32.ofInt x).toInt = x := Int32.toInt_ofInt_of_le (by have := h.1; omega) (by have := h.2; omega)
theorem z64 {x : Int} (h : zR64 x) : (Int64.ofInt x).toInt = x := Int64.toInt_ofInt_of_le (by have := h.1; omega) (by have := h.2; omega)
theorem z32w (x : Int) : (Int32.ofInt x).toInt = wr x := by rw [Int32.toInt_ofInt, wr_bmod]
theorem z64w (x : Int) : (Int64.ofInt x).toInt = wl x := by rw [Int64.toInt_ofInt, wl_bmod]
theorem zof_wr (x : Int) : Int32.ofInt (wr x) = Int32.ofInt x := by rw [← z32w, Int32.ofInt_toInt]
theorem zof_wl (x : Int) : Int64.ofInt (wl x) = Int64.ofInt x := by rw [← z64w, Int64.ofInt_toInt]
theorem zR_of (x : Int32) : zR x.toInt := by
  have h1 := x.toInt_lt
  have h2 := x.le_toInt
  unfold zR
  omega
theorem zR64_of (x : Int64) : zR64 x.toInt := by
  have h1 := x.toInt_lt
  have h2 := x.le_toInt
  unfold zR64
  omega
theorem z_lt {x y : Int} (hx : zR x) (hy : zR y) : Int32.ofInt x < Int32.ofInt y ↔ x < y := by rw [Int32.lt_iff_toInt_lt, z32 hx, z32 hy]
theorem z_le {x y : Int} (hx : zR x) (hy : zR y) : Int32.ofInt x ≤ Int32.ofInt y ↔ x ≤ y := by rw [Int32.le_iff_toInt_le, z32 hx, z32 hy]
theorem z_eq {x y : Int} (hx : zR x) (hy : zR y) : Int32.ofInt x = Int32.ofInt y ↔ x = y := by rw [← Int32.toInt_inj, z32 hx, z32 hy]
theorem z_eq64 {x y : Int} (hx : zR64 x) (hy : zR64 y) : Int64.ofInt x = Int64.ofInt y ↔ x = y := by rw [← Int64.toInt_inj, z64 hx, z64 hy]
theorem z_lt64 {x y : Int} (hx : zR64 x) (hy : zR64 y) : Int64.ofInt x < Int64.ofInt y ↔ x < y := by rw [Int64.lt_iff_toInt_lt, z64 hx, z64 hy]
theorem zR0 : zR 0 := by unfold zR; omega
theorem z_nat {x : Int} (hx : zR x) : (Int32.ofInt x).toNatClampNeg = x.toNat := by rw [← Int32.toNat_toInt, z32 hx]
/-- an index within -/
theorem z_in {j : Int} {n : Nat} (hj : zR j) (h : 0 ≤ j ∧ j < (n : Int)) : ¬ (Int32.ofInt j < 0 ∨ n ≤ (Int32.ofInt j).toNatClampNeg) := by
  rw [z_nat hj, show (0 : Int32) = Int32.ofInt 0 from rfl, z_lt hj zR0]
  omega
def zRb (n : Int) : Bool := match n with
  | .ofNat k => Nat.ble k 2147483647
  | .negSucc k => Nat.ble k 2147483647
def zRb64 (n : Int) : Bool := match n with
  | .ofNat k => Nat.ble k 9223372036854775807
  | .negSucc k => Nat.ble k 9223372036854775807
theorem zRb_ok {n : Int} (h : zRb n = true) : zR n := by
  unfold zR
  cases n with
  | ofNat k =>
    have := Nat.le_of_ble_eq_true h
    rw [Int.ofNat_eq_natCast]
    omega
  | negSucc k => have := Nat.le_of_ble_eq_true h; omega
theorem zRb64_ok {n : Int} (h : zRb64 n = true) : zR64 n := by
  unfold zR64
  cases n with
  | ofNat k =>
    have := Nat.le_of_ble_eq_true h
    rw [Int.ofNat_eq_natCast]
    omega
  | negSucc k => have := Nat.le_of_ble_eq_true h; omega
/-! one instruction -/
abbrev zK : Type := zL → List zV → zSt → Prop
def zLd (lv : zL) (i : Nat) : Option zV := match lv[i]? with
  | some (some v) => some v
  | _ => none
def zClr (lv : zL) (i : Nat) : zL := match i with
  | 0 => lv
  | j + 1 => match lv[j]? with
    | some (some (.inr (.inr _))) => lv.set j none
    | _ => lv
def zSt1 (lv : zL) (i : Nat) (v : zV) : zL := (zClr lv i).set i (some v)
def zSt2 (lv : zL) (i : Nat) (v : zV) : zL := ((zClr lv i).set i (some v)).set (i + 1) none
def zPush (b : Bool) (v : zV) (lv : zL) (st : List zV) (s : zSt) (K : zK) : Prop := cond b (K lv (v :: st) s) False
def zPi (lv : zL) (st : List zV) (s : zSt) (i : Nat) (K : zK) : Prop := match zLd lv i with
  | some (.inl x) => K lv (.inl x :: st) s
  | _ => False
def zPl (lv : zL) (st : List zV) (s : zSt) (i : Nat) (K : zK) : Prop := match zLd lv i with
  | some (.inr (.inr x)) => K lv (.inr (.inr x) :: st) s
  | _ => False
def zPa (lv : zL) (st : List zV) (s : zSt) (i : Nat) (K : zK) : Prop := match zLd lv i with
  | some (.inr (.inl x)) => K lv (.inr (.inl x) :: st) s
  | _ => False
def zTi (lv : zL) (st : List zV) (s : zSt) (i : Nat) (K : zK) : Prop := match st with
  | .inl x :: r => cond (Nat.blt i lv.length) (K (zSt1 lv i (.inl x)) r s) False
  | _ => False
def zTa (lv : zL) (st : List zV) (s : zSt) (i : Nat) (K : zK) : Prop := match st with
  | .inr (.inl x) :: r => cond (Nat.blt i lv.length) (K (zSt1 lv i (.inr (.inl x))) r s) False
  | _ => False
def zTl (lv : zL) (st : List zV) (s : zSt) (i : Nat) (K : zK) : Prop := match st with
  | .inr (.inr x) :: r => cond (Nat.blt (i + 1) lv.length) (K (zSt2 lv i (.inr (.inr x))) r s) False
  | _ => False
def zInc (lv : zL) (st : List zV) (s : zSt) (i : Nat) (n : Int) (K : zK) : Prop := match zLd lv i with
  | some (.inl x) => K (zSt1 lv i (.inl (wr (x + n)))) st s
  | _ => False
def zI1 (lv : zL) (st : List zV) (s : zSt) (f : Int → zV) (K : zK) : Prop := match st with
  | .inl x :: r => K lv (f x :: r) s
  | _ => False
def zI2 (lv : zL) (st : List zV) (s : zSt) (f : Int → Int → Int) (K : zK) : Prop := match st with
  | .inl y :: .inl x :: r => K lv (.inl (f x y) :: r) s
  | _ => False
def zJ2 (lv : zL) (st : List zV) (s : zSt) (f : Int → Int → zV) (K : zK) : Prop := match st with
  | .inr (.inr y) :: .inr (.inr x) :: r => K lv (f x y :: r) s
  | _ => False
def zDiv (lv : zL) (st : List zV) (s : zSt) (f : Int → Int → Int) (K : zK) : Prop := match st with
  | .inl y :: .inl x :: r => if y = 0 then False else K lv (.inl (f x y) :: r) s
  | _ => False
def zCat (v : zV) : Bool := match v with
  | .inr (.inr _) => false
  | _ => true
def zCatS : List zV → Nat
  | [] => 0
  | v :: r => cond (zCat v) 1 2 + zCatS r
def zDup (lv : zL) (st : List zV) (s : zSt) (K : zK) : Prop := match st with
  | v :: r => cond (zCat v) (K lv (v :: v :: r) s) False
  | _ => False
def zPop (lv : zL) (st : List zV) (s : zSt) (K : zK) : Prop := match st with
  | v :: r => cond (zCat v) (K lv r s) False
  | _ => False
def zDup2 (lv : zL) (st : List zV) (s : zSt) (K : zK) : Prop := match st with
  | v :: w :: r => cond (zCat v && zCat w) (K lv (v :: w :: v :: w :: r) s) False
  | _ => False
def zOb (sh : List zC) (q a b : Nat) (k : Option (Option Nat) → Prop) : Prop := match sh[q]? with
  | some (.inr o) => cond (Nat.beq o.1 a) (match o.2[b]? with
    | some t => k t
    | none => False) False
  | _ => False
def zGet (sh : List zC) (lv : zL) (st : List zV) (s : zSt) (a b : Nat) (K : zK) : Prop := match st with
  | .inr (.inl q) :: r => zOb sh q a b (fun t => match t with
    | none => K lv (.inl (s q b) :: r) s
    | some (some x) => K lv (.inr (.inl x) :: r) s
    | some none => K lv (.inr (.inl (s q b).toNat) :: r) s)
  | _ => False
def zPut (sh : List zC) (lv : zL) (st : List zV) (s : zSt) (a b : Nat) (z : Int) (K : zK) : Prop := match st with
  | .inl x :: .inr (.inl q) :: r => zOb sh q a b (fun t => match t with
    | none => (match z with
      | 0 => K lv r (zU s q b x)
      | 1 => (x = 0 ∨ x = 1) ∧ K lv r (zU s q b x)
      | _ => False)
    | _ => False)
  | .inr (.inl x) :: .inr (.inl q) :: r => zOb sh q a b (fun t => match t with
    | some none => (match z with
      | 2 => cond (Nat.ble x 2147483647) (K lv r (zU s q b (x : Int))) False
      | _ => False)
    | _ => False)
  | _ => False
def zAr (sh : List zC) (q t : Nat) (k : Nat → Prop) : Prop := match sh[q]? with
  | some (.inl x) => cond (Nat.beq x.1 t) (k x.2) False
  | _ => False
def zRd (sh : List zC) (ro : Nat → Option (List Int)) (s : zSt) (q : Nat) (k : Nat → (Nat → Int) → Prop) : Prop := match ro q with
  | some l => k l.length (fun j => l.getD j 0)
  | none => zAr sh q 0 (fun n => k n (s q))
def zAl (sh : List zC) (ro : Nat → Option (List Int)) (lv : zL) (st : List zV) (s : zSt) (K : zK) : Prop := match st with
  | .inr (.inl q) :: r => (match ro q with
    | some l => cond (Nat.ble l.length 2147483647) (K lv (.inl (l.length : Int) :: r) s) False
    | none => match sh[q]? with
      | some (.inl x) => cond (Nat.ble x.2 2147483647 && Nat.blt x.1 5) (K lv (.inl (x.2 : Int) :: r) s) False
      | _ => False)
  | _ => False
def zAi (sh : List zC) (ro : Nat → Option (List Int)) (lv : zL) (st : List zV) (s : zSt) (K : zK) : Prop := match st with
  | .inl j :: .inr (.inl q) :: r => zRd sh ro s q (fun n f => 0 ≤ j ∧ j < (n : Int) ∧ K lv (.inl (f j.toNat) :: r) s)
  | _ => False
def zAt (sh : List zC) (lv : zL) (st : List zV) (s : zSt) (t : Nat) (K : zK) : Prop := match st with
  | .inl j :: .inr (.inl q) :: r => cond (Nat.beq t 1) False (zAr sh q t (fun n => 0 ≤ j ∧ j < (n : Int) ∧ K lv (.inl (s q j.toNat) :: r) s))
  | _ => False
def zAj (sh : List zC) (lv : zL) (st : List zV) (s : zSt) (K : zK) : Prop := match st with
  | .inl j :: .inr (.inl q) :: r => zAr sh q 1 (fun n => 0 ≤ j ∧ j < (n : Int) ∧ K lv (.inr (.inr (s q j.toNat)) :: r) s)
  | _ => False
def zBt (sh : List zC) (lv : zL) (st : List zV) (s : zSt) (t : Nat) (g : Int → Int) (K : zK) : Prop := match st with
  | .inl v :: .inl j :: .inr (.inl q) :: r => cond (Nat.beq t 1) False (zAr sh q t (fun n => 0 ≤ j ∧ j < (n : Int) ∧ K lv r (zU s q j.toNat (g v))))
  | _ => False
def zBj (sh : List zC) (lv : zL) (st : List zV) (s : zSt) (K : zK) : Prop := match st with
  | .inr (.inr v) :: .inl j :: .inr (.inl q) :: r => zAr sh q 1 (fun n => 0 ≤ j ∧ j < (n : Int) ∧ K lv r (zU s q j.toNat v))
  | _ => False
def zCpF (f g : Nat → Int) (sp dp n : Nat) : Nat → Int := fun k => if dp ≤ k ∧ k < dp + n then f (sp + (k - dp)) else g k
def zCp (sh : List zC) (lv : zL) (st : List zV) (s : zSt) (t : Nat) (K : zK) : Prop := match st with
  | .inl n :: .inl dp :: .inr (.inl q1) :: .inl sp :: .inr (.inl q0) :: r => cond (Nat.ble r.length 4) (zAr sh q0 t (fun x => zAr sh q1 t (fun y => 0 ≤ sp ∧ 0 ≤ dp ∧ 0 ≤ n ∧ sp + n ≤ (x : Int) ∧ dp + n ≤ (y : Int) ∧ K lv r (zF s q1 (zCpF (s q0) (s q1) sp.toNat dp.toNat n.toNat))))) False
  | _ => False
def zMx (lv : zL) (st : List zV) (s : zSt) (f : Int → Int → Int) (K : zK) : Prop := match st with
  | .inl y :: .inl x :: r => cond (Nat.ble r.length 4) (K lv (.inl (f x y) :: r) s) False
  | _ => False
def zNat (sh : List zC) (lv : zL) (st : List zV) (s : zSt) (a : Nat) (K : zK) : Prop := match a with
  | 1 => zMx lv st s (fun x y => max x y) K
  | 2 => zMx lv st s (fun x y => min x y) K
  | 3 => zCp sh lv st s 0 K
  | 4 => zCp sh lv st s 1 K
  | _ => False
def zAnd (x y : Int) : Int := (Int32.ofInt x &&& Int32.ofInt y).toInt
def zOr (x y : Int) : Int := (Int32.ofInt x ||| Int32.ofInt y).toInt
def zXor (x y : Int) : Int := (Int32.ofInt x ^^^ Int32.ofInt y).toInt
def zShl (x y : Int) : Int := (Int32.ofInt x <<< (Int32.ofInt y &&& 31)).toInt
def zUsh (x y : Int) : Int := (((Int32.ofInt x).toUInt32 >>> ((Int32.ofInt y).toUInt32 &&& Int32.toUInt32 31)).toInt32).toInt
def zAndL (x y : Int) : Int := (Int64.ofInt x &&& Int64.ofInt y).toInt
def zOrL (x y : Int) : Int := (Int64.ofInt x ||| Int64.ofInt y).toInt
def zShlL (x y : Int) : Int := (Int64.ofInt x <<< ((Int32.ofInt y).toInt64 &&& 63)).toInt
def zBz (v : Int) : Int := zAnd v 1
def zS (sh : List zC) (ro : Nat → Option (List Int)) (i : Instr) (a b : Nat) (z : Int) (lv : zL) (st : List zV) (s : zSt) (K : zK) : Prop :=
  match i with
  | .iconst n => zPush (zRb n) (.inl n) lv st s K
  | .bipush n => zPush (zRb n) (.inl n) lv st s K
  | .sipush n => zPush (zRb n) (.inl n) lv st s K
  | .lconst n => zPush (Nat.ble n 1) (.inr (.inr ((n : Nat) : Int))) lv st s K
  | .ldc _ => zPush (zRb z) (.inl z) lv st s K
  | .ldc_w _ => zPush (zRb z) (.inl z) lv st s K
  | .ldc2_w _ => zPush (zRb64 z) (.inr (.inr z)) lv st s K
  | .iload_n k => zPi lv st s k K
  | .iload k => zPi lv st s k K
  | .lload_n k => zPl lv st s k K
  | .lload k => zPl lv st s k K
  | .aload_n k => zPa lv st s k K
  | .aload k => zPa lv st s k K
  | .istore_n k => zTi lv st s k K
  | .istore k => zTi lv st s k K
  | .astore_n k => zTa lv st s k K
  | .lstore k => zTl lv st s k K
  | .iinc k n => zInc lv st s k n K
  | .iadd => zI2 lv st s (fun x y => wr (x + y)) K
  | .isub => zI2 lv st s (fun x y => wr (x - y)) K
  | .imul => zI2 lv st s (fun x y => wr (x * y)) K
  | .iand => zI2 lv st s zAnd K
  | .ior => zI2 lv st s zOr K
  | .ixor => zI2 lv st s zXor K
  | .ishl => zI2 lv st s zShl K
  | .iushr => zI2 lv st s zUsh K
  | .idiv => zDiv lv st s (fun x y => wr (x.tdiv y)) K
  | .irem => zDiv lv st s (fun x y => wr (x.tmod y)) K
  | .ineg => zI1 lv st s (fun x => .inl (wr (-x))) K
  | .i2l => zI1 lv st s (fun x => .inr (.inr x)) K
  | .i2b => zI1 lv st s (fun x => .inl (w8 x)) K
  | .i2s => zI1 lv st s (fun x => .inl (w16 x)) K
  | .l2i => (match st with
    | .inr (.inr x) :: r => K lv (.inl (wr x) :: r) s
    | _ => False)
  | .ladd => zJ2 lv st s (fun x y => .inr (.inr (wl (x + y)))) K
  | .land => zJ2 lv st s (fun x y => .inr (.inr (zAndL x y))) K
  | .lor => zJ2 lv st s (fun x y => .inr (.inr (zOrL x y))) K
  | .lcmp => zJ2 lv st s (fun x y => .inl (if y < x then 1 else if x = y then 0 else -1)) K
  | .lshl => (match st with
    | .inl y :: .inr (.inr x) :: r => K lv (.inr (.inr (zShlL x y)) :: r) s
    | _ => False)
  | .dup => zDup lv st s K
  | .pop => zPop lv st s K
  | .dup2 => zDup2 lv st s K
  | .getfield _ => zGet sh lv st s a b K
  | .putfield _ => zPut sh lv st s a b z K
  | .getstatic _ => K lv (.inr (.inl a) :: st) s
  | .arraylength => zAl sh ro lv st s K
  | .iaload => zAi sh ro lv st s K
  | .baload => zAt sh lv st s a K
  | .saload => zAt sh lv st s 4 K
  | .laload => zAj sh lv st s K
  | .iastore => zBt sh lv st s 0 (fun x => x) K
  | .bastore => (match a with
    | 2 => zBt sh lv st s 2 w8 K
    | 3 => zBt sh lv st s 3 zBz K
    | _ => False)
  | .sastore => zBt sh lv st s 4 w16 K
  | .lastore => zBj sh lv st s K
  | .invokestatic _ => zNat sh lv st s a K
  | _ => False
def zCm (c : ClassFile.Cond) (x y : Int) : Prop := match c with
  | .eq => x = y
  | .ne => ¬ x = y
  | .lt => x < y
  | .ge => y ≤ x
  | .gt => y < x
  | .le => x ≤ y
def zCd (i : Instr) (st : List zV) (k : Prop → List zV → Prop) : Prop := match i with
  | .ifCond c _ => (match st with
    | .inl x :: r => k (zCm c x 0) r
    | _ => False)
  | .if_icmp c _ => (match st with
    | .inl y :: .inl x :: r => k (zCm c x y) r
    | _ => False)
  | _ => False
def zSw (k : Nat → Prop) (x : Int) (d : Nat) : List (Int32 × Nat) → Prop
  | [] => k d
  | q :: r => (x = q.1.toInt → k q.2) ∧ (¬ x = q.1.toInt → zSw k x d r)
def zRt (i : Instr) (a : Nat) (st : List zV) (s : zSt) (Q : zQ) : Prop := match i with
  | .ireturn => (match st with
    | [.inl x] => (match a with
      | 0 => Q (some (.inl x)) s
      | _ => (x = 0 ∨ x = 1) ∧ Q (some (.inl x)) s)
    | _ => False)
  | .lreturn => (match st with
    | [.inr (.inr x)] => Q (some (.inr (.inr x))) s
    | _ => False)
  | .return_ => (match st with
    | [] => Q none s
    | _ => False)
  | _ => False
abbrev zAp (r : Option zV) (st : List zV) : List zV := match r with
  | some v => v :: st
  | none => st
def zX (sh : List zC) (ro : Nat → Option (List Int)) (E : zEo) (J : zJo) : List kIt → zL → List zV → zSt → zQ → Prop
  | [], _, _, _, _ => False
  | (_, .inl (i, a, b, z)) :: is, lv, st, s, Q => zS sh ro i a b z lv st s (fun lv st s => zX sh ro E J is lv st s Q)
  | (_, .inr (i, k, a, b, sw)) :: is, lv, st, s, Q => match k with
    | 0 => zCd i st (fun c r => (c → J a lv r s Q) ∧ (¬ c → zX sh ro E J is lv r s Q))
    | 1 => J a lv st s Q
    | 2 => (match st with
      | .inl x :: r => zSw (fun t => J t lv r s Q) x a sw
      | _ => False)
    | 3 => zRt i a st s Q
    | 4 => cond (Nat.ble b st.length && Nat.ble (zCatS (st.drop b)) 8) (E a (st.take b).reverse s (fun r s' => zX sh ro E J is lv (zAp r (st.drop b)) s' Q)) False
    | _ => False
