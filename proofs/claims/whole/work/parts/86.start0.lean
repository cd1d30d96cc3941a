/-! THE START: what the store holds then; the law's blocks but its first; statics; classes -/
theorem zS0_R : zSok zSh zS0 := by
  have h : ∀ q j, -1 ≤ zS0 q j ∧ zS0 q j ≤ 13 := by
    intro q j
    unfold zS0
    cases Nat.beq q 16 <;> cases Nat.beq q 1 <;> cases Nat.beq q 38 <;> cases Nat.beq q 79 <;> cases Nat.beq q 42 <;> simp only [cond_true, cond_false] <;> (repeat' split) <;> omega
  intro q j
  have := h q j
  refine ⟨fun _ => ?_, fun _ => ?_⟩
  · unfold zR64; omega
  · unfold zR; omega
theorem zInv_0 : zInv zS0 := by
  have e1 : zS0 2 3 = 0 := rfl
  have e2 : zS0 2 4 = 0 := rfl
  have e3 : zS0 9 1 = 0 := rfl
  have e4 : zS0 9 3 = 0 := rfl
  have e5 : zS0 3 4 = 0 := rfl
  have e6 : zS0 1 1 = 0 := rfl
  refine ⟨⟨⟨⟨by decide, by decide⟩, ⟨by decide, by decide⟩, rfl, rfl⟩, ?_, ?_⟩, ⟨.inl ⟨rfl, rfl⟩, .inl ⟨rfl, rfl⟩⟩, ⟨rfl, ?_⟩, ⟨rfl, ⟨by decide, by decide⟩, ?_⟩, ⟨rfl, ⟨by decide, by decide⟩, ?_⟩, ⟨fun _ _ => ⟨rfl, rfl⟩, fun _ _ => rfl, rfl, rfl, rfl, rfl, rfl⟩, ⟨fun _ _ => ⟨rfl, rfl⟩, fun _ _ => rfl, ⟨rfl, rfl, rfl, rfl, rfl⟩, rfl⟩, ⟨⟨rfl, by decide, by decide, by decide, rfl⟩, ?_⟩, ⟨rfl, ⟨by decide, by decide⟩, ?_⟩, fun _ _ => rfl⟩
  · intro w n h
    rw [e1, e2] at h
    rcases h with ⟨_, _, h1, h2⟩ | ⟨_, _, h1, h2⟩ | ⟨h1, h2, h3⟩
    · omega
    · omega
    · subst h3
      rcases (show w = 9 ∨ w = 10 ∨ w = 11 ∨ w = 12 by omega) with rfl | rfl | rfl | rfl <;> exact ⟨by decide, by decide, by decide⟩
  · intro p hp
    omega
  · intro i hi
    have h1 : zS0 38 i = 6 := if_pos hi
    have h2 : zS0 79 i = -1 := if_pos hi
    rw [h1, h2]
    exact ⟨⟨by decide, by decide⟩, fun _ => rfl, fun z => absurd z (by decide), fun z => absurd z (by decide)⟩
  · intro k hk
    omega
  · intro k hk
    omega
  · intro k hk
    omega
  · intro k hk
    omega
def kB5 (m t : Nat) : List kIt := if t = 0 then [] else kBlk m t
theorem kB5_ok : ∀ t, kOk kTbl kCl kZs kMi_ (yL_law, cL_law, 4, some .boolean, 1, true, 0) t (kB5 295 t) := by
  intro t
  unfold kB5
  split
  · exact True.intro
  · rename_i ht
    have h := kBok_of (M := (yL_law, cL_law, 4, some .boolean, 1, true, 0)) (c := c295.tail) rfl kTb11_ok kc295 t
    have e : kBlk 295 t = kLook t c295.tail := by
      rw [kBlk, kb_295]
      exact if_neg (fun z => ht z.symm)
    rw [e]
    exact h
theorem kU_295 {ro : kRo} {E : kEo} {l : Nat} {lv : kL} {st : List Value} {hp : kH} {r : kR} (h : kU ro kBlk E 295 l lv st hp = some r) : kU ro kB5 E 295 l lv st hp = some r := by
  obtain ⟨n, hn⟩ := kU_iff.mp h
  refine kU_iff.mpr ⟨n, ?_⟩
  clear h
  induction n generalizing l lv st hp r with
  | zero => cases hn
  | succ n ih =>
    have hn1 : kX ro E (kG ro kBlk E 295 n) (kBlk 295 l) lv st hp = some r := hn
    show kX ro E (kG ro kB5 E 295 n) (kB5 295 l) lv st hp = some r
    by_cases hl : l = 0
    · subst hl
      have hb : kBlk 295 0 = b295_0 := by rw [kBlk, kb_295]; rfl
      rw [hb] at hn1
      have h0 : kX ro E (kG ro kBlk E 295 n) b295_0 lv st hp = none := rfl
      rw [h0] at hn1
      cases hn1
    · have hb : kB5 295 l = kBlk 295 l := if_neg hl
      rw [hb]
      exact kX_mono (fun _ _ _ _ h => h) (fun t lv st hp r h => ih h) _ _ _ _ _ hn1
theorem cArr {s : State} {args : Array Value} {ty : FieldType} (hpr : ∀ C, ty ≠ .object C) (h : (Jvm.Cond.arrayClass ty).before args s = true) : ∃ cA, ArrOfT s cA ty ∧ va_RA s cA ty := by
  obtain ⟨cA, kA, comp, h1, h2, h3⟩ := Cond.arrayClass_spec h
  refine ⟨cA, fun n z => ⟨fun k h => (by cases h), kA, h2, comp, h3⟩, ?_⟩
  cases ty <;> first | exact absurd rfl (hpr _) | exact h1
theorem cInst : ∀ (k : Nat) (q : vw_C), kCl[k]? = some q → Jvm.Cond.instantiable q.1 q.2.2 ∈ kTbl := by
  intro k q hq
  match k, hq with
  | 0, hq => cases hq; exact cwT0
  | 1, hq => cases hq; exact cwT1
  | 2, hq => cases hq; exact cwT2
  | 3, hq => cases hq; exact cwT3
  | 4, hq => cases hq; exact cwT4
  | 5, hq => cases hq; exact cwT5
  | 6, hq => cases hq; exact cwT6
  | 7, hq => cases hq; exact cwT7
  | 8, hq => cases hq; exact cwT8
  | 9, hq => cases hq; exact cwT9
  | 10, hq => cases hq; exact cwT10
  | k + 11, hq => simp [kCl] at hq
theorem cK_of {s : State} {args : Array Value} (hts : ∀ w ∈ kTbl, w.before args s = true) : ∃ (D : va_G) (tc : Nat → ClassId), va_K D kCl (kTy tc) s := by
  have h1 : ∀ k : Nat, ∃ (dc : ClassId) (di : Nat → Nat), ∀ q : vw_C, kCl[k]? = some q → u_Kn s q.1 q.2.1 q.2.2 dc di := by
    intro k
    cases hk : kCl[k]? with
    | none => exact ⟨0, fun _ => 0, fun q h => by cases h⟩
    | some q =>
      obtain ⟨dc, di, h⟩ := u_known (n := q.2.2) hts (kCl_ok k q hk) (hts _ (cInst k q hk))
      exact ⟨dc, di, fun q' h' => by cases h'; exact h⟩
  obtain ⟨c0, a0⟩ := cArr (ty := .int) (fun _ h => by cases h) (hts _ cwA_int)
  obtain ⟨c1, a1⟩ := cArr (ty := .long) (fun _ h => by cases h) (hts _ cwA_long)
  obtain ⟨c2, a2⟩ := cArr (ty := .byte) (fun _ h => by cases h) (hts _ cwA_byte)
  obtain ⟨c3, a3⟩ := cArr (ty := .boolean) (fun _ h => by cases h) (hts _ cwA_boolean)
  obtain ⟨c4, a4⟩ := cArr (ty := .short) (fun _ h => by cases h) (hts _ cwA_short)
  refine ⟨(fun k => Classical.choose (h1 k), fun k => Classical.choose (Classical.choose_spec (h1 k))), fun t => [c0, c1, c2, c3, c4].getD t 0, fun k q hq => Classical.choose_spec (Classical.choose_spec (h1 k)) q hq, fun k q hq => ?_⟩
  match k, hq with
  | 0, hq => cases hq; exact a0
  | 1, hq => cases hq; exact a1
  | 2, hq => cases hq; exact a2
  | 3, hq => cases hq; exact a3
  | 4, hq => cases hq; exact a4
  | k + 5, hq => simp [kTy] at hq
theorem cStat {s : State} {args : Array Value} {A : Nat → Prop} (C n : String) (v : List Int) (hN : v.length < 2 ^ 31) (hgv : (Jvm.Cond.and given_1 narrow_1).before args s = true) (harr : Jvm.Cond.arrayOf (.static C n "[I") .int ∈ flatC (Jvm.Cond.and given_1 narrow_1)) (hlen : Jvm.Cond.eq (.length (.static C n "[I")) (.int (Int32.ofNat v.length)) ∈ flatC (Jvm.Cond.and given_1 narrow_1)) (hel : ∀ j, j < v.length → Jvm.Cond.eq (.elem (.static C n "[I") (.int (Int32.ofNat j))) (.int (Int32.ofInt (v.getD j 0))) ∈ flatC (Jvm.Cond.and given_1 narrow_1))
    (hl : (Jvm.Cond.laysStatic C n "[I").before args s = true) (hini : (Jvm.Cond.initialized C).before args s = true) (hA : ∀ a : Nat, a < s.heap.size → ¬ A a) : ∃ t : Nat, va_Z C n "[I" (.ref t) A s s.heap ∧ va_T .int t v.length (fun j => .int (Int32.ofInt (v.getD j 0))) A s s.heap := by
  have hs := flat_of_before _ hgv
  obtain ⟨t, ht, hT⟩ := va_Tof (f := fun j => .int (Int32.ofInt (v.getD j 0))) (A := A) hN (hs _ harr) (va_eqt (hs _ hlen)) (fun j hj => va_eqt (hs _ (hel j hj))) hA
  exact ⟨t, va_Zref hl hini ht hA, hT⟩
theorem cKtr {x : List Int} (q i : Nat) (hq : q < 1000) : zRo x q = none := by
  unfold zRo
  rw [show Nat.blt q 1000 = true from Nat.ble_eq.mpr hq]
  rfl
