/-! THE CLAIM OUT OF ONE WALK OF THE LAW'S BODY. Your part is whole_start (and what it stands on); all else here is the same for every law, but numbers. -/
def R_law : String := "PennyALapLaw"
def lw_P (b : Addr) (xs : List Int32) (args : Array Value) (s : State) : Prop := args = #[.ref b] ∧ s.IntsAt b xs ∧ xs.length ≤ 3072 ∧ (Jvm.Cond.and given_1 narrow_1).before args s = true
def lw_Q (_ : Array Value) (s : State) (o : Outcome) (t : State) : Prop := o = .returned (some (.int 1)) ∧ Framed s o t [] 600000 7302250
def lw_Z (below : List Frame) (a : Array Value) (s : State) : State → Prop := fun t => ∃ o, t.status = .running ∧ Ended t below o ∧ lw_Q a s o t
/-- the law's own end, with 1 on the stack, nothing written that was there before, its room as the claim has it -/
theorem lw_ret {p : Program} {l : Launch} {e : Env} {s : State} {m : MethodId} {below : List Frame} {meth : Method} {c : Code} {b : Nat} (hx : p.tables.exec = Jvm.exec) (hb : c.code = code) (hr : meth.sig.returnType = ret) (hlocks : meth.locks = false) {pc : Nat} {H : Heap} {ls : Array Slot} (hdg : decode code pc = .ok (.ireturn, 1)) : W p l e room_1 s m #[Value.ref b] below meth c H [] 600000 7302250 (lw_Z below #[Value.ref b] s) (F0 m pc ls [.int 1]) := by
  intro T hT X
  obtain ⟨fs, hret, hrun, hended, hW, hframe⟩ := X.leave (v := some (.int 1)) (hlocks := hlocks) (fun h => by rw [hr] at h; cases h)
  have hmeth' : T.vm.method? m = some meth := X.method'
  refine ⟨T.setFrames fs, ?_, .returned (some (.int 1)), hrun, hended, rfl, ⟨_, rfl⟩, hW, hframe⟩
  jvm_step X.here [X.here.top, hx, hb, hdg, hmeth', hr, ret, narrow_b1]
  (try refine ⟨rfl, ?_⟩); (try refine ⟨rfl, ?_⟩)
  first | (intro acts; rw [hret _ acts rfl rfl rfl]) | rw [hret _ _ rfl rfl rfl]
  exact Steps.refl _
/-- what holds at the law's entry: the machine, the code, the tables' words (any of lw_tbl by 'hts w (by decide +kernel)'), the script of L ints xs at the cell b, what the Statement gives of the start (any of its parts by flat_of_before) -/
def lw_At (p : Program) (s : State) (m : MethodId) (meth : Method) (c : Code) (b L : Nat) (xs : Nat → Int32) : Prop :=
  p.tables.exec = Jvm.exec ∧ c.code = code ∧ meth.sig.returnType = ret ∧ c.maxLocals = 4 ∧ s.vm.findClass R_law = some m.cls ∧ (∀ w ∈ lw_tbl, w.before #[Value.ref b] s = true) ∧ va_X b L xs s s.heap ∧ b < s.heap.size ∧ meth.locks = false ∧ (Jvm.Cond.and given_1 narrow_1).before #[Value.ref b] s = true
/-! MY PART: the walk to the law's loop, and the loop by the engine -/
def zAd (q1 q2 : Nat) (u1 u2 : Nat → Nat) (st : List Nat) : Nat → Nat := fun i => cond (Nat.blt i 42) (cAd q1 u1 i) (cond (Nat.beq i 42) q2 (cond (Nat.blt i 1000) (u2 (i - 43)) (st.getD (i - 1000) 0)))
set_option maxHeartbeats 8000000 in
set_option maxRecDepth 100000 in
theorem zAd_eq (tc : Nat → ClassId) (q1 q2 : Nat) (u1 u2 : Nat → Nat) (st : List Nat) : wC9 tc q1 u1 ++ wC10 tc q2 u2 = kW tc (zAd q1 q2 u1 u2 st) 0 (zH zS0 0 zSh) := rfl
def xOf (L : Nat) (xs : Nat → Int32) : List Int := (List.range L).map (fun j => (xs j).toInt)
theorem xOf_len (L : Nat) (xs : Nat → Int32) : (xOf L xs).length = L := by unfold xOf; rw [List.length_map, List.length_range]
theorem xOf_at {L j : Nat} (xs : Nat → Int32) (h : j < L) : (xOf L xs).getD j 0 = (xs j).toInt := by
  unfold xOf
  rw [List.getD_eq_getElem?_getD, List.getElem?_map, List.getElem?_range h]
  rfl
theorem xOf_scr (L : Nat) (xs : Nat → Int32) : zScr (xOf L xs) := by
  intro k
  by_cases h : k < L
  · rw [xOf_at xs h]
    have h1 := Int32.le_toInt (xs k)
    have h2 := Int32.toInt_lt (xs k)
    unfold zR
    omega
  · rw [List.getD_eq_getElem?_getD, List.getElem?_eq_none (by rw [xOf_len]; omega)]
    exact zR0
theorem kNok_of {s : State} {args : Array Value} {ns : List Jvm.Cond} (hts : ∀ w ∈ lw_tbl, w.before args s = true) (h1 : ∀ w ∈ ns, w ∈ lw_tbl) (h2 : ∀ w ∈ ns, (∃ a i b n d h, w = .fieldLinkNest a i b n d h) ∨ ∃ a i x h, w = .methodLinkNest a i x h) : kNok ns s := by
  intro w hw
  refine ⟨va_Nw.of ?_ (hts w (h1 w hw)), h2 w hw⟩
  rcases h2 w hw with ⟨a, i, b, n, d, h, rfl⟩ | ⟨a, i, x, h, rfl⟩ <;> rfl
theorem kRo_of {s : State} {A : Nat → Prop} {L : Nat} {xs : Nat → Int32} {b q1 q2 t0 t1 t2 t3 t4 : Nat} {u1 u2 : Nat → Nat} (hL : L ≤ 3072) (hX : va_X b L xs s s.heap) (hbA : ¬ A b)
    (T0 : va_T .int t0 zLEAST.length (fun j => .int (Int32.ofInt (zLEAST.getD j 0))) A s s.heap) (T1 : va_T .int t1 zMOST.length (fun j => .int (Int32.ofInt (zMOST.getD j 0))) A s s.heap) (T2 : va_T .int t2 zFIRST.length (fun j => .int (Int32.ofInt (zFIRST.getD j 0))) A s s.heap) (T3 : va_T .int t3 zABOVE.length (fun j => .int (Int32.ofInt (zABOVE.getD j 0))) A s s.heap) (T4 : va_T .int t4 zBODY.length (fun j => .int (Int32.ofInt (zBODY.getD j 0))) A s s.heap) :
    kRoOk (zro (zRo (xOf L xs))) (zAd q1 q2 u1 u2 [t0, t1, t2, t3, t4, b]) A s := by
  intro q y hy
  unfold zro zRo at hy
  cases hb : Nat.blt q 1000 with
  | true => rw [hb] at hy; cases hy
  | false =>
    rw [hb, cond_false] at hy
    have hq : 1000 ≤ q := by
      rcases Nat.lt_or_ge q 1000 with h | h
      · rw [show Nat.blt q 1000 = true from Nat.ble_eq.mpr h] at hb; cases hb
      · exact h
    obtain ⟨i, rfl⟩ : ∃ i, q = 1000 + i := ⟨q - 1000, by omega⟩
    rw [show 1000 + i - 1000 = i by omega] at hy
    have e : zAd q1 q2 u1 u2 [t0, t1, t2, t3, t4, b] (1000 + i) = [t0, t1, t2, t3, t4, b].getD i 0 := by
      unfold zAd
      rw [show Nat.blt (1000 + i) 42 = false from Bool.eq_false_iff.mpr (fun z => absurd (Nat.ble_eq.mp z) (by omega)), show Nat.beq (1000 + i) 42 = false from Bool.eq_false_iff.mpr (fun z => absurd (Nat.eq_of_beq_eq_true z) (by omega)), hb, show 1000 + i - 1000 = i by omega]
      rfl
    rw [e]
    clear e hb hq
    match i, hy with
    | 0, hy => cases hy; exact T0
    | 1, hy => cases hy; exact T1
    | 2, hy => cases hy; exact T2
    | 3, hy => cases hy; exact T3
    | 4, hy => cases hy; exact T4
    | 5, hy =>
      cases hy
      obtain ⟨scr, h1, h2, h3, h4, h5⟩ := hX
      refine ⟨scr, h1, h2, h3, ?_, ?_, fun j hj => ?_, hbA⟩
      · show (xOf L xs).length ≤ _
        rw [xOf_len, h4]; exact Nat.le_refl _
      · show _ = Int32.ofNat (xOf L xs).length
        rw [xOf_len, h4]
      · have hj' : j < L := by
          have : j < (xOf L xs).length := hj
          rwa [xOf_len] at this
        rw [h5 j hj']
        show _ = some (Value.int (Int32.ofInt ((xOf L xs).getD j 0)))
        rw [xOf_at xs hj', Int32.ofInt_toInt]
    | k + 6, hy => simp at hy
set_option maxHeartbeats 16000000 in
set_option maxRecDepth 100000 in
theorem whole_start {p : Program} {e : Env} {s : State} {m : MethodId} {below : List Frame} {meth : Method} {c : Code} (l : Launch) (hflags : l.flags = flags0) {b L : Nat} {xs : Nat → Int32} (hL : L ≤ 3072) (C0 : lw_At p s m meth c b L xs) : W p l e room_1 s m #[Value.ref b] below meth c s.heap [] 0 0 (lw_Z below #[Value.ref b] s) (entryFrame m ([Value.ref b] : List Value).toArray 4) := by
  obtain ⟨hx, hb, hr, hml, hown, hts0, hX, hbl, hlocks, hgv⟩ := id C0
  have hts : ∀ w ∈ kTbl, w.before #[Value.ref b] s = true := fun w q => hts0 w (kTbl_in w q)
  obtain ⟨A, hAe⟩ : ∃ A : Nat → Prop, A = fun q : Nat => s.heap.size ≤ q := ⟨_, rfl⟩
  have hA : ∀ q : Nat, s.heap.size ≤ q → A q := fun q h => by rw [hAe]; exact h
  have hAn : ∀ q : Nat, q < s.heap.size → ¬ A q := fun q h => by rw [hAe]; exact Nat.not_le.mpr h
  have hA2 : ∀ q : Nat, A q → s.heap.size ≤ q := fun q h => by rw [hAe] at h; exact h
  clear hAe
  obtain ⟨t0, z0, T0⟩ := cStat (A := A) "PennyALap" "LEAST" zLEAST (by decide) hgv (by decide +kernel) (by decide +kernel) (by decide +kernel) (hts0 _ cwS_LEAST) (hts _ cwN9) hAn
  obtain ⟨t1, z1, T1⟩ := cStat (A := A) "PennyALap" "MOST" zMOST (by decide) hgv (by decide +kernel) (by decide +kernel) (by decide +kernel) (hts0 _ cwS_MOST) (hts _ cwN9) hAn
  obtain ⟨t2, z2, T2⟩ := cStat (A := A) "PennyALap" "AT_FIRST" zFIRST (by decide) hgv (by decide +kernel) (by decide +kernel) (by decide +kernel) (hts0 _ cwS_AT_FIRST) (hts _ cwN9) hAn
  obtain ⟨t3, z3, T3⟩ := cStat (A := A) "PennyALap$Bodies" "ABOVE" zABOVE (by decide) hgv (by decide +kernel) (by decide +kernel) (by decide +kernel) (hts0 _ cwS_ABOVE) (hts _ cwN0) hAn
  obtain ⟨t4, z4, T4⟩ := cStat (A := A) "PennyALap$Bodies" "BODY_FOR" zBODY (by decide) hgv (by decide +kernel) (by decide +kernel) (by decide +kernel) (hts0 _ cwS_BODY_FOR) (hts _ cwN0) hAn
  obtain ⟨D, tc, hK⟩ := cK_of hts
  have X : cX p s m #[Value.ref b] meth c D tc t2 A RL cL_law 4 := ⟨hx, hb, hml, hts, hown, hK, ⟨z2, T2, kNok_of hts0 kNc_n kNc_n_k⟩, hA⟩
  have hS : va_S A s.heap s.heap [] := va_S.rf
  have hP : va_P D kCl [] s.heap := fun k q h => by simp at h
  have hD : va_D A [] := ⟨fun i j p q h => by simp at h, fun k q h => by simp at h⟩
  have hl := lv_entry ([.ref b]) (n := 4) (Nat.le_of_ble_eq_true rfl)
  rw [lg_entry_eq]
  generalize (lg_sl ([.ref b]) ++ List.replicate (4 - (lg_sl ([.ref b])).length) Slot.unset).toArray = ls at hl ⊢
  have hl : lv_has ls 4 [(0, .ref b)] := hl
  refine mk_new (ws := []) X kCk9 cwL_7 cwT9 cwN9 hP hD hS cF9_ok (k1 := 1) (n1 := 11) rfl rfl (Nat.le_of_ble_eq_true rfl) (Nat.le_of_ble_eq_true rfl) eL_0 eL_3 (fun q1 H hP hD hS => ?_)
  refine c_call (ws0 := []) (as := []) (rest := [.ref q1]) X (cc9 l D tc t2) cwC9 cwN9 cwI9 rfl cwD9 (.inl cwL_9) ⟨Nat.le_of_ble_eq_true rfl, Nat.le_of_ble_eq_true rfl⟩ hP hD hS (Nat.le_of_ble_eq_true rfl) hl.1 eL_4 (k1 := 42) (n1 := 4726) rfl rfl (Nat.le_of_ble_eq_true rfl) (Nat.le_of_ble_eq_true rfl) (fun u1 H locs hP hD hS => ?_)
  have hP : va_P D kCl (wC9 tc q1 u1) H := hP
  have hD : va_D A (wC9 tc q1 u1) := hD
  refine lv_astore_n (lv' := [(1, .ref q1), (0, .ref b)]) hx hb eL_7 rfl hl (by decide) rfl (fun ls hl => ?_)
  refine mk_new (ws := wC9 tc q1 u1) X kCk10 cwL_10 cwT10 cwN10 hP hD hS cF10_ok (k1 := 43) (n1 := 4785) rfl rfl (Nat.le_of_ble_eq_true rfl) (Nat.le_of_ble_eq_true rfl) eL_8 eL_11 (fun q2 H hP hD hS => ?_)
  refine c_call (ws0 := wC9 tc q1 u1) (as := []) (rest := [.ref q2]) X (cc10 l D tc t2) cwC10 cwN10 cwI10 rfl cwD10 (.inl cwL_12) ⟨Nat.le_of_ble_eq_true rfl, Nat.le_of_ble_eq_true rfl⟩ hP hD hS (Nat.le_of_ble_eq_true rfl) hl.1 eL_12 (k1 := 83) (n1 := 13002) rfl rfl (Nat.le_of_ble_eq_true rfl) (Nat.le_of_ble_eq_true rfl) (fun u2 H locs hP hD hS => ?_)
  refine lv_astore_n (lv' := [(2, .ref q2), (1, .ref q1), (0, .ref b)]) hx hb eL_15 rfl hl (by decide) rfl (fun ls hl => ?_)
  refine lv_iconst (v := Int32.ofInt 0) hx hb eL_16 rfl ?_
  refine lv_istore_n (lv' := [(3, .int (Int32.ofInt 0)), (2, .ref q2), (1, .ref q1), (0, .ref b)]) hx hb eL_17 rfl hl (by decide) rfl (fun ls hl => ?_)
  refine W.widen (k := 600000) (n := 7302250) (Nat.le_of_ble_eq_true rfl) (Nat.le_of_ble_eq_true rfl) ?_
  rw [zAd_eq tc q1 q2 u1 u2 [t0, t1, t2, t3, t4, b]] at hP hD
  have hl : lv_has ls 4 (kLl (zAd q1 q2 u1 u2 [t0, t1, t2, t3, t4, b]) 0 (zM [some (.inr (.inl 1005)), some (.inr (.inl 0)), some (.inr (.inl 42)), some (.inl ((0 : Nat) : Int))])) := lv_sub hl [3, 2, 1, 0] rfl
  have hxl : Nat.ble (xOf L xs).length 2147483647 = true := by rw [xOf_len]; exact Nat.ble_eq.mpr (by omega)
  have hx2 : ((xOf L xs).length : Int) ≤ 3072 := by rw [xOf_len]; omega
  obtain ⟨r, s', hrun, -, -, hq⟩ := lw_loop hxl hx2 L 0 zS0 (by rw [xOf_len]; omega) (by omega) zInv_0 (xOf_scr L xs) zS0_R (by
    intro v hv
    simp only [List.mem_cons, Option.some.injEq, List.not_mem_nil, or_false] at hv
    rcases hv with rfl | rfl | rfl | rfl
    · exact trivial
    · exact trivial
    · exact trivial
    · exact zR0) (by intro v hv; cases hv)
  have hq : r = some (.inl 1) := hq
  subst hq
  have hrun := kU_295 hrun
  refine kU_ok (M := (yL_law, cL_law, 4, some .boolean, 1, true, 0)) (mi := kMi_) (blk := kB5) (mm := 295) (d := 64) (tbl := kTbl) (Ts := kTbl) (zs := kZs) (D := D) (cl := kCl) (A := A) (tc := tc) (ad := zAd q1 q2 u1 u2 [t0, t1, t2, t3, t4, b]) (ro := zro (zRo (xOf L xs))) (st := []) hx hb hml hown hts (fun _ q => q) kGood hK (kRo_of hL hX (hAn b hbl) T0 T1 T2 T3 T4) ⟨?_, kNok_of hts0 kZs_n kZs_n_k⟩ hA ⟨Nat.le_of_ble_eq_true rfl, Nat.le_of_ble_eq_true rfl, Nat.le_refl _, Nat.le_refl _⟩ kMi_ok kB5_ok (kM_ok kGood kMi_ok (fun a M h => kBlk_ok a M h) kMx_ok 64) ?_ hrun rfl hl ⟨hP, hD, hS⟩
  · intro z hz
    simp only [kZs, List.mem_cons, List.not_mem_nil, or_false] at hz
    rcases hz with rfl | rfl | rfl | rfl | rfl
    · exact z0
    · exact z1
    · exact z2
    · exact z3
    · exact z4
  · intro i a pc st hp ls H locs hd hrk hrt hI
    cases i
    case ireturn =>
      simp only [kRt] at hrt
      split at hrt
      · rename_i x
        rcases hrk with ⟨y1, y2⟩ | ⟨y1, y2⟩
        · cases y2
        · subst y1
          rw [if_neg (by decide)] at hrt
          split at hrt
          · have hx1 : x = Int32.ofInt 1 := by
              have h0 := congrArg Prod.fst (Option.some.inj hrt)
              exact Value.int.inj (Option.some.inj h0)
            subst hx1
            exact va_forget (fun q h => hA2 _ (hI.2.2.2.2 q h)) (lw_ret hx hb hr hlocks hd)
          · cases hrt
      · cases hrt
    case lreturn => exact absurd hrk (by intro z; cases z)
    case return_ => exact absurd hrk (by intro z; cases z)
    all_goals exact hrk.elim
