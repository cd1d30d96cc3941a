/-! THE STORE, sound: what must hold ahead of a block makes the engine run, and the store moves as told -/
theorem zSl_len (f : Nat → Int) : ∀ (ss : List (Option (Option Nat))) (b : Nat), (zSl f b ss).length = ss.length
  | [], _ => rfl
  | _ :: r, b => by simp only [zSl, List.length_cons, zSl_len f r]
theorem zSl_get (f : Nat → Int) : ∀ (ss : List (Option (Option Nat))) (b0 b : Nat), (zSl f b0 ss)[b]? = (ss[b]?).map (zSv f (b0 + b))
  | [], b0, b => by simp [zSl]
  | c :: r, b0, 0 => by simp [zSl]
  | c :: r, b0, b + 1 => by
    have h := zSl_get f r (b0 + 1) b
    simp only [zSl, List.getElem?_cons_succ, h]
    rw [show b0 + 1 + b = b0 + (b + 1) by omega]
theorem zSl_put {f f' : Nat → Int} {ss : List (Option (Option Nat))} {b : Nat} {t : Option (Option Nat)} (hc : ss[b]? = some t) (h : ∀ b', b' ≠ b → f' b' = f b') : (zSl f 0 ss).set b (zSv f' b t) = zSl f' 0 ss := by
  apply List.ext_getElem?
  intro i
  rw [zSl_get, Nat.zero_add]
  by_cases hi : b = i
  · subst hi
    rw [List.getElem?_set_self (by rw [zSl_len]; exact (List.getElem?_eq_some_iff.mp hc).1), hc]; rfl
  · rw [List.getElem?_set_ne hi, zSl_get, Nat.zero_add]
    cases hs : ss[i]? with
    | none => rfl
    | some t' =>
      have := h i (fun e => hi e.symm)
      rcases t' with _ | _ | q
      · show some (Value.int (Int32.ofInt (f i))) = some (Value.int (Int32.ofInt (f' i))); rw [this]
      · show some (Value.ref (f i).toNat) = some (Value.ref (f' i).toNat); rw [this]
      · rfl
theorem zM_get (lv : zL) (i : Nat) : (zM lv)[i]? = (lv[i]?).map (fun o => o.map zv) := by unfold zM; rw [List.getElem?_map]
theorem zM_set (lv : zL) (i : Nat) (o : Option zV) : (zM lv).set i (o.map zv) = zM (lv.set i o) := by unfold zM; rw [List.map_set]
theorem zM_len (lv : zL) : (zM lv).length = lv.length := by unfold zM; rw [List.length_map]
theorem zLd_ok {lv : zL} {i : Nat} {v : zV} (h : zLd lv i = some v) : kLd (zM lv) i = some (zv v) ∧ some v ∈ lv := by
  unfold zLd at h
  split at h
  · rename_i w hw
    cases h
    refine ⟨?_, List.mem_of_getElem? hw⟩
    unfold kLd
    rw [zM_get, hw]; rfl
  · cases h
theorem zClr_ok (lv : zL) (i : Nat) : kClr (zM lv) i = zM (zClr lv i) := by
  cases i with
  | zero => rfl
  | succ j =>
    unfold kClr zClr
    dsimp only
    rw [zM_get]
    cases h : lv[j]? with
    | none => rfl
    | some o =>
      rcases o with _ | x | q | x
      · rfl
      · rfl
      · rfl
      · exact zM_set lv j none
theorem zClr_in {lv : zL} {i : Nat} {v : zV} (h : some v ∈ zClr lv i) : some v ∈ lv := by
  unfold zClr at h
  split at h
  · exact h
  · split at h
    · rcases List.mem_or_eq_of_mem_set h with h | h
      · exact h
      · cases h
    · exact h
theorem zTok.hd {v : zV} {r : List zV} (h : zTok (v :: r)) : zVok v := h v List.mem_cons_self
theorem zTok.tl {v : zV} {r : List zV} (h : zTok (v :: r)) : zTok r := fun w hw => h w (List.mem_cons_of_mem _ hw)
theorem zTok.mk {v : zV} {r : List zV} (h1 : zVok v) (h2 : zTok r) : zTok (v :: r) := fun w hw => (List.mem_cons.mp hw).elim (fun e => e ▸ h1) (h2 w)
theorem zTok_nil : zTok [] := fun _ h => by cases h
theorem zSt1_ok {lv : zL} {i : Nat} {v : zV} (hl : zLok lv) (hv : zVok v) : zLok (zSt1 lv i v) := by
  intro w hw
  rcases List.mem_or_eq_of_mem_set hw with h | h
  · exact hl w (zClr_in h)
  · cases h; exact hv
theorem zSt2_ok {lv : zL} {i : Nat} {v : zV} (hl : zLok lv) (hv : zVok v) : zLok (zSt2 lv i v) := by
  intro w hw
  rcases List.mem_or_eq_of_mem_set hw with h | h
  · exact zSt1_ok hl hv w h
  · cases h
theorem zSt1_map (lv : zL) (i : Nat) (v : zV) : kSt1 (zM lv) i (zv v) = zM (zSt1 lv i v) := by
  unfold kSt1 zSt1
  rw [zClr_ok]
  exact zM_set _ i (some v)
theorem zSt2_map (lv : zL) (i : Nat) (v : zV) : kSt2 (zM lv) i (zv v) = zM (zSt2 lv i v) := by
  have h := zSt1_map lv i v
  unfold kSt1 at h
  unfold kSt2 zSt2
  rw [h]
  exact zM_set _ (i + 1) none
theorem zSok_U {sh : List zC} {s : zSt} {q k : Nat} {v : Int} (hs : zSok sh s) (hv : (zLong sh q = true → zR64 v) ∧ (zLong sh q = false → zR v)) : zSok sh (zU s q k v) := by
  intro q' j
  by_cases hq : q' = q
  · subst hq
    rw [zU_at]
    dsimp only
    split
    · exact hv
    · exact hs q' j
  · rw [zU_ne hq]
    exact hs q' j
def zOut (sh : List zC) (o : Option (kL × List Value × kH)) (K : zK) : Prop := ∃ lv st s, o = some (zM lv, st.map zv, zH s 0 sh) ∧ K lv st s ∧ zSok sh s ∧ zLok lv ∧ zTok st
section ZSnd
variable {sh : List zC} {ro : Nat → Option (List Int)} {lv : zL} {st : List zV} {s : zSt} {K : zK}
theorem zPush_ok {b : Bool} {v : zV} (hb : b = true → zVok v) (h : zPush b v lv st s K) (hs : zSok sh s) (hl : zLok lv) (ht : zTok st) : zOut sh (some (zM lv, zv v :: st.map zv, zH s 0 sh)) K := by
  unfold zPush at h
  cases b with
  | false => exact h.elim
  | true => exact ⟨lv, v :: st, s, rfl, h, hs, hl, ht.mk (hb rfl)⟩
theorem zPi_ok {i : Nat} (h : zPi lv st s i K) (hs : zSok sh s) (hl : zLok lv) (ht : zTok st) : zOut sh (kPi (zM lv) (st.map zv) (zH s 0 sh) i) K := by
  unfold zPi at h
  split at h
  · rename_i x hx
    obtain ⟨h1, h2⟩ := zLd_ok hx
    unfold kPi
    rw [h1]
    exact ⟨lv, .inl x :: st, s, rfl, h, hs, hl, ht.mk (hl _ h2)⟩
  · exact h.elim
theorem zPl_ok {i : Nat} (h : zPl lv st s i K) (hs : zSok sh s) (hl : zLok lv) (ht : zTok st) : zOut sh (kPl (zM lv) (st.map zv) (zH s 0 sh) i) K := by
  unfold zPl at h
  split at h
  · rename_i x hx
    obtain ⟨h1, h2⟩ := zLd_ok hx
    unfold kPl
    rw [h1]
    exact ⟨lv, .inr (.inr x) :: st, s, rfl, h, hs, hl, ht.mk (hl _ h2)⟩
  · exact h.elim
theorem zPa_ok {i : Nat} (h : zPa lv st s i K) (hs : zSok sh s) (hl : zLok lv) (ht : zTok st) : zOut sh (kPa (zM lv) (st.map zv) (zH s 0 sh) i) K := by
  unfold zPa at h
  split at h
  · rename_i x hx
    obtain ⟨h1, h2⟩ := zLd_ok hx
    unfold kPa
    rw [h1]
    exact ⟨lv, .inr (.inl x) :: st, s, rfl, h, hs, hl, ht.mk (hl _ h2)⟩
  · exact h.elim
theorem z_blt {a b : Nat} (h : Nat.blt a b = true) : a < b := Nat.le_of_ble_eq_true h
theorem zTi_ok {i : Nat} (h : zTi lv st s i K) (hs : zSok sh s) (hl : zLok lv) (ht : zTok st) : zOut sh (kTi (zM lv) (st.map zv) (zH s 0 sh) i) K := by
  unfold zTi at h
  split at h
  · rename_i x r
    cases hb : Nat.blt i lv.length with
    | false => rw [hb] at h; exact h.elim
    | true =>
      rw [hb] at h
      refine ⟨zSt1 lv i (.inl x), r, s, ?_, h, hs, zSt1_ok hl ht.hd, ht.tl⟩
      show (if i < (zM lv).length then some (kSt1 (zM lv) i (zv (.inl x)), r.map zv, zH s 0 sh) else none) = _
      rw [zM_len, if_pos (z_blt hb), zSt1_map]
  · exact h.elim
theorem zTa_ok {i : Nat} (h : zTa lv st s i K) (hs : zSok sh s) (hl : zLok lv) (ht : zTok st) : zOut sh (kTa (zM lv) (st.map zv) (zH s 0 sh) i) K := by
  unfold zTa at h
  split at h
  · rename_i x r
    cases hb : Nat.blt i lv.length with
    | false => rw [hb] at h; exact h.elim
    | true =>
      rw [hb] at h
      refine ⟨zSt1 lv i (.inr (.inl x)), r, s, ?_, h, hs, zSt1_ok hl ht.hd, ht.tl⟩
      show (if i < (zM lv).length then some (kSt1 (zM lv) i (zv (.inr (.inl x))), r.map zv, zH s 0 sh) else none) = _
      rw [zM_len, if_pos (z_blt hb), zSt1_map]
  · exact h.elim
theorem zTl_ok {i : Nat} (h : zTl lv st s i K) (hs : zSok sh s) (hl : zLok lv) (ht : zTok st) : zOut sh (kTl (zM lv) (st.map zv) (zH s 0 sh) i) K := by
  unfold zTl at h
  split at h
  · rename_i x r
    cases hb : Nat.blt (i + 1) lv.length with
    | false => rw [hb] at h; exact h.elim
    | true =>
      rw [hb] at h
      refine ⟨zSt2 lv i (.inr (.inr x)), r, s, ?_, h, hs, zSt2_ok hl ht.hd, ht.tl⟩
      show (if i + 1 < (zM lv).length then some (kSt2 (zM lv) i (zv (.inr (.inr x))), r.map zv, zH s 0 sh) else none) = _
      rw [zM_len, if_pos (z_blt hb), zSt2_map]
  · exact h.elim
theorem zInc_ok {i : Nat} {n : Int} (h : zInc lv st s i n K) (hs : zSok sh s) (hl : zLok lv) (ht : zTok st) : zOut sh (kInc (zM lv) (st.map zv) (zH s 0 sh) i n) K := by
  unfold zInc at h
  split at h
  · rename_i x hx
    obtain ⟨h1, h2⟩ := zLd_ok hx
    unfold kInc
    rw [h1]
    refine ⟨zSt1 lv i (.inl (wr (x + n))), st, s, ?_, h, hs, zSt1_ok hl (wr_R _), ht⟩
    rw [← zSt1_map]
    show some (kSt1 (zM lv) i (.int (Int32.ofInt x + Int32.ofInt n)), _, _) = some (kSt1 (zM lv) i (.int (Int32.ofInt (wr (x + n)))), _, _)
    rw [zof_wr, Int32.ofInt_add]
  · exact h.elim
theorem zI1_ok {f : Int → zV} {g : Int32 → Value} (hg : ∀ x, zR x → g (Int32.ofInt x) = zv (f x) ∧ zVok (f x)) (h : zI1 lv st s f K) (hs : zSok sh s) (hl : zLok lv) (ht : zTok st) : zOut sh (kSi (zM lv) (zH s 0 sh) (kI1 (st.map zv) g)) K := by
  unfold zI1 at h
  split at h
  · rename_i x r
    obtain ⟨h1, h2⟩ := hg x ht.hd
    refine ⟨lv, f x :: r, s, ?_, h, hs, hl, ht.tl.mk h2⟩
    show some (zM lv, g (Int32.ofInt x) :: r.map zv, zH s 0 sh) = _
    rw [h1]; rfl
  · exact h.elim
theorem zI2_ok {f : Int → Int → Int} {g : Int32 → Int32 → Value} (hg : ∀ x y, zR x → zR y → g (Int32.ofInt x) (Int32.ofInt y) = .int (Int32.ofInt (f x y)) ∧ zR (f x y)) (h : zI2 lv st s f K) (hs : zSok sh s) (hl : zLok lv) (ht : zTok st) : zOut sh (kSi (zM lv) (zH s 0 sh) (kI2 (st.map zv) g)) K := by
  unfold zI2 at h
  split at h
  · rename_i y x r
    obtain ⟨h1, h2⟩ := hg x y ht.tl.hd ht.hd
    refine ⟨lv, .inl (f x y) :: r, s, ?_, h, hs, hl, ht.tl.tl.mk h2⟩
    show some (zM lv, g (Int32.ofInt x) (Int32.ofInt y) :: r.map zv, zH s 0 sh) = _
    rw [h1]; rfl
  · exact h.elim
theorem zJ2_ok {f : Int → Int → zV} {g : Int64 → Int64 → Value} (hg : ∀ x y, zR64 x → zR64 y → g (Int64.ofInt x) (Int64.ofInt y) = zv (f x y) ∧ zVok (f x y)) (h : zJ2 lv st s f K) (hs : zSok sh s) (hl : zLok lv) (ht : zTok st) : zOut sh (kSi (zM lv) (zH s 0 sh) (kJ2 (st.map zv) g)) K := by
  unfold zJ2 at h
  split at h
  · rename_i y x r
    obtain ⟨h1, h2⟩ := hg x y ht.tl.hd ht.hd
    refine ⟨lv, f x y :: r, s, ?_, h, hs, hl, ht.tl.tl.mk h2⟩
    show some (zM lv, g (Int64.ofInt x) (Int64.ofInt y) :: r.map zv, zH s 0 sh) = _
    rw [h1]; rfl
  · exact h.elim
theorem zDiv_ok {f : Int → Int → Int} {g : Int32 → Int32 → Int32} (hg : ∀ x y, zR x → zR y → g (Int32.ofInt x) (Int32.ofInt y) = Int32.ofInt (f x y) ∧ zR (f x y)) (h : zDiv lv st s f K) (hs : zSok sh s) (hl : zLok lv) (ht : zTok st) : zOut sh (kDiv (zM lv) (st.map zv) (zH s 0 sh) g) K := by
  unfold zDiv at h
  split at h
  · rename_i y x r
    split at h
    · exact h.elim
    · rename_i hy
      obtain ⟨h1, h2⟩ := hg x y ht.tl.hd ht.hd
      refine ⟨lv, .inl (f x y) :: r, s, ?_, h, hs, hl, ht.tl.tl.mk h2⟩
      show (if Int32.ofInt y = 0 then none else some (zM lv, Value.int (g (Int32.ofInt x) (Int32.ofInt y)) :: r.map zv, zH s 0 sh)) = _
      rw [if_neg (show ¬ Int32.ofInt y = 0 from fun e => hy ((z_eq ht.hd zR0).mp e)), h1]; rfl
  · exact h.elim
theorem zCat_ok {v : zV} (h : zCat v = true) : (zv v).category = 1 := by
  rcases v with x | q | x
  · rfl
  · rfl
  · cases h
theorem zDup_ok (h : zDup lv st s K) (hs : zSok sh s) (hl : zLok lv) (ht : zTok st) : zOut sh (kDup (zM lv) (st.map zv) (zH s 0 sh)) K := by
  unfold zDup at h
  split at h
  · rename_i v r
    cases hb : zCat v with
    | false => rw [hb] at h; exact h.elim
    | true =>
      rw [hb] at h
      refine ⟨lv, v :: v :: r, s, ?_, h, hs, hl, ht.mk ht.hd⟩
      show (if (zv v).category = 1 then _ else none) = _
      rw [if_pos (zCat_ok hb)]; rfl
  · exact h.elim
theorem zPop_ok (h : zPop lv st s K) (hs : zSok sh s) (hl : zLok lv) (ht : zTok st) : zOut sh (kPop (zM lv) (st.map zv) (zH s 0 sh)) K := by
  unfold zPop at h
  split at h
  · rename_i v r
    cases hb : zCat v with
    | false => rw [hb] at h; exact h.elim
    | true =>
      rw [hb] at h
      refine ⟨lv, r, s, ?_, h, hs, hl, ht.tl⟩
      show (if (zv v).category = 1 then _ else none) = _
      rw [if_pos (zCat_ok hb)]
  · exact h.elim
theorem zDup2_ok (h : zDup2 lv st s K) (hs : zSok sh s) (hl : zLok lv) (ht : zTok st) : zOut sh (kDup2 (zM lv) (st.map zv) (zH s 0 sh)) K := by
  unfold zDup2 at h
  split at h
  · rename_i v w r
    cases hb : zCat v && zCat w with
    | false => rw [hb] at h; exact h.elim
    | true =>
      rw [hb] at h
      obtain ⟨h1, h2⟩ := Bool.and_eq_true_iff.mp hb
      refine ⟨lv, v :: w :: v :: w :: r, s, ?_, h, hs, hl, (ht.mk ht.tl.hd).mk ht.hd⟩
      show (if (zv v).category = 1 ∧ (zv w).category = 1 then _ else none) = _
      rw [if_pos ⟨zCat_ok h1, zCat_ok h2⟩]; rfl
  · exact h.elim
theorem zOb_ok {q a b : Nat} {k : Option (Option Nat) → Prop} (h : zOb sh q a b k) : ∃ ss t, sh[q]? = some (.inr (a, ss)) ∧ ss[b]? = some t ∧ k t := by
  unfold zOb at h
  split at h
  · rename_i o ho
    cases hb : Nat.beq o.1 a with
    | false => rw [hb] at h; exact h.elim
    | true =>
      rw [hb] at h
      have ha : o.1 = a := Nat.eq_of_beq_eq_true hb
      dsimp only [cond] at h
      split at h
      · rename_i t ht
        exact ⟨o.2, t, by rw [ho, ← ha], ht, h⟩
      · exact h.elim
  · exact h.elim
theorem zLong_ob {q : Nat} {o : Nat × List (Option (Option Nat))} (h : sh[q]? = some (.inr o)) : zLong sh q = false := by unfold zLong; rw [h]
theorem zLong_ar {q t n : Nat} (h : sh[q]? = some (.inl (t, n))) : zLong sh q = Nat.beq t 1 := by unfold zLong; rw [h]
theorem kObj_zH {q a : Nat} {ss : List (Option (Option Nat))} (h : sh[q]? = some (.inr (a, ss))) : kObj (zH s 0 sh) q a = some (zSl (s q) 0 ss) := by
  unfold kObj
  rw [zH_at h]
  show (if a = a then _ else none) = _
  rw [if_pos rfl]
theorem zGet_ok {a b : Nat} (h : zGet sh lv st s a b K) (hs : zSok sh s) (hl : zLok lv) (ht : zTok st) : zOut sh (kGet (zM lv) (st.map zv) (zH s 0 sh) a b) K := by
  unfold zGet at h
  split at h
  · rename_i q r
    obtain ⟨ss, t, h1, h2, h3⟩ := zOb_ok h
    have hk : ∀ v : Value, zSv (s q) b t = v → kGet (zM lv) (List.map zv (.inr (.inl q) :: r)) (zH s 0 sh) a b = some (zM lv, v :: r.map zv, zH s 0 sh) := by
      intro v hv
      show (match kObj (zH s 0 sh) q a with
        | some fs => match fs[b]? with
          | some v => some (zM lv, v :: r.map zv, zH s 0 sh)
          | none => none
        | none => none) = _
      rw [kObj_zH h1]
      dsimp only
      rw [zSl_get, h2, Nat.zero_add, Option.map_some, hv]
    rcases t with _ | _ | x
    · exact ⟨lv, .inl (s q b) :: r, s, hk _ rfl, h3, hs, hl, ht.tl.mk ((hs q b).2 (zLong_ob h1))⟩
    · exact ⟨lv, .inr (.inl (s q b).toNat) :: r, s, hk _ rfl, h3, hs, hl, ht.tl.mk trivial⟩
    · exact ⟨lv, .inr (.inl x) :: r, s, hk _ rfl, h3, hs, hl, ht.tl.mk trivial⟩
  · exact h.elim
theorem kPut_zH {q a b : Nat} {z : Int} {r : List zV} {v : Value} {x : Int} {ss : List (Option (Option Nat))} {t : Option (Option Nat)} (h1 : sh[q]? = some (.inr (a, ss))) (h2 : ss[b]? = some t) (hf : kFit z v = true) (hv : zSv (fun k => if k = b then x else s q k) b t = v) :
    kPut (zM lv) (v :: List.map zv (.inr (.inl q) :: r)) (zH s 0 sh) a b z = some (zM lv, r.map zv, zH (zU s q b x) 0 sh) := by
  show (match kObj (zH s 0 sh) q a with
    | some fs => if b < fs.length ∧ kFit z v = true then some (zM lv, r.map zv, (zH s 0 sh).set q (.inr (a, fs.set b v))) else none
    | none => none) = _
  rw [kObj_zH h1]
  dsimp only
  rw [if_pos ⟨by rw [zSl_len]; exact (List.getElem?_eq_some_iff.mp h2).1, hf⟩, ← hv, zSl_put h2 (fun b' hb => if_neg hb)]
  have h5 := zH_put (s := s) (s' := zU s q b x) h1 (fun q' hq => zU_ne hq s b x)
  rw [zU_at] at h5
  rw [← h5]
  rfl
theorem zPut_ok {a b : Nat} {z : Int} (h : zPut sh lv st s a b z K) (hs : zSok sh s) (hl : zLok lv) (ht : zTok st) : zOut sh (kPut (zM lv) (st.map zv) (zH s 0 sh) a b z) K := by
  unfold zPut at h
  split at h
  · rename_i x q r
    obtain ⟨ss, t, h1, h2, h3⟩ := zOb_ok h
    have hR : zR x := ht.hd
    have hS : zSok sh (zU s q b x) := zSok_U hs ⟨fun e => ((by rw [zLong_ob h1] at e; cases e)), fun _ => hR⟩
    rcases t with _ | t
    · dsimp only at h3
      split at h3
      · exact ⟨lv, r, _, kPut_zH (z := 0) h1 h2 rfl (by show Value.int (Int32.ofInt (if b = b then x else s q b)) = _; rw [if_pos rfl]; rfl), h3, hS, hl, ht.tl.tl⟩
      · refine ⟨lv, r, _, kPut_zH (z := 1) h1 h2 ?_ (by show Value.int (Int32.ofInt (if b = b then x else s q b)) = _; rw [if_pos rfl]; rfl), h3.2, hS, hl, ht.tl.tl⟩
        rcases h3.1 with rfl | rfl <;> rfl
      · exact h3.elim
    · exact h3.elim
  · rename_i x q r
    obtain ⟨ss, t, h1, h2, h3⟩ := zOb_ok h
    rcases t with _ | _ | t
    · exact h3.elim
    · dsimp only at h3
      split at h3
      · cases hb : Nat.ble x 2147483647 with
        | false => rw [hb] at h3; exact h3.elim
        | true =>
          rw [hb] at h3
          have hx := Nat.le_of_ble_eq_true hb
          refine ⟨lv, r, _, kPut_zH (z := 2) h1 h2 rfl (by show Value.ref (if b = b then (x : Int) else s q b).toNat = _; rw [if_pos rfl]; rfl), h3, zSok_U hs ⟨fun e => ((by rw [zLong_ob h1] at e; cases e)), fun _ => ⟨by omega, by omega⟩⟩, hl, ht.tl.tl⟩
      · exact h3.elim
    · exact h3.elim
  · exact h.elim
theorem zAr_ok {q t : Nat} {k : Nat → Prop} (h : zAr sh q t k) : ∃ n, sh[q]? = some (.inl (t, n)) ∧ k n := by
  unfold zAr at h
  split at h
  · rename_i x hx
    cases hb : Nat.beq x.1 t with
    | false => rw [hb] at h; exact h.elim
    | true =>
      rw [hb] at h
      have ht : x.1 = t := Nat.eq_of_beq_eq_true hb
      exact ⟨x.2, by rw [hx, ← ht], h⟩
  · exact h.elim
theorem kArr_zH {q t n : Nat} (h : sh[q]? = some (.inl (t, n))) (ht : t ≠ 1) : kArr (zH s 0 sh) q t = some (n, fun j => Int32.ofInt (s q j)) := by
  unfold kArr
  rw [zH_at h]
  show (if t = t then (match (if t = 1 then Sum.inr (Sum.inl (fun j => Int64.ofInt (s q j))) else Sum.inl (fun j => Int32.ofInt (s q j)) : (Nat → Int32) ⊕ (Nat → Int64) ⊕ (Nat → UInt32) ⊕ (Nat → UInt64) ⊕ (Nat → Option Nat)) with
    | .inl f => some (n, f)
    | _ => none) else none) = _
  rw [if_pos rfl, if_neg ht]
theorem kArrL_zH {q n : Nat} (h : sh[q]? = some (.inl (1, n))) : kArrL (zH s 0 sh) q = some (n, fun j => Int64.ofInt (s q j)) := by
  unfold kArrL
  rw [zH_at h]
  rfl
theorem zCe_i {t n : Nat} (ht : t ≠ 1) (f : Nat → Int) : zCe f (.inl (t, n)) = .inl (t, n, .inl (fun j => Int32.ofInt (f j))) := by
  unfold zCe
  dsimp only
  rw [if_neg ht]
theorem zAl_ok (h : zAl sh ro lv st s K) (hs : zSok sh s) (hl : zLok lv) (ht : zTok st) : zOut sh (kAl (zM lv) (st.map zv) (zH s 0 sh) (zro ro)) K := by
  unfold zAl at h
  split at h
  · rename_i q r
    have hk : ∀ n : Nat, kLen (zro ro) (zH s 0 sh) q = some n → Nat.ble n 2147483647 = true → K lv (.inl (n : Int) :: r) s → zOut sh (kAl (zM lv) (List.map zv (.inr (.inl q) :: r)) (zH s 0 sh) (zro ro)) K := by
      intro n hn hb hK
      have hx := Nat.le_of_ble_eq_true hb
      refine ⟨lv, .inl (n : Int) :: r, s, ?_, hK, hs, hl, ht.tl.mk ⟨by omega, by omega⟩⟩
      show (match kLen (zro ro) (zH s 0 sh) q with
        | some n => some (zM lv, Value.int (Int32.ofNat n) :: r.map zv, zH s 0 sh)
        | none => none) = _
      rw [hn]
      dsimp only
      rw [← Int32.ofInt_eq_ofNat]; rfl
    split at h
    · rename_i l hr
      cases hb : Nat.ble l.length 2147483647 with
      | false => rw [hb] at h; exact h.elim
      | true =>
        rw [hb] at h
        refine hk l.length ?_ hb h
        unfold kLen zro
        rw [hr]; rfl
    · rename_i hr
      split at h
      · rename_i x hx
        cases hb : Nat.ble x.2 2147483647 && Nat.blt x.1 5 with
        | false => rw [hb] at h; exact h.elim
        | true =>
          rw [hb] at h
          obtain ⟨b1, b2⟩ := Bool.and_eq_true_iff.mp hb
          refine hk x.2 ?_ b1 h
          unfold kLen zro
          rw [hr, zH_at hx]
          show (if x.1 < 5 then some x.2 else none) = _
          rw [if_pos (z_blt b2)]
      · exact h.elim
  · exact h.elim
theorem zAi_ok (hro : ∀ q l, ro q = some l → ∀ k, zR (l.getD k 0)) (h : zAi sh ro lv st s K) (hs : zSok sh s) (hl : zLok lv) (ht : zTok st) : zOut sh (kAi (zM lv) (st.map zv) (zH s 0 sh) (zro ro)) K := by
  unfold zAi at h
  split at h
  · rename_i j q r
    have hj : zR j := ht.hd
    have hk : ∀ (n : Nat) (f : Nat → Int), kRd (zro ro) (zH s 0 sh) q = some (n, fun k => Int32.ofInt (f k)) → zR (f j.toNat) → (0 ≤ j ∧ j < (n : Int) ∧ K lv (.inl (f j.toNat) :: r) s) → zOut sh (kAi (zM lv) (List.map zv (.inl j :: .inr (.inl q) :: r)) (zH s 0 sh) (zro ro)) K := by
      intro n f hn hf hK
      refine ⟨lv, .inl (f j.toNat) :: r, s, ?_, hK.2.2, hs, hl, ht.tl.tl.mk hf⟩
      show (match kRd (zro ro) (zH s 0 sh) q with
        | some x => if Int32.ofInt j < 0 ∨ x.1 ≤ (Int32.ofInt j).toNatClampNeg then none else some (zM lv, Value.int (x.2 (Int32.ofInt j).toNatClampNeg) :: r.map zv, zH s 0 sh)
        | none => none) = _
      rw [hn]
      dsimp only
      rw [if_neg (z_in hj ⟨hK.1, hK.2.1⟩), z_nat hj]; rfl
    unfold zRd at h
    split at h
    · rename_i l hr
      refine hk l.length (fun j => l.getD j 0) ?_ (hro q l hr _) h
      unfold kRd zro
      rw [hr]; rfl
    · rename_i hr
      obtain ⟨n, h1, h2⟩ := zAr_ok h
      refine hk n (s q) ?_ ((hs q _).2 (by rw [zLong_ar h1]; rfl)) h2
      unfold kRd zro
      rw [hr]
      exact kArr_zH h1 (by decide)
  · exact h.elim
theorem zAt_ok {t : Nat} (h : zAt sh lv st s t K) (hs : zSok sh s) (hl : zLok lv) (ht : zTok st) : zOut sh (kAt (zM lv) (st.map zv) (zH s 0 sh) t) K := by
  unfold zAt at h
  split at h
  · rename_i j q r
    have hj : zR j := ht.hd
    cases hb : Nat.beq t 1 with
    | true => rw [hb] at h; exact h.elim
    | false =>
      rw [hb, cond_false] at h
      have ht1 : t ≠ 1 := Nat.ne_of_beq_eq_false hb
      obtain ⟨n, h1, h2⟩ := zAr_ok h
      refine ⟨lv, .inl (s q j.toNat) :: r, s, ?_, h2.2.2, hs, hl, ht.tl.tl.mk ((hs q _).2 (by rw [zLong_ar h1]; exact hb))⟩
      show (match kArr (zH s 0 sh) q t with
        | some x => if Int32.ofInt j < 0 ∨ x.1 ≤ (Int32.ofInt j).toNatClampNeg then none else some (zM lv, Value.int (x.2 (Int32.ofInt j).toNatClampNeg) :: r.map zv, zH s 0 sh)
        | none => none) = _
      rw [kArr_zH h1 ht1]
      dsimp only
      rw [if_neg (z_in hj ⟨h2.1, h2.2.1⟩), z_nat hj]; rfl
  · exact h.elim
theorem zAj_ok (h : zAj sh lv st s K) (hs : zSok sh s) (hl : zLok lv) (ht : zTok st) : zOut sh (kAj (zM lv) (st.map zv) (zH s 0 sh)) K := by
  unfold zAj at h
  split at h
  · rename_i j q r
    have hj : zR j := ht.hd
    obtain ⟨n, h1, h2⟩ := zAr_ok h
    refine ⟨lv, .inr (.inr (s q j.toNat)) :: r, s, ?_, h2.2.2, hs, hl, ht.tl.tl.mk ((hs q _).1 (by rw [zLong_ar h1]; rfl))⟩
    show (match kArrL (zH s 0 sh) q with
      | some x => if Int32.ofInt j < 0 ∨ x.1 ≤ (Int32.ofInt j).toNatClampNeg then none else some (zM lv, Value.long (x.2 (Int32.ofInt j).toNatClampNeg) :: r.map zv, zH s 0 sh)
      | none => none) = _
    rw [kArrL_zH h1]
    dsimp only
    rw [if_neg (z_in hj ⟨h2.1, h2.2.1⟩), z_nat hj]; rfl
  · exact h.elim
theorem zBt_ok {t : Nat} {g : Int → Int} {g' : Int32 → Int32} (hg : ∀ v, zR v → g' (Int32.ofInt v) = Int32.ofInt (g v) ∧ zR (g v)) (h : zBt sh lv st s t g K) (hs : zSok sh s) (hl : zLok lv) (ht : zTok st) : zOut sh (kBt (zM lv) (st.map zv) (zH s 0 sh) t g') K := by
  unfold zBt at h
  split at h
  · rename_i v j q r
    have hj : zR j := ht.tl.hd
    obtain ⟨g1, g2⟩ := hg v ht.hd
    cases hb : Nat.beq t 1 with
    | true => rw [hb] at h; exact h.elim
    | false =>
      rw [hb, cond_false] at h
      have ht1 : t ≠ 1 := Nat.ne_of_beq_eq_false hb
      obtain ⟨n, h1, h2⟩ := zAr_ok h
      refine ⟨lv, r, zU s q j.toNat (g v), ?_, h2.2.2, zSok_U hs ⟨fun e => ((by rw [zLong_ar h1, hb] at e; cases e)), fun _ => g2⟩, hl, ht.tl.tl.tl⟩
      show (match kArr (zH s 0 sh) q t with
        | some x => if Int32.ofInt j < 0 ∨ x.1 ≤ (Int32.ofInt j).toNatClampNeg then none else some (zM lv, r.map zv, (zH s 0 sh).set q (.inl (t, x.1, .inl (upd x.2 (Int32.ofInt j).toNatClampNeg (g' (Int32.ofInt v))))))
        | none => none) = _
      rw [kArr_zH h1 ht1]
      dsimp only
      rw [if_neg (z_in hj ⟨h2.1, h2.2.1⟩), z_nat hj, g1]
      have h5 := zH_put (s := s) (s' := zU s q j.toNat (g v)) h1 (fun q' hq => zU_ne hq s _ _)
      rw [zU_at, zCe_i ht1] at h5
      rw [← h5]
      have h6 : upd (fun j => Int32.ofInt (s q j)) j.toNat (Int32.ofInt (g v)) = fun k' => Int32.ofInt (if k' = j.toNat then g v else s q k') := by
        funext k'
        unfold upd
        split <;> rfl
      rw [h6]
  · exact h.elim
theorem zBj_ok (h : zBj sh lv st s K) (hs : zSok sh s) (hl : zLok lv) (ht : zTok st) : zOut sh (kBj (zM lv) (st.map zv) (zH s 0 sh)) K := by
  unfold zBj at h
  split at h
  · rename_i v j q r
    have hj : zR j := ht.tl.hd
    have hv : zR64 v := ht.hd
    obtain ⟨n, h1, h2⟩ := zAr_ok h
    refine ⟨lv, r, zU s q j.toNat v, ?_, h2.2.2, zSok_U hs ⟨fun _ => hv, fun e => ((by rw [zLong_ar h1] at e; cases e))⟩, hl, ht.tl.tl.tl⟩
    show (match kArrL (zH s 0 sh) q with
      | some x => if Int32.ofInt j < 0 ∨ x.1 ≤ (Int32.ofInt j).toNatClampNeg then none else some (zM lv, r.map zv, (zH s 0 sh).set q (.inl (1, x.1, .inr (.inl (vp_updL x.2 (Int32.ofInt j).toNatClampNeg (Int64.ofInt v))))))
      | none => none) = _
    rw [kArrL_zH h1]
    dsimp only
    rw [if_neg (z_in hj ⟨h2.1, h2.2.1⟩), z_nat hj]
    have h5 := zH_put (s := s) (s' := zU s q j.toNat v) h1 (fun q' hq => zU_ne hq s _ _)
    rw [zU_at] at h5
    rw [← h5]
    have h6 : vp_updL (fun j => Int64.ofInt (s q j)) j.toNat (Int64.ofInt v) = fun k' => Int64.ofInt (if k' = j.toNat then v else s q k') := by
      funext k'
      unfold vp_updL
      split <;> rfl
    rw [h6]
    rfl
  · exact h.elim
theorem zSok_F {q : Nat} {f : Nat → Int} (hs : zSok sh s) (hv : ∀ k, (zLong sh q = true → zR64 (f k)) ∧ (zLong sh q = false → zR (f k))) : zSok sh (zF s q f) := by
  intro q' j
  by_cases hq : q' = q
  · subst hq
    rw [zF_at]
    exact hv j
  · rw [zF_ne hq]
    exact hs q' j
theorem z_pos {x : Int} (hx : zR x) (h : 0 ≤ x) : ¬ Int32.ofInt x < 0 := by
  rw [show (0 : Int32) = Int32.ofInt 0 from rfl, z_lt hx zR0]
  omega
theorem zCpI_ok (h : zCp sh lv st s 0 K) (hs : zSok sh s) (hl : zLok lv) (ht : zTok st) : zOut sh (kCpI (zM lv) (st.map zv) (zH s 0 sh)) K := by
  unfold zCp at h
  split at h
  · rename_i n dp q1 sp q0 r
    have hn : zR n := ht.hd
    have hd : zR dp := ht.tl.hd
    have hsp : zR sp := ht.tl.tl.tl.hd
    cases hb : Nat.ble r.length 4 with
    | false => rw [hb] at h; exact h.elim
    | true =>
      rw [hb, cond_true] at h
      have hr := Nat.le_of_ble_eq_true hb
      obtain ⟨x, h1, h⟩ := zAr_ok h
      obtain ⟨y, h2, c1, c2, c3, c4, c5, h⟩ := zAr_ok h
      have hL1 : zLong sh q0 = false := by rw [zLong_ar h1]; rfl
      have hL2 : zLong sh q1 = false := by rw [zLong_ar h2]; rfl
      refine ⟨lv, r, _, ?_, h, zSok_F hs (fun k => ⟨fun e => (by rw [hL2] at e; cases e), fun _ => ?_⟩), hl, ht.tl.tl.tl.tl.tl⟩
      · show (match kArr (zH s 0 sh) q0 0, kArr (zH s 0 sh) q1 0 with
          | some x, some y => if (r.map zv).length ≤ 4 ∧ ¬ Int32.ofInt sp < 0 ∧ ¬ Int32.ofInt dp < 0 ∧ ¬ Int32.ofInt n < 0 ∧ (Int32.ofInt sp).toNatClampNeg + (Int32.ofInt n).toNatClampNeg ≤ x.1 ∧ (Int32.ofInt dp).toNatClampNeg + (Int32.ofInt n).toNatClampNeg ≤ y.1 then some (zM lv, r.map zv, (zH s 0 sh).set q1 (.inl (0, y.1, .inl (va_cpy x.2 y.2 (Int32.ofInt sp).toNatClampNeg (Int32.ofInt dp).toNatClampNeg (Int32.ofInt n).toNatClampNeg)))) else none
          | _, _ => none) = _
        rw [kArr_zH h1 (by decide), kArr_zH h2 (by decide)]
        dsimp only
        rw [z_nat hsp, z_nat hd, z_nat hn, if_pos ⟨by rw [List.length_map]; exact hr, z_pos hsp c1, z_pos hd c2, z_pos hn c3, by omega, by omega⟩]
        have h5 := zH_put (s := s) (s' := zF s q1 (zCpF (s q0) (s q1) sp.toNat dp.toNat n.toNat)) h2 (fun q' hq => zF_ne hq s _)
        rw [zF_at, zCe_i (by decide)] at h5
        rw [← h5]
        have h6 : va_cpy (fun j => Int32.ofInt (s q0 j)) (fun j => Int32.ofInt (s q1 j)) sp.toNat dp.toNat n.toNat = fun k => Int32.ofInt (zCpF (s q0) (s q1) sp.toNat dp.toNat n.toNat k) := by
          funext k
          unfold va_cpy zCpF
          split <;> rfl
        rw [h6]
      · unfold zCpF
        split
        · exact (hs q0 _).2 hL1
        · exact (hs q1 _).2 hL2
  · exact h.elim
theorem zCpL_ok (h : zCp sh lv st s 1 K) (hs : zSok sh s) (hl : zLok lv) (ht : zTok st) : zOut sh (kCpL (zM lv) (st.map zv) (zH s 0 sh)) K := by
  unfold zCp at h
  split at h
  · rename_i n dp q1 sp q0 r
    have hn : zR n := ht.hd
    have hd : zR dp := ht.tl.hd
    have hsp : zR sp := ht.tl.tl.tl.hd
    cases hb : Nat.ble r.length 4 with
    | false => rw [hb] at h; exact h.elim
    | true =>
      rw [hb, cond_true] at h
      have hr := Nat.le_of_ble_eq_true hb
      obtain ⟨x, h1, h⟩ := zAr_ok h
      obtain ⟨y, h2, c1, c2, c3, c4, c5, h⟩ := zAr_ok h
      have hL1 : zLong sh q0 = true := by rw [zLong_ar h1]; rfl
      have hL2 : zLong sh q1 = true := by rw [zLong_ar h2]; rfl
      refine ⟨lv, r, _, ?_, h, zSok_F hs (fun k => ⟨fun _ => ?_, fun e => (by rw [hL2] at e; cases e)⟩), hl, ht.tl.tl.tl.tl.tl⟩
      · show (match kArrL (zH s 0 sh) q0, kArrL (zH s 0 sh) q1 with
          | some x, some y => if (r.map zv).length ≤ 4 ∧ ¬ Int32.ofInt sp < 0 ∧ ¬ Int32.ofInt dp < 0 ∧ ¬ Int32.ofInt n < 0 ∧ (Int32.ofInt sp).toNatClampNeg + (Int32.ofInt n).toNatClampNeg ≤ x.1 ∧ (Int32.ofInt dp).toNatClampNeg + (Int32.ofInt n).toNatClampNeg ≤ y.1 then some (zM lv, r.map zv, (zH s 0 sh).set q1 (.inl (1, y.1, .inr (.inl (va_cpy x.2 y.2 (Int32.ofInt sp).toNatClampNeg (Int32.ofInt dp).toNatClampNeg (Int32.ofInt n).toNatClampNeg))))) else none
          | _, _ => none) = _
        rw [kArrL_zH h1, kArrL_zH h2]
        dsimp only
        rw [z_nat hsp, z_nat hd, z_nat hn, if_pos ⟨by rw [List.length_map]; exact hr, z_pos hsp c1, z_pos hd c2, z_pos hn c3, by omega, by omega⟩]
        have h5 := zH_put (s := s) (s' := zF s q1 (zCpF (s q0) (s q1) sp.toNat dp.toNat n.toNat)) h2 (fun q' hq => zF_ne hq s _)
        rw [zF_at] at h5
        rw [← h5]
        have h6 : va_cpy (fun j => Int64.ofInt (s q0 j)) (fun j => Int64.ofInt (s q1 j)) sp.toNat dp.toNat n.toNat = fun k => Int64.ofInt (zCpF (s q0) (s q1) sp.toNat dp.toNat n.toNat k) := by
          funext k
          unfold va_cpy zCpF
          split <;> rfl
        rw [h6]
        rfl
      · unfold zCpF
        split
        · exact (hs q0 _).1 hL1
        · exact (hs q1 _).1 hL2
  · exact h.elim
theorem zMx_ok {f : Int → Int → Int} {g : Int32 → Int32 → Int32} (hg : ∀ x y, zR x → zR y → g (Int32.ofInt x) (Int32.ofInt y) = Int32.ofInt (f x y) ∧ zR (f x y)) (h : zMx lv st s f K) (hs : zSok sh s) (hl : zLok lv) (ht : zTok st) : zOut sh (kMx (zM lv) (st.map zv) (zH s 0 sh) g) K := by
  unfold zMx at h
  split at h
  · rename_i y x r
    cases hb : Nat.ble r.length 4 with
    | false => rw [hb] at h; exact h.elim
    | true =>
      rw [hb] at h
      have hr := Nat.le_of_ble_eq_true hb
      obtain ⟨h1, h2⟩ := hg x y ht.tl.hd ht.hd
      refine ⟨lv, .inl (f x y) :: r, s, ?_, h, hs, hl, ht.tl.tl.mk h2⟩
      show (if (r.map zv).length ≤ 4 then some (zM lv, Value.int (g (Int32.ofInt x) (Int32.ofInt y)) :: r.map zv, zH s 0 sh) else none) = _
      rw [if_pos (by rw [List.length_map]; exact hr), h1]; rfl
  · exact h.elim
theorem zNat_ok {a : Nat} (h : zNat sh lv st s a K) (hs : zSok sh s) (hl : zLok lv) (ht : zTok st) : zOut sh (kNat (zM lv) (st.map zv) (zH s 0 sh) a) K := by
  unfold zNat at h
  split at h
  · refine zMx_ok (fun x y hx hy => ?_) h hs hl ht
    by_cases hc : x < y
    · rw [if_pos ((z_lt hx hy).mpr hc), Int.max_eq_right (Int.le_of_lt hc)]; exact ⟨rfl, hy⟩
    · rw [if_neg (fun e => hc ((z_lt hx hy).mp e)), Int.max_eq_left (Int.not_lt.mp hc)]; exact ⟨rfl, hx⟩
  · refine zMx_ok (fun x y hx hy => ?_) h hs hl ht
    by_cases hc : y < x
    · rw [if_pos ((z_lt hy hx).mpr hc), Int.min_eq_right (Int.le_of_lt hc)]; exact ⟨rfl, hy⟩
    · rw [if_neg (fun e => hc ((z_lt hy hx).mp e)), Int.min_eq_left (Int.not_lt.mp hc)]; exact ⟨rfl, hx⟩
  · exact zCpI_ok h hs hl ht
  · exact zCpL_ok h hs hl ht
  · exact h.elim
theorem z_toI {x : Int32} : Int32.ofInt x.toInt = x := Int32.ofInt_toInt x
theorem z_w8 {x : Int} (hx : zR x) : (Int32.ofInt x).toInt8.toInt32 = Int32.ofInt (w8 x) ∧ zR (w8 x) := by
  have h2 : zR (w8 x) := by unfold w8 zR; omega
  refine ⟨?_, h2⟩
  rw [← Int32.toInt_inj, z32 h2, Int8.toInt_toInt32, Int32.toInt_toInt8, z32 hx, w8_bmod]
theorem z_w16 {x : Int} (hx : zR x) : (Int32.ofInt x).toInt16.toInt32 = Int32.ofInt (w16 x) ∧ zR (w16 x) := by
  have h2 : zR (w16 x) := by unfold w16 zR; omega
  refine ⟨?_, h2⟩
  rw [← Int32.toInt_inj, z32 h2, Int16.toInt_toInt32, Int32.toInt_toInt16, z32 hx, w16_bmod]
theorem z_div {x y : Int} (hx : zR x) (hy : zR y) : Int32.ofInt x / Int32.ofInt y = Int32.ofInt (x.tdiv y) := by
  rw [← Int32.toInt_inj, Int32.toInt_div, z32 hx, z32 hy, z32w, wr_bmod]
theorem z_mod {x y : Int} (hx : zR x) (hy : zR y) : Int32.ofInt x - Int32.ofInt x / Int32.ofInt y * Int32.ofInt y = Int32.ofInt (x.tmod y) := by
  rw [z_div hx hy, ← Int32.ofInt_mul, ← Int32.ofInt_sub, Int.tmod_def, Int.mul_comm y]
theorem zR64_32 {x : Int} (h : zR x) : zR64 x := by unfold zR at h; unfold zR64; omega
theorem z_i2l {x : Int} (hx : zR x) : (Int32.ofInt x).toInt64 = Int64.ofInt x := by
  rw [← Int64.toInt_inj, Int32.toInt_toInt64, z32 hx, z64 (zR64_32 hx)]
theorem zS_ok (hro : ∀ q l, ro q = some l → ∀ k, zR (l.getD k 0)) {i : Instr} {a b : Nat} {z : Int} (h : zS sh ro i a b z lv st s K) (hs : zSok sh s) (hl : zLok lv) (ht : zTok st) : zOut sh (kS (zro ro) i a b z (zM lv) (st.map zv) (zH s 0 sh)) K := by
  cases i
  case iconst n => exact zPush_ok (v := .inl n) (fun e => zRb_ok e) h hs hl ht
  case bipush n => exact zPush_ok (v := .inl n) (fun e => zRb_ok e) h hs hl ht
  case sipush n => exact zPush_ok (v := .inl n) (fun e => zRb_ok e) h hs hl ht
  case lconst n =>
    have h2 := zPush_ok (v := .inr (.inr ((n : Nat) : Int))) (b := Nat.ble n 1) (fun e => by have := Nat.le_of_ble_eq_true e; exact ⟨by omega, by omega⟩) h hs hl ht
    have h3 : zv (.inr (.inr ((n : Nat) : Int))) = .long (Int64.ofNat (n : Nat)) := by
      show Value.long (Int64.ofInt ((n : Nat) : Int)) = _
      rw [Int64.ofInt_eq_ofNat]
    rw [h3] at h2
    exact h2
  case ldc n => exact zPush_ok (v := .inl z) (fun e => zRb_ok e) h hs hl ht
  case ldc_w n => exact zPush_ok (v := .inl z) (fun e => zRb_ok e) h hs hl ht
  case ldc2_w n => exact zPush_ok (v := .inr (.inr z)) (fun e => zRb64_ok e) h hs hl ht
  case iload_n k => exact zPi_ok h hs hl ht
  case iload k => exact zPi_ok h hs hl ht
  case lload_n k => exact zPl_ok h hs hl ht
  case lload k => exact zPl_ok h hs hl ht
  case aload_n k => exact zPa_ok h hs hl ht
  case aload k => exact zPa_ok h hs hl ht
  case istore_n k => exact zTi_ok h hs hl ht
  case istore k => exact zTi_ok h hs hl ht
  case astore_n k => exact zTa_ok h hs hl ht
  case lstore k => exact zTl_ok h hs hl ht
  case iinc k n => exact zInc_ok h hs hl ht
  case iadd => exact zI2_ok (f := fun x y => wr (x + y)) (fun x y _ _ => ⟨by rw [zof_wr, Int32.ofInt_add], wr_R _⟩) h hs hl ht
  case isub => exact zI2_ok (f := fun x y => wr (x - y)) (fun x y _ _ => ⟨by rw [zof_wr, Int32.ofInt_sub], wr_R _⟩) h hs hl ht
  case imul => exact zI2_ok (f := fun x y => wr (x * y)) (fun x y _ _ => ⟨by rw [zof_wr, Int32.ofInt_mul], wr_R _⟩) h hs hl ht
  case iand => exact zI2_ok (f := zAnd) (fun x y _ _ => ⟨by unfold zAnd; rw [z_toI], zR_of _⟩) h hs hl ht
  case ior => exact zI2_ok (f := zOr) (fun x y _ _ => ⟨by unfold zOr; rw [z_toI], zR_of _⟩) h hs hl ht
  case ixor => exact zI2_ok (f := zXor) (fun x y _ _ => ⟨by unfold zXor; rw [z_toI], zR_of _⟩) h hs hl ht
  case ishl => exact zI2_ok (f := zShl) (fun x y _ _ => ⟨by unfold zShl; rw [z_toI], zR_of _⟩) h hs hl ht
  case iushr => exact zI2_ok (f := zUsh) (fun x y _ _ => ⟨by unfold zUsh; rw [z_toI], zR_of _⟩) h hs hl ht
  case idiv => exact zDiv_ok (f := fun x y => wr (x.tdiv y)) (fun x y hx hy => ⟨by rw [zof_wr, z_div hx hy], wr_R _⟩) h hs hl ht
  case irem => exact zDiv_ok (f := fun x y => wr (x.tmod y)) (fun x y hx hy => ⟨by rw [zof_wr, z_mod hx hy], wr_R _⟩) h hs hl ht
  case ineg => exact zI1_ok (f := fun x => .inl (wr (-x))) (fun x _ => ⟨by show _ = Value.int (Int32.ofInt (wr (-x))); rw [zof_wr, Int32.ofInt_neg], wr_R _⟩) h hs hl ht
  case i2l => exact zI1_ok (f := fun x => .inr (.inr x)) (fun x hx => ⟨by show _ = Value.long (Int64.ofInt x); rw [z_i2l hx], zR64_32 hx⟩) h hs hl ht
  case i2b => exact zI1_ok (f := fun x => .inl (w8 x)) (fun x hx => ⟨by show _ = Value.int (Int32.ofInt (w8 x)); rw [(z_w8 hx).1], (z_w8 hx).2⟩) h hs hl ht
  case i2s => exact zI1_ok (f := fun x => .inl (w16 x)) (fun x hx => ⟨by show _ = Value.int (Int32.ofInt (w16 x)); rw [(z_w16 hx).1], (z_w16 hx).2⟩) h hs hl ht
  case l2i =>
    simp only [zS] at h
    split at h
    · rename_i x r
      refine ⟨lv, .inl (wr x) :: r, s, ?_, h, hs, hl, ht.tl.mk (wr_R x)⟩
      show some (zM lv, Value.int (Int64.ofInt x).toInt32 :: r.map zv, zH s 0 sh) = some (zM lv, Value.int (Int32.ofInt (wr x)) :: r.map zv, zH s 0 sh)
      rw [zof_wr, Int64.toInt32_ofInt]
    · exact h.elim
  case ladd => exact zJ2_ok (f := fun x y => .inr (.inr (wl (x + y)))) (fun x y _ _ => ⟨by show _ = Value.long (Int64.ofInt (wl (x + y))); rw [zof_wl, Int64.ofInt_add], wl_R _⟩) h hs hl ht
  case land => exact zJ2_ok (f := fun x y => .inr (.inr (zAndL x y))) (fun x y _ _ => ⟨by show _ = Value.long (Int64.ofInt (zAndL x y)); unfold zAndL; rw [Int64.ofInt_toInt], zR64_of _⟩) h hs hl ht
  case lor => exact zJ2_ok (f := fun x y => .inr (.inr (zOrL x y))) (fun x y _ _ => ⟨by show _ = Value.long (Int64.ofInt (zOrL x y)); unfold zOrL; rw [Int64.ofInt_toInt], zR64_of _⟩) h hs hl ht
  case lcmp =>
    refine zJ2_ok (f := fun x y => .inl (if y < x then 1 else if x = y then 0 else -1)) (fun x y hx hy => ⟨?_, ?_⟩) h hs hl ht
    · show Value.int (lg_cmp (Int64.ofInt x) (Int64.ofInt y)) = Value.int (Int32.ofInt (if y < x then 1 else if x = y then 0 else -1))
      unfold lg_cmp
      by_cases h1 : y < x
      · rw [if_pos h1, if_pos (show Int64.ofInt x > Int64.ofInt y from (z_lt64 hy hx).mpr h1)]; rfl
      · rw [if_neg h1, if_neg (show ¬ Int64.ofInt x > Int64.ofInt y from fun e => h1 ((z_lt64 hy hx).mp e))]
        by_cases h2 : x = y
        · rw [if_pos h2, if_pos ((z_eq64 hx hy).mpr h2)]; rfl
        · rw [if_neg h2, if_neg (fun e => h2 ((z_eq64 hx hy).mp e))]; rfl
    · show zR (if y < x then 1 else if x = y then 0 else -1)
      unfold zR
      split
      · omega
      · split <;> omega
  case lshl =>
    simp only [zS] at h
    split at h
    · rename_i y x r
      refine ⟨lv, .inr (.inr (zShlL x y)) :: r, s, ?_, h, hs, hl, ht.tl.tl.mk (zR64_of _)⟩
      show some (zM lv, Value.long (Int64.ofInt x <<< ((Int32.ofInt y).toInt64 &&& 63)) :: r.map zv, zH s 0 sh) = some (zM lv, Value.long (Int64.ofInt (zShlL x y)) :: r.map zv, zH s 0 sh)
      unfold zShlL
      rw [Int64.ofInt_toInt]
    · exact h.elim
  case dup => exact zDup_ok h hs hl ht
  case pop => exact zPop_ok h hs hl ht
  case dup2 => exact zDup2_ok h hs hl ht
  case getfield n => exact zGet_ok h hs hl ht
  case putfield n => exact zPut_ok h hs hl ht
  case getstatic n => exact ⟨lv, .inr (.inl a) :: st, s, rfl, h, hs, hl, ht.mk trivial⟩
  case arraylength => exact zAl_ok h hs hl ht
  case iaload => exact zAi_ok hro h hs hl ht
  case baload => exact zAt_ok h hs hl ht
  case saload => exact zAt_ok h hs hl ht
  case laload => exact zAj_ok h hs hl ht
  case iastore => exact zBt_ok (g := fun x => x) (g' := fun x => x) (fun v hv => ⟨rfl, hv⟩) h hs hl ht
  case bastore =>
    simp only [zS] at h
    split at h
    · exact zBt_ok (g := w8) (g' := fun x => vp_nar (kBy 2) x) (fun v hv => z_w8 hv) h hs hl ht
    · exact zBt_ok (g := zBz) (g' := fun x => vp_nar (kBy 3) x) (fun v _ => ⟨by show Int32.ofInt v &&& 1 = Int32.ofInt (zAnd v 1); unfold zAnd; rw [z_toI]; rfl, zR_of _⟩) h hs hl ht
    · exact h.elim
  case sastore => exact zBt_ok (g := w16) (g' := fun x => vp_nar .short x) (fun v hv => z_w16 hv) h hs hl ht
  case lastore => exact zBj_ok h hs hl ht
  case invokestatic n => exact zNat_ok h hs hl ht
  all_goals exact h.elim
def zRes (sh : List zC) (o : Option kR) (Q : zQ) : Prop := ∃ r s, o = some (r.map zv, zH s 0 sh) ∧ zSok sh s ∧ (∀ v, r = some v → zVok v) ∧ Q r s
theorem zCm_ok {c : ClassFile.Cond} {x y : Int} (hx : zR x) (hy : zR y) : kCm c (Int32.ofInt x) (Int32.ofInt y) = true ↔ zCm c x y := by
  cases c
  case eq => exact decide_eq_true_iff.trans (z_eq hx hy)
  case ne => exact decide_eq_true_iff.trans (not_congr (z_eq hx hy))
  case lt => exact decide_eq_true_iff.trans (z_lt hx hy)
  case ge => exact decide_eq_true_iff.trans (z_le hy hx)
  case gt => exact decide_eq_true_iff.trans (z_lt hy hx)
  case le => exact decide_eq_true_iff.trans (z_le hx hy)
theorem zCd_ok {i : Instr} {k : Prop → List zV → Prop} (h : zCd i st k) (ht : zTok st) : ∃ (c : Prop) (b : Bool) (r : List zV), kCd i (st.map zv) = some (b, r.map zv) ∧ (b = true ↔ c) ∧ k c r ∧ zTok r := by
  cases i
  case ifCond c off =>
    simp only [zCd] at h
    split at h
    · rename_i x r
      exact ⟨_, _, r, rfl, zCm_ok ht.hd zR0, h, ht.tl⟩
    · exact h.elim
  case if_icmp c off =>
    simp only [zCd] at h
    split at h
    · rename_i y x r
      exact ⟨_, _, r, rfl, zCm_ok ht.tl.hd ht.hd, h, ht.tl.tl⟩
    · exact h.elim
  all_goals exact h.elim
theorem zSw_ok {k : Nat → Prop} {kk : Nat → Option kR} {P : Option kR → Prop} (hk : ∀ t, k t → P (kk t)) {x : Int} (hx : zR x) {d : Nat} : ∀ (sw : List (Int32 × Nat)), zSw k x d sw → P (kSw kk (Int32.ofInt x) d sw)
  | [], h => hk d h
  | q :: r, h => by
    unfold kSw
    have hq : Int32.ofInt x = q.1 ↔ x = q.1.toInt := by
      rw [← Int32.toInt_inj, z32 hx]
    by_cases hc : x = q.1.toInt
    · rw [if_pos (hq.mpr hc)]; exact hk _ (h.1 hc)
    · rw [if_neg (fun e => hc (hq.mp e))]; exact zSw_ok hk hx r (h.2 hc)
theorem zRt_ok {i : Instr} {a : Nat} {Q : zQ} (h : zRt i a st s Q) (hs : zSok sh s) (ht : zTok st) : zRes sh (kRt i a (st.map zv) (zH s 0 sh)) Q := by
  cases i
  case ireturn =>
    simp only [zRt] at h
    split at h
    · rename_i x
      split at h
      · exact ⟨some (.inl x), s, rfl, hs, fun v e => (by cases e; exact ht.hd), h⟩
      · rename_i ha
        refine ⟨some (.inl x), s, ?_, hs, fun v e => (by cases e; exact ht.hd), h.2⟩
        show (if a = 0 then _ else if Int32.ofInt x = 0 ∨ Int32.ofInt x = 1 then some (some (Value.int (Int32.ofInt x)), zH s 0 sh) else none) = _
        rw [if_neg (fun e => ha e), if_pos (by rcases h.1 with rfl | rfl; exact Or.inl rfl; exact Or.inr rfl)]
        rfl
    · exact h.elim
  case lreturn =>
    simp only [zRt] at h
    split at h
    · rename_i x
      exact ⟨some (.inr (.inr x)), s, rfl, hs, fun v e => (by cases e; exact ht.hd), h⟩
    · exact h.elim
  case return_ =>
    simp only [zRt] at h
    split at h
    · exact ⟨none, s, rfl, hs, fun v e => (by cases e), h⟩
    · exact h.elim
  all_goals exact h.elim
theorem zCatS_ok : ∀ (l : List zV), ((l.map zv).map (fun v => v.category)).sum = zCatS l
  | [] => rfl
  | v :: r => by
    rw [List.map_cons, List.map_cons, List.sum_cons, zCatS_ok r]
    rcases v with x | q | x <;> rfl
theorem zTok_take {n : Nat} (h : zTok st) : zTok (st.take n).reverse := fun v hv => h v (List.mem_of_mem_take (List.mem_reverse.mp hv))
theorem zTok_drop {n : Nat} (h : zTok st) : zTok (st.drop n) := fun v hv => h v (List.mem_of_mem_drop hv)
theorem zAp_map (r : Option zV) (l : List zV) : (zAp r l).map zv = (r.map zv).toList ++ l.map zv := by cases r <;> rfl
theorem zAp_ok {r : Option zV} {l : List zV} (h1 : ∀ v, r = some v → zVok v) (h2 : zTok l) : zTok (zAp r l) := by
  cases r with
  | none => exact h2
  | some v => exact h2.mk (h1 v rfl)
theorem zX_ok (hro : ∀ q l, ro q = some l → ∀ k, zR (l.getD k 0)) {E : zEo} {J : zJo} {E' : kEo} {J' : kJo}
    (hE : ∀ m as s Q, E m as s Q → zSok sh s → zTok as → zRes sh (E' m (as.map zv) (zH s 0 sh)) Q)
    (hJ : ∀ t lv st s Q, J t lv st s Q → zSok sh s → zLok lv → zTok st → zRes sh (J' t (zM lv) (st.map zv) (zH s 0 sh)) Q) :
    ∀ (is : List kIt) (lv : zL) (st : List zV) (s : zSt) (Q : zQ), zX sh ro E J is lv st s Q → zSok sh s → zLok lv → zTok st → zRes sh (kX (zro ro) E' J' is (zM lv) (st.map zv) (zH s 0 sh)) Q
  | [], lv, st, s, Q, h, _, _, _ => h.elim
  | (_, .inl (i, a, b, z)) :: is, lv, st, s, Q, h, hs, hl, ht => by
    obtain ⟨lv', st', s', h1, h2, h3, h4, h5⟩ := zS_ok hro (show zS sh ro i a b z lv st s (fun lv st s => zX sh ro E J is lv st s Q) from h) hs hl ht
    unfold kX
    rw [h1]
    exact zX_ok hro hE hJ is lv' st' s' Q h2 h3 h4 h5
  | (_, .inr (i, k, a, b, sw)) :: is, lv, st, s, Q, h, hs, hl, ht => by
    unfold zX at h
    unfold kX
    split at h
    · obtain ⟨c, bb, r, h1, h2, ⟨h3, h4⟩, h5⟩ := zCd_ok h ht
      rw [if_pos rfl, h1]
      dsimp only
      by_cases hb : bb = true
      · rw [if_pos hb]; exact hJ _ _ _ _ _ (h3 (h2.mp hb)) hs hl h5
      · rw [if_neg hb]; exact zX_ok hro hE hJ is lv r s Q (h4 (fun e => hb (h2.mpr e))) hs hl h5
    · rw [if_neg (by decide), if_pos rfl]
      exact hJ _ _ _ _ _ h hs hl ht
    · rw [if_neg (by decide), if_neg (by decide), if_pos rfl]
      split at h
      · rename_i x r
        exact zSw_ok (P := fun o => zRes sh o Q) (fun t g => hJ t lv r s Q g hs hl ht.tl) ht.hd sw h
      · exact h.elim
    · rw [if_neg (by decide), if_neg (by decide), if_neg (by decide), if_pos rfl]
      exact zRt_ok h hs ht
    · rw [if_neg (by decide), if_neg (by decide), if_neg (by decide), if_neg (by decide), if_pos rfl]
      cases hb : Nat.ble b st.length && Nat.ble (zCatS (st.drop b)) 8 with
      | false => rw [hb] at h; exact h.elim
      | true =>
        rw [hb] at h
        obtain ⟨b1, b2⟩ := Bool.and_eq_true_iff.mp hb
        obtain ⟨r, s', h1, h2, h3, h4⟩ := hE a _ s _ h hs (zTok_take ht)
        rw [if_pos ⟨by rw [List.length_map]; exact Nat.le_of_ble_eq_true b1, by rw [← List.map_drop, zCatS_ok]; exact Nat.le_of_ble_eq_true b2⟩, ← List.map_take, ← List.map_reverse, h1]
        dsimp only
        rw [← List.map_drop, ← zAp_map]
        exact zX_ok hro hE hJ is lv _ s' Q h4 h2 hl (zAp_ok h3 (zTok_drop ht))
    · exact h.elim
end ZSnd
