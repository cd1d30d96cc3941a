/-! THE ENGINE IS SOUND: methods, by the depth of their calls -/
theorem kLl_none (ad : Nat → Nat) : ∀ (k i : Nat), kLl ad i (List.replicate k none) = []
  | 0, i => rfl
  | k + 1, i => by rw [List.replicate_succ]; exact kLl_none ad k (i + 1)
theorem kLl_args (ad : Nat → Nat) (k : Nat) : ∀ (as : List Value) (i : Nat), kLl ad i ((as.flatMap fun v => if v.category = 2 then [some v, none] else [some v]) ++ List.replicate k none) = lv_args i (as.map (kV ad))
  | [], i => by simp [kLl_none, lv_args]
  | v :: r, i => by
    rw [List.flatMap_cons, List.append_assoc, List.map_cons]
    by_cases h : v.category = 2
    · have e : lv_args i (kV ad v :: r.map (kV ad)) = (i, kV ad v) :: lv_args (i + 2) (r.map (kV ad)) := by
        show (i, kV ad v) :: lv_args (if (kV ad v).category = 2 then i + 2 else i + 1) (r.map (kV ad)) = _
        rw [kV_cat, if_pos h]
      rw [if_pos h, e, ← kLl_args ad k r (i + 2)]
      rfl
    · have e : lv_args i (kV ad v :: r.map (kV ad)) = (i, kV ad v) :: lv_args (i + 1) (r.map (kV ad)) := by
        show (i, kV ad v) :: lv_args (if (kV ad v).category = 2 then i + 2 else i + 1) (r.map (kV ad)) = _
        rw [kV_cat, if_neg h]
      rw [if_neg h, e, ← kLl_args ad k r (i + 1)]
      rfl
theorem kSl_len (ad : Nat → Nat) : ∀ (as : List Value), (lg_sl (as.map (kV ad))).length = (as.flatMap fun v => if v.category = 2 then [some v, none] else [some v]).length
  | [] => rfl
  | v :: r => by
    have h := kSl_len ad r
    unfold lg_sl at h ⊢
    rw [List.map_cons, List.flatMap_cons, List.flatMap_cons, List.length_append, List.length_append, h, kV_cat]
    by_cases hc : v.category = 2
    · rw [if_pos hc, if_pos hc]; rfl
    · rw [if_neg hc, if_neg hc]; rfl
theorem kEnt_has (ad : Nat → Nat) (n : Nat) (as : List Value) (h : (kEnt n as).length = n) : lv_has ((lg_sl (as.map (kV ad)) ++ List.replicate (n - (lg_sl (as.map (kV ad))).length) Slot.unset).toArray) n (kLl ad 0 (kEnt n as)) := by
  have hl : (lg_sl (as.map (kV ad))).length ≤ n := by
    rw [kSl_len]
    unfold kEnt at h
    rw [List.length_append, List.length_replicate] at h
    omega
  have h1 := lv_entry (as.map (kV ad)) hl
  unfold kEnt
  rw [kLl_args]
  exact h1
section KSnd
variable {p : Program} {l : Launch} {e : Env} {R : Room} {s : State} {m : MethodId} {args : Array Value} {below : List Frame} {meth : Method} {c : Code} {cells slots : Nat} {Q : State → Prop} {H : Heap} {locs : List Loc}
variable {D : va_G} {cl : List vw_C} {A : Nat → Prop} {tc : Nat → ClassId} {ad : Nat → Nat} {ro : kRo} {Ts tbl : List Jvm.Cond} {zs : kZt} {pc : Nat} {ls : Array Slot}
theorem kU_ok (hx : p.tables.exec = Jvm.exec) {M : kMi} {mi : Nat → Option kMi} {E : kEo} {blk : Nat → Nat → List kIt} {mm : Nat} {r0 : kR} {d : Nat} (hb : c.code = M.2.1) (hml : c.maxLocals = M.2.2.1) (hown : s.vm.findClass M.1.cls = some m.cls) (hts : ∀ w ∈ Ts, w.before args s = true) (hT : ∀ w ∈ tbl, w ∈ Ts) (hG : ∀ w ∈ tbl, goodWord w = true)
    (hK : va_K D cl (kTy tc) s) (hro : kRoOk ro ad A s) (hz : kZOk zs ad A s) (hA : ∀ q : Nat, s.heap.size ≤ q → A q) (hR : d + 1 ≤ R.frames ∧ 64 * (d + 1) ≤ R.locals ∧ cells ≤ R.cells ∧ slots ≤ R.slots)
    (hMok : ∀ a M', mi a = some M' → kMok tbl cl M') (hblk : ∀ t, kOk tbl cl zs mi M t (blk mm t))
    (hE : ∀ a M' as hp r, mi a = some M' → E a as hp = some r → kMet l D cl tc ad ro tbl zs d M' as hp r.1 r.2 ∧ (M'.2.2.2.2.2.1 = false → ∃ q As fs, as = .ref q :: As ∧ hp[q]? = some (.inr (M'.2.2.2.2.2.2, fs))))
    (hRet : ∀ i a pc st hp (ls : Array Slot) (H : Heap) (locs : List Loc), decode M.2.1 pc = .ok (i, 1) → kRok i a M.2.2.2.1 → kRt i a st hp = some r0 → kIv D cl tc ad A s hp H locs → W p l e R s m args below meth c H locs cells slots Q (F0 m pc ls (st.map (kV ad))))
    {t : Nat} {lv : kL} {st : List Value} {hp : kH} (h : kU ro blk E mm t lv st hp = some r0) (hlen : lv.length = M.2.2.1) (hl : lv_has ls M.2.2.1 (kLl ad 0 lv)) (hI : kIv D cl tc ad A s hp H locs) :
    W p l e R s m args below meth c H locs cells slots Q (F0 m t ls (st.map (kV ad))) := by
  obtain ⟨n, hn⟩ := kU_iff.mp h
  clear h
  induction n generalizing t lv st hp ls H locs with
  | zero => cases hn
  | succ n ih => exact kX_ok hx hb hml hown hts hT hG hK hro hz hA hR hMok hE (fun t lv st hp ls H locs g1 g2 g3 g4 => ih g2 g3 g4 g1) hRet (blk mm t) t lv st hp ls H locs (hblk t) hn hlen hl hI
theorem kRc_inv {ci : Nat} {as : List Value} {hp : kH} (h : kRc (some ci) as hp = true) : ∃ q As fs, as = .ref q :: As ∧ hp[q]? = some (.inr (ci, fs)) := by
  unfold kRc at h
  dsimp only at h
  split at h
  · rename_i q As
    cases ho : kObj hp q ci with
    | none => rw [ho] at h; cases h
    | some fs => exact ⟨q, As, fs, rfl, kObj_inv ho⟩
  · cases h
set_option maxHeartbeats 4000000 in
theorem kM_ok {mi : Nat → Option kMi} {blk : Nat → Nat → List kIt} {mx : Nat → Nat} {rc : Nat → Option Nat} (hG : ∀ w ∈ tbl, goodWord w = true)
    (hMok : ∀ a M', mi a = some M' → kMok tbl cl M') (hblk : ∀ a M', mi a = some M' → ∀ t, kOk tbl cl zs mi M' t (blk a t)) (hmx : ∀ a M', mi a = some M' → mx a = M'.2.2.1 ∧ (M'.2.2.2.2.2.1 = false → rc a = some M'.2.2.2.2.2.2)) :
    ∀ (d : Nat) (a : Nat) (M' : kMi) (as : List Value) (hp : kH) (r : kR), mi a = some M' → kM ro blk mx rc d a as hp = some r → kMet l D cl tc ad ro tbl zs d M' as hp r.1 r.2 ∧ (M'.2.2.2.2.2.1 = false → ∃ q As fs, as = .ref q :: As ∧ hp[q]? = some (.inr (M'.2.2.2.2.2.2, fs))) := by
  intro d
  induction d with
  | zero =>
    intro a M' as hp r hm h
    unfold kM kMof at h
    split at h
    · cases h
    · cases h
  | succ d ih =>
    intro a M' as hp r hm h
    unfold kM kMof at h
    split at h
    · rename_i hc
      obtain ⟨hc1, hc2⟩ := hc
      obtain ⟨x1, x2⟩ := hmx a M' hm
      refine ⟨?_, fun hs => kRc_inv (by rw [← x2 hs]; exact hc2)⟩
      obtain ⟨y, cc, maxL, ret, n, sta, ci⟩ := M'
      dsimp only at x1
      intro sz
      have hmk := hMok a _ hm
      rw [x1] at hc1 h
      refine Met.ofW (cc := cc) (maxL := maxL) (ret := ret) hmk.1 rfl ?_
      intro p e s m args below meth c s₁ B hml hv
      obtain ⟨rfl, hsz, hP, hK, hD0, hro, hz⟩ := hv
      have hx := B.exec
      have hb := B.bytes
      have hr := B.returns
      have hts := atoms_spec (ws := Jvm.Cond.code y cc maxL ret :: tbl) B.pre
      have hown : s.vm.findClass y.cls = some m.cls := findClass_of_methodNamed B.named
      have hlocks := B.notSynchronized
      subst hsz
      have hD := hD0.self (sz := s.heap.size)
      have hA : ∀ q : Nat, s.heap.size ≤ q → va_A (kW tc ad 0 hp) s.heap.size q := fun q h => Or.inr h
      rw [lg_entry_eq]
      refine kU_ok (M := (y, cc, maxL, ret, n, sta, ci)) (mm := a) (r0 := r) (d := d) (st := []) (tbl := tbl) (mi := mi) hx hb hml hown hts (fun w q => List.mem_cons_of_mem _ q) hG hK hro hz hA ⟨Nat.le_refl _, Nat.le_refl _, Nat.le_refl _, Nat.le_refl _⟩ hMok (hblk a _ hm) ih ?_ h hc1 (kEnt_has ad maxL as hc1) ⟨hP, hD, va_S.rf⟩
      intro i a2 pc st hp2 ls H locs hd hrk hrt hI
      have hfin : ∀ (v : Option Value) (t : State), t.heap = H → r = (v, hp2) → kQc D cl tc ad hp s.heap.size r.1 r.2 (as.map (kV ad)).toArray s (.returned (v.map (kV ad))) t := by
        intro v t ht hr0
        rw [hr0]
        exact ⟨rfl, by rw [ht]; exact hI.1, hI.2.1, hI.2.2.F ht⟩
      cases i
      case ireturn =>
        simp only [kRt] at hrt
        split at hrt
        · rename_i x
          rcases hrk with ⟨z1, z2⟩ | ⟨z1, z2⟩
          · subst z1
            rw [if_pos rfl] at hrt
            exact W.iret (v := x) hx hb (hr.trans z2) (fun t ht _ => hfin (some (.int x)) t ht (Option.some.inj hrt).symm) hI.2.2.2.2 hd
          · subst z1
            rw [if_neg (by decide)] at hrt
            split at hrt
            · rename_i h01
              exact W.zret (v := x) hx hb (hr.trans z2) (by rcases h01 with rfl | rfl <;> rfl) (fun t ht _ => hfin (some (.int x)) t ht (Option.some.inj hrt).symm) hI.2.2.2.2 hd
            · cases hrt
        · cases hrt
      case lreturn =>
        simp only [kRt] at hrt
        split at hrt
        · rename_i x
          exact W.lret (v := x) hx hb (hr.trans hrk) (fun t ht _ => hfin (some (.long x)) t ht (Option.some.inj hrt).symm) hI.2.2.2.2 hd
        · cases hrt
      case return_ =>
        simp only [kRt] at hrt
        split at hrt
        · exact W.vret hx hb (hr.trans hrk) (fun t ht _ => hfin none t ht (Option.some.inj hrt).symm) hI.2.2.2.2 hd
        · cases hrt
      all_goals exact hrk.elim
    · cases h
end KSnd
