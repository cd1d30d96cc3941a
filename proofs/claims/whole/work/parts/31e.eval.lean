/-! ops of the law -/
/-- ops of the law: (which, value); a class's step for it -/
def encO (o : Int × Int) : Int := if o.1 = 1 then o.2 else if o.1 = 2 then -1 - o.2 else if o.1 = 3 then -33 else if o.1 = 4 then -110 else -o.1
def okO (o : Int × Int) : Prop := (o.1 = 1 ∧ 0 ≤ o.2 ∧ o.2 ≤ 9999) ∨ (o.1 = 2 ∧ 0 ≤ o.2 ∧ o.2 ≤ 5) ∨ o.1 = 3 ∨ o.1 = 4 ∨ o.1 = 43 ∨ o.1 = 45 ∨ o.1 = 42 ∨ o.1 = 47 ∨ o.1 = 37 ∨ o.1 = 60 ∨ o.1 = 61 ∨ o.1 = 62 ∨ o.1 = 38 ∨ o.1 = 124
/-- how high the pile stands behind ops -/
def hgtO : List (Int × Int) → Nat → Option Nat
  | [], h => some h
  | o :: r, h => if o.1 = 1 ∨ o.1 = 2 then hgtO r (h + 1) else if o.1 = 3 ∨ o.1 = 4 then (if 1 ≤ h then hgtO r h else none) else (if 2 ≤ h then hgtO r (h - 1) else none)
def wfO (os : List (Int × Int)) : Prop := (∀ o ∈ os, okO o) ∧ ∀ h, hgtO os h = some (h + 1)
abbrev zLn : Type := List (Int × Int) × List (Int × Int)
def encL (l : zLn) : List Int := l.1.map encO ++ (l.2.map encO ++ [if l.1 = [] then -59 else -63])
def encC : List zLn → List Int
  | [] => []
  | l :: r => encL l ++ encC r
def opsL : List zLn → List (Int × Int)
  | [] => []
  | l :: r => l.1 ++ (l.2 ++ opsL r)
/-- the lines' ends, the first line beginning at k -/
def endsL (te le : Nat → Int) : Nat → Nat → List zLn → Prop
  | _, _, [] => True
  | i, k, l :: r => te i = ((k + l.1.length : Nat) : Int) ∧ le i = ((k + l.1.length + l.2.length : Nat) : Int) ∧ endsL te le (i + 1) (k + l.1.length + l.2.length) r
def zStp (a : zSt) : Nat → Int := if a 1 3 = 12 then a 12 else a 13
def zLawR (a : zSt) (ls : List zLn) : Prop := ls ≠ [] ∧ (∀ l ∈ ls, (l.1 = [] ∨ wfO l.1) ∧ wfO l.2) ∧ (encC ls).length ≤ 121 ∧ a 1 4 = (encC ls).length ∧ (∀ k v, (encC ls)[k]? = some v → zStp a k = v)
  ∧ ls.length ≤ 61 ∧ a 60 0 = ls.length ∧ (opsL ls).length ≤ 130 ∧ (∀ k o, (opsL ls)[k]? = some o → a 58 k = o.1 ∧ a 59 k = o.2) ∧ endsL (a 61) (a 62) 0 0 ls
def zLaw (a : zSt) : Prop := ((a 1 3 = 12 ∧ a 1 5 = 13) ∨ (a 1 3 = 13 ∧ a 1 5 = 12)) ∧ ((a 42 36 = 0 ∧ a 1 4 = 0) ∨ (a 42 36 = 1 ∧ ∃ ls, zLawR a ls))
theorem zLaw_pos {a : zSt} (h : zLaw a) : (a 42 36 = 0 ∧ a 1 4 = 0) ∨ (a 42 36 = 1 ∧ 0 < a 1 4) := by
  rcases h.2 with h | ⟨h1, ls, h2, h3, h4, h5, h6⟩
  · exact Or.inl h
  · refine Or.inr ⟨h1, ?_⟩
    rw [h5]
    cases ls with
    | nil => exact absurd rfl h2
    | cons l r =>
      simp only [encC, encL, List.length_append, List.length_map, List.length_cons, List.length_nil]
      omega
/-! how a law gives: ops over a pile -/
def pilO (g : Nat → Int) : List Int → Prop
  | [] => True
  | v :: r => g r.length = v ∧ pilO g r
theorem pilO_eq {g g' : Nat → Int} : ∀ {st : List Int}, (∀ i, i < st.length → g' i = g i) → pilO g st → pilO g' st
  | [], _, _ => trivial
  | _ :: r, h, k => ⟨(h _ (Nat.lt_succ_self _)).trans k.1, pilO_eq (fun i hi => h i (Nat.lt_succ_of_lt hi)) k.2⟩
theorem pilO_put {s : zSt} {q : Nat} {v : Int} {r : List Int} (h : pilO (s q) r) : pilO (zU s q r.length v q) (v :: r) := by
  rw [zU_at]
  exact ⟨if_pos rfl, pilO_eq (fun i hi => if_neg (by omega)) h⟩
def foldO (f : Nat → Int) : List (Int × Int) → List Int → List Int
  | [], st => st
  | o :: r, st => foldO f r (opF f o.1 o.2 st)
def atO (a : zSt) (c : Nat) (os : List (Int × Int)) : Prop := ∀ i o, os[i]? = some o → a 58 (c + i) = o.1 ∧ a 59 (c + i) = o.2
def atS (g : Nat → Int) (i : Nat) (l : List Int) : Prop := ∀ j v, l[j]? = some v → g (i + j) = v
theorem atO_app {a : zSt} {c : Nat} {os ps : List (Int × Int)} (h : atO a c (os ++ ps)) : atO a c os ∧ atO a (c + os.length) ps := ⟨fun i o hi => h i o (by rw [List.getElem?_append_left (List.getElem?_eq_some_iff.mp hi).1]; exact hi), fun i o hi => by
  have := h (os.length + i) o (by rw [List.getElem?_append_right (by omega), show os.length + i - os.length = i by omega]; exact hi)
  rw [← Nat.add_assoc] at this
  exact this⟩
theorem atS_app {g : Nat → Int} {c : Nat} {os ps : List Int} (h : atS g c (os ++ ps)) : atS g c os ∧ atS g (c + os.length) ps := ⟨fun i o hi => h i o (by rw [List.getElem?_append_left (List.getElem?_eq_some_iff.mp hi).1]; exact hi), fun i o hi => by
  have := h (os.length + i) o (by rw [List.getElem?_append_right (by omega), show os.length + i - os.length = i by omega]; exact hi)
  rw [← Nat.add_assoc] at this
  exact this⟩
theorem runF_fold {a : zSt} {f : Nat → Int} : ∀ (os : List (Int × Int)) (k : Nat) (st : List Int), atO a k os → runF a f os.length k st = foldO f os st
  | [], _, _, _ => rfl
  | o :: r, k, st, h => by
    have h0 : a 58 k = o.1 ∧ a 59 k = o.2 := h 0 o rfl
    show runF a f r.length (k + 1) (opF f (a 58 k) (a 59 k) st) = foldO f r (opF f o.1 o.2 st)
    rw [h0.1, h0.2]
    exact runF_fold r (k + 1) _ (fun i o hi => by
      rw [show k + 1 + i = k + (i + 1) by omega]
      exact h (i + 1) o hi)
def valO (f : Nat → Int) (os : List (Int × Int)) : Int := (foldO f os []).headD 0
theorem workF_val {a : zSt} {f : Nat → Int} {os : List (Int × Int)} {c : Nat} (h : atO a c os) {u v : Int} (hu : u = c) (hv : v = ((c + os.length : Nat) : Int)) : workF a f u v = valO f os := by
  unfold workF valO
  rw [hu, hv, show (((c + os.length : Nat) : Int) - (c : Int)).toNat = os.length by omega, Int.toNat_natCast, runF_fold os c [] h]
theorem opFb {f : Nat → Int} {w v x y : Int} {r : List Int} (hw : w ≠ 1 ∧ w ≠ 2 ∧ w ≠ 3 ∧ w ≠ 4) : opF f w v (y :: x :: r) = twoF w x y :: r := by
  unfold opF
  rw [if_neg hw.1, if_neg hw.2.1, if_neg hw.2.2.1, if_neg hw.2.2.2]
/-- what an op needs, what it leaves -/
theorem hgtO_1 {w v : Int} {r : List (Int × Int)} {h : Nat} (hw : w = 1 ∨ w = 2) : hgtO ((w, v) :: r) h = hgtO r (h + 1) := if_pos hw
theorem hgtO_3 {w v : Int} {r : List (Int × Int)} {h n : Nat} (hw : w = 3 ∨ w = 4) (e : hgtO ((w, v) :: r) h = some n) : 1 ≤ h ∧ hgtO r h = some n := by
  have e : (if w = 1 ∨ w = 2 then hgtO r (h + 1) else if w = 3 ∨ w = 4 then (if 1 ≤ h then hgtO r h else none) else (if 2 ≤ h then hgtO r (h - 1) else none)) = some n := e
  rw [if_neg (by omega), if_pos hw] at e
  split at e
  · rename_i h1
    exact ⟨h1, e⟩
  · cases e
theorem hgtO_b {w v : Int} {r : List (Int × Int)} {h n : Nat} (hw : w ≠ 1 ∧ w ≠ 2 ∧ w ≠ 3 ∧ w ≠ 4) (e : hgtO ((w, v) :: r) h = some n) : 2 ≤ h ∧ hgtO r (h - 1) = some n := by
  have e : (if w = 1 ∨ w = 2 then hgtO r (h + 1) else if w = 3 ∨ w = 4 then (if 1 ≤ h then hgtO r h else none) else (if 2 ≤ h then hgtO r (h - 1) else none)) = some n := e
  rw [if_neg (by omega), if_neg (by omega)] at e
  split at e
  · rename_i h1
    exact ⟨h1, e⟩
  · cases e
theorem okO_cases {w v : Int} (h : okO (w, v)) : (w = 1 ∧ 0 ≤ v ∧ v ≤ 9999) ∨ (w = 2 ∧ 0 ≤ v ∧ v ≤ 5) ∨ (w = 3 ∨ w = 4) ∨ (w = 43 ∨ w = 45 ∨ w = 42 ∨ w = 47 ∨ w = 37 ∨ w = 60 ∨ w = 61 ∨ w = 62 ∨ w = 38 ∨ w = 124) := by
  unfold okO at h
  dsimp only at h
  omega
theorem foldO_app {f : Nat → Int} : ∀ (os : List (Int × Int)) (st t : List Int) (n : Nat), (∀ o ∈ os, okO o) → hgtO os st.length = some n → foldO f os (st ++ t) = foldO f os st ++ t ∧ (foldO f os st).length = n
  | [], st, t, n, _, h => ⟨rfl, Option.some.inj h⟩
  | (w, v) :: r, st, t, n, ok, h => by
    have okr : ∀ o ∈ r, okO o := fun o ho => ok o (List.mem_cons_of_mem _ ho)
    have k := okO_cases (ok (w, v) List.mem_cons_self)
    show foldO f r (opF f w v (st ++ t)) = foldO f r (opF f w v st) ++ t ∧ (foldO f r (opF f w v st)).length = n
    rcases k with k | k | k | k
    · rw [hgtO_1 (Or.inl k.1)] at h
      rw [k.1]
      exact foldO_app r (v :: st) t n okr h
    · rw [hgtO_1 (Or.inr k.1)] at h
      rw [k.1]
      exact foldO_app r (f v.toNat :: st) t n okr h
    · obtain ⟨h1, h2⟩ := hgtO_3 k h
      match st, h1, h2 with
      | y :: r', _, h2 =>
        rcases k with k | k
        · rw [k]
          exact foldO_app r ((if y = 0 then 1 else 0) :: r') t n okr h2
        · rw [k]
          exact foldO_app r (wr (-y) :: r') t n okr h2
    · have hw : w ≠ 1 ∧ w ≠ 2 ∧ w ≠ 3 ∧ w ≠ 4 := by omega
      obtain ⟨h1, h2⟩ := hgtO_b hw h
      match st, h1, h2 with
      | [y], h1, _ => exact absurd h1 (by simp)
      | y :: z :: r', _, h2 =>
        rw [List.cons_append, List.cons_append, opFb hw, opFb hw]
        exact foldO_app r (twoF w z y :: r') t n okr h2
theorem foldO_wf {f : Nat → Int} {os : List (Int × Int)} (h : wfO os) (t : List Int) : foldO f os t = valO f os :: t := by
  have k := foldO_app (f := f) os [] t 1 h.1 (h.2 0)
  rw [List.nil_append] at k
  rw [k.1]
  unfold valO
  match foldO f os [], k.2 with
  | [v], _ => rfl
theorem wfO_pos {os : List (Int × Int)} (h : wfO os) : 0 < os.length := by
  cases os with
  | nil =>
    have := h.2 0
    cases this
  | cons o r => exact Nat.succ_pos _
theorem tdm1 (a : Int) : a.tdiv (-1) = -a := by rw [Int.tdiv_neg, Int.tdiv_one]
theorem tmm1 (a : Int) : a.tmod (-1) = 0 := by rw [Int.tmod_neg, Int.tmod_one]
theorem td_m1 {u v : Int} (e : v = -1) : wr (-u) = wr (u.tdiv v) := by rw [e, tdm1]
theorem tm_m1 {u v : Int} (e : v = -1) : (0 : Int) = wr (u.tmod v) := by
  rw [e, tmm1]
  rfl
abbrev isTwo (w : Int) : Prop := w = 43 ∨ w = 45 ∨ w = 42 ∨ w = 47 ∨ w = 37 ∨ w = 60 ∨ w = 61 ∨ w = 62 ∨ w = 38 ∨ w = 124
section ZEval
variable {x : List Int} {d : Nat} {a s : zSt} {Q : zQ} {f : Nat → Int}
theorem m77 {v : Int} (hv : v = 0 ∨ v = 1) (h : Q (some (.inl v)) s) : zE x (d + 1) 77 [.inl v] s Q := by
  refine N77 ?_
  repeat' (first | with_reducible refine B77_0 ?_ | with_reducible refine B77_8 ?_ | with_reducible refine B77_9 ?_ | with_reducible refine ⟨fun _ => ?_, fun _ => ?_⟩ | refine ⟨by omega, by omega, ?_⟩ | fail)
  all_goals exact zQi h (by omega)
theorem m75 {w v : Int} (hw : w = 33 ∨ w = 110) (h : Q (some (.inl (if w = 33 then (if v = 0 then 1 else 0) else wr (-v)))) s) : zE x (d + 2) 75 [.inl w, .inl v] s Q := by
  refine N75 ?_
  repeat' (first | with_reducible refine B75_0 ?_ | with_reducible refine B75_14 ?_ | with_reducible refine B75_15 ?_ | with_reducible refine B75_18 ?_ | with_reducible refine B75_21 ?_ | with_reducible refine B75_23 ?_ | with_reducible refine ⟨fun _ => ?_, fun _ => ?_⟩ | (refine m77 (by omega) ?_) | refine ⟨by omega, by omega, ?_⟩ | fail)
  all_goals refine zQi h ?_
  · rw [if_neg (by omega)]
  · rw [if_pos (by omega), if_neg (by omega)]
  · rw [if_pos (by omega), if_pos (by omega)]
theorem m76 {w u v : Int} (hw : isTwo w) (h : Q (some (.inl (twoF w u v))) s) : zE x (d + 2) 76 [.inl w, .inl u, .inl v] s Q := by
  have l : ∀ {w' : Int}, twoF w u v = w' → Q (some (.inl w')) s := fun e => zQi h e
  unfold twoF at l
  refine N76 ?_
  repeat' (first | with_reducible refine B76_0 ?_ | with_reducible refine B76_92 ?_ | with_reducible refine B76_100 ?_ | with_reducible refine B76_104 ?_ | with_reducible refine B76_105 ?_ | with_reducible refine B76_108 ?_ | with_reducible refine B76_109 ?_ | with_reducible refine B76_121 ?_ | with_reducible refine B76_122 ?_ | with_reducible refine B76_125 ?_ | with_reducible refine B76_126 ?_ | with_reducible refine B76_135 ?_ | with_reducible refine B76_136 ?_ | with_reducible refine B76_139 ?_ | with_reducible refine B76_140 ?_ | with_reducible refine B76_149 ?_ | with_reducible refine B76_150 ?_ | with_reducible refine B76_153 ?_ | with_reducible refine B76_154 ?_ | with_reducible refine B76_163 ?_ | with_reducible refine B76_164 ?_ | with_reducible refine B76_167 ?_ | with_reducible refine B76_168 ?_ | with_reducible refine B76_172 ?_ | with_reducible refine B76_176 ?_ | with_reducible refine B76_180 ?_ | with_reducible refine B76_188 ?_ | with_reducible refine B76_191 ?_ | with_reducible refine B76_192 ?_ | with_reducible refine B76_200 ?_ | with_reducible refine B76_203 ?_ | with_reducible refine B76_204 ?_ | with_reducible refine ⟨fun _ => ?_, fun _ => ?_⟩ | (refine m77 (by omega) ?_) | (rw [if_neg (by assumption)]) | refine ⟨by omega, by omega, ?_⟩ | fail)
  all_goals try (exfalso; omega)
  all_goals apply l
  all_goals subst_vars
  all_goals first | rfl | ((repeat' split) <;> first | rfl | omega | exact td_m1 (by omega) | exact tm_m1 (by omega))
theorem m201 {w u v : Int} (hw : isTwo w) (h : Q (some (.inl (twoF w u v))) s) : zE x (d + 1) 201 [.inl w, .inl u, .inl v] s Q := by
  have l : ∀ {w' : Int}, twoF w u v = w' → Q (some (.inl w')) s := fun e => zQi h e
  unfold twoF at l
  refine N201 ?_
  repeat' (first | with_reducible refine B201_0 ?_ | with_reducible refine B201_120 ?_ | with_reducible refine B201_124 ?_ | with_reducible refine B201_128 ?_ | with_reducible refine B201_132 ?_ | with_reducible refine B201_140 ?_ | with_reducible refine B201_150 ?_ | with_reducible refine B201_153 ?_ | with_reducible refine B201_154 ?_ | with_reducible refine B201_163 ?_ | with_reducible refine B201_167 ?_ | with_reducible refine B201_170 ?_ | with_reducible refine B201_171 ?_ | with_reducible refine B201_180 ?_ | with_reducible refine B201_181 ?_ | with_reducible refine B201_182 ?_ | with_reducible refine B201_191 ?_ | with_reducible refine B201_192 ?_ | with_reducible refine B201_193 ?_ | with_reducible refine B201_202 ?_ | with_reducible refine B201_203 ?_ | with_reducible refine B201_204 ?_ | with_reducible refine B201_216 ?_ | with_reducible refine B201_217 ?_ | with_reducible refine B201_218 ?_ | with_reducible refine B201_226 ?_ | with_reducible refine B201_230 ?_ | with_reducible refine B201_231 ?_ | with_reducible refine ⟨fun _ => ?_, fun _ => ?_⟩ | (rw [if_neg (by assumption)]) | refine ⟨by omega, by omega, ?_⟩ | fail)
  all_goals try (exfalso; omega)
  all_goals apply l
  all_goals subst_vars
  all_goals first | rfl | ((repeat' split) <;> first | rfl | omega | exact td_m1 (by omega) | exact tm_m1 (by omega))
/-- the class over ops -/
theorem m74a_ops {k m : Int} {n4 : Nat} (h3 : a 1 3 = 12) (h4 : a 1 4 = n4) (h121 : n4 ≤ 121) : ∀ (os : List (Int × Int)) (st : List Int) (i n : Nat) (s : zSt) (o5 : Option zV), (∀ o ∈ os, okO o) → hgtO os st.length = some n → st.length + os.length ≤ 121 → i + os.length < n4 → atS (a 12) i (os.map encO) → zSim a s → (∀ v : Int, 0 ≤ v ∧ v ≤ 5 → s 15 v.toNat = f v.toNat) → pilO (s 14) st →
    (∀ s' o', zFr [14] s s' → pilO (s' 14) (foldO f os st) → zJ x (d + 2) 74 19 [some (.inr (.inl 1)), some (.inl k), some (.inl m), some (.inl ((foldO f os st).length : Int)), some (.inl ((i + os.length : Nat) : Int)), o'] [] s' Q) → zJ x (d + 2) 74 19 [some (.inr (.inl 1)), some (.inl k), some (.inl m), some (.inl (st.length : Int)), some (.inl (i : Int)), o5] [] s Q
  | [], st, i, n, s, o5, _, _, _, _, _, _, _, hp, K => K s o5 zFr.rf hp
  | (w, v) :: r, st, i, n, s, o5, ok, hg, hl, hi, ht, hs, hf, hp, K => by
    have okr : ∀ o ∈ r, okO o := fun o ho => ok o (List.mem_cons_of_mem _ ho)
    have kc := okO_cases (ok (w, v) List.mem_cons_self)
    rw [List.length_cons] at hl hi
    have e1 : s 1 = a 1 := hs 1 rfl
    have eq : s 12 = a 12 := hs 12 rfl
    have e0 : s 12 ((i : Nat) : Int).toNat = encO (w, v) := by
      rw [eq, Int.toNat_natCast]
      exact ht 0 _ rfl
    have htr : atS (a 12) (i + 1) (r.map encO) := fun j u hj => by
      rw [show i + 1 + j = i + (j + 1) by omega]
      exact ht (j + 1) u hj
    have K' : ∀ st', foldO f ((w, v) :: r) st = foldO f r st' → ∀ s2, zFr [14] s s2 → ∀ s' o', zFr [14] s2 s' → pilO (s' 14) (foldO f r st') → zJ x (d + 2) 74 19 [some (.inr (.inl 1)), some (.inl k), some (.inl m), some (.inl ((foldO f r st').length : Int)), some (.inl ((i + 1 + r.length : Nat) : Int)), o'] [] s' Q := fun st' e s2 h2 s' o' h h' => by
      have g := K s' o' (h2.tr h) (by rw [e]; exact h')
      rw [e, List.length_cons, show i + (r.length + 1) = i + 1 + r.length by omega] at g
      exact g
    refine B74a_19 ⟨fun c => absurd c (by rw [e1]; omega), fun _ => B74a_28 (by rw [e1]; omega) ⟨by omega, by omega, ?_⟩⟩
    rw [e0]
    have nx : wr ((i : Int) + 1) = ((i + 1 : Nat) : Int) := by rw [wr_id (by unfold zR; omega)]; omega
    rcases kc with kc | kc | kc | kc
    · obtain ⟨rfl, k1, k2⟩ := kc
      rw [hgtO_1 (Or.inl rfl)] at hg
      have ee : encO (1, v) = v := rfl
      rw [ee]
      refine ⟨fun c => absurd c (by omega), fun _ => B74a_44 ⟨fun c => absurd c (by omega), fun _ => B74a_53 ⟨fun c => absurd c (by omega), fun _ => B74a_63 (B74a_77 ⟨by omega, by omega, B74a_217 ?_⟩)⟩⟩⟩
      rw [nx, Int.toNat_natCast, show wr ((st.length : Int) + 1) = (((v :: st).length : Nat) : Int) by rw [wr_id (by unfold zR; omega), List.length_cons]; omega]
      exact m74a_ops h3 h4 h121 r (v :: st) (i + 1) n _ _ okr hg (by rw [List.length_cons]; omega) (by omega) htr (hs.U rfl _ _) (fun u hu => hf u hu) (pilO_put hp) (K' _ rfl _ (zFr.rf.U rfl _ _))
    · obtain ⟨rfl, k1, k2⟩ := kc
      rw [hgtO_1 (Or.inr rfl)] at hg
      have ee : encO (2, v) = -1 - v := rfl
      rw [ee]
      refine ⟨fun c => absurd c (by omega), fun _ => B74a_44 ⟨fun c => absurd c (by omega), fun _ => B74a_53 ⟨fun _ => B74a_68 ?_, fun c => absurd c (by omega)⟩⟩⟩
      rw [wr_id (x := -1 - (-1 - v)) (by unfold zR; omega), show -1 - (-1 - v) = v by omega, hf v (by omega)]
      refine ⟨by omega, by omega, B74a_77 ⟨by omega, by omega, B74a_217 ?_⟩⟩
      rw [nx, Int.toNat_natCast, show wr ((st.length : Int) + 1) = (((f v.toNat :: st).length : Nat) : Int) by rw [wr_id (by unfold zR; omega), List.length_cons]; omega]
      exact m74a_ops h3 h4 h121 r (f v.toNat :: st) (i + 1) n _ _ okr hg (by rw [List.length_cons]; omega) (by omega) htr (hs.U rfl _ _) (fun u hu => hf u hu) (pilO_put hp) (K' _ rfl _ (zFr.rf.U rfl _ _))
    · obtain ⟨h1, h2⟩ := hgtO_3 kc hg
      match st, h1, h2, hl, hp, K' with
      | y :: r', _, h2, hl, hp, K' =>
        rw [List.length_cons] at hl
        have w1 : wr (((y :: r').length : Int) - 1) = (r'.length : Int) := by rw [List.length_cons, wr_id (by unfold zR; omega)]; omega
        have go : ∀ e : Int, (w = 3 ∧ e = 33) ∨ (w = 4 ∧ e = 110) → zJ x (d + 2) 74 121 [some (.inr (.inl 1)), some (.inl k), some (.inl m), some (.inl ((y :: r').length : Int)), some (.inl (i : Int)), some (.inl (-e))] [] s Q := fun e he => by
          refine B74a_121 ?_
          rw [w1, Int.toNat_natCast, hp.1, wr_id (x := - -e) (by unfold zR; omega), Int.neg_neg]
          refine ⟨by omega, by omega, m75 (by omega) (B74a_142 ⟨by omega, by omega, B74a_217 ?_⟩)⟩
          rw [nx, Int.toNat_natCast]
          have go2 : ∀ z, foldO f ((w, v) :: r) (y :: r') = foldO f r (z :: r') → zJ x (d + 2) 74 19 [some (.inr (.inl 1)), some (.inl k), some (.inl m), some (.inl ((y :: r').length : Int)), some (.inl ((i + 1 : Nat) : Int)), some (.inl (-e))] [] (zU s 14 r'.length z) Q := fun z hz =>
            m74a_ops h3 h4 h121 r (z :: r') (i + 1) n _ _ okr h2 (by rw [List.length_cons]; omega) (by omega) htr (hs.U rfl _ _) (fun u hu => hf u hu) (pilO_put hp.2) (K' _ hz _ (zFr.rf.U rfl _ _))
          rcases he with ⟨e1, e2⟩ | ⟨e1, e2⟩
          · rw [if_pos e2]
            exact go2 _ (by rw [e1]; rfl)
          · rw [if_neg (by omega)]
            exact go2 _ (by rw [e1]; rfl)
        rcases kc with k3 | k4
        · have ee : encO (w, v) = -33 := by rw [k3]; rfl
          rw [ee]
          exact ⟨fun _ => B74a_84 ⟨fun _ => B74a_91 ⟨fun _ => B74a_107 ⟨fun _ => go 33 (Or.inl ⟨k3, rfl⟩), fun c => absurd rfl c⟩, fun c => absurd (by decide) c⟩, fun c => absurd c (by rw [List.length_cons]; omega)⟩, fun c => absurd (by decide) c⟩
        · have ee : encO (w, v) = -110 := by rw [k4]; rfl
          rw [ee]
          exact ⟨fun _ => B74a_84 ⟨fun _ => B74a_91 ⟨fun _ => B74a_107 ⟨fun c => absurd c (by decide), fun _ => B74a_114 ⟨fun c => absurd rfl c, fun _ => go 110 (Or.inr ⟨k4, rfl⟩)⟩⟩, fun c => absurd (by decide) c⟩, fun c => absurd c (by rw [List.length_cons]; omega)⟩, fun c => absurd (by decide) c⟩
    · have hw : w ≠ 1 ∧ w ≠ 2 ∧ w ≠ 3 ∧ w ≠ 4 := by omega
      obtain ⟨h1, h2⟩ := hgtO_b hw hg
      match st, h1, h2, hl, hp, K' with
      | [y], h1, _, _, _, _ => exact absurd h1 (by simp)
      | y :: z :: r', _, h2, hl, hp, K' =>
        rw [List.length_cons, List.length_cons] at hl
        have ee : encO (w, v) = -w := by
          unfold encO
          dsimp only
          rw [if_neg hw.1, if_neg hw.2.1, if_neg hw.2.2.1, if_neg hw.2.2.2]
        rw [ee]
        have w1 : wr (((y :: z :: r').length : Int) + -1) = (((z :: r').length : Nat) : Int) := by rw [List.length_cons, wr_id (by rw [List.length_cons]; unfold zR; omega)]; omega
        have w2 : wr ((((z :: r').length : Nat) : Int) - 1) = (r'.length : Int) := by rw [List.length_cons, wr_id (by unfold zR; omega)]; omega
        refine ⟨fun _ => B74a_84 ⟨fun _ => B74a_91 ⟨fun _ => B74a_107 ⟨fun c => absurd c (by omega), fun _ => B74a_114 ⟨fun _ => B74a_146 ⟨fun _ => B74a_153 ⟨fun _ => B74a_186 ?_, fun c => absurd c (by omega)⟩, fun c => absurd c (by rw [List.length_cons, List.length_cons]; omega)⟩, fun c => absurd c (by omega)⟩⟩, fun c => absurd c (by omega)⟩, fun c => absurd c (by rw [List.length_cons]; omega)⟩, fun c => absurd c (by omega)⟩
        rw [w1, w2, Int.toNat_natCast, Int.toNat_natCast, hp.1, hp.2.1, wr_id (x := - -w) (by unfold zR; omega), Int.neg_neg]
        refine ⟨by omega, by omega, by omega, by rw [List.length_cons]; omega, m76 kc (B74a_216 ⟨by omega, by omega, B74a_217 ?_⟩)⟩
        rw [nx, Int.toNat_natCast]
        exact m74a_ops h3 h4 h121 r (twoF w z y :: r') (i + 1) n _ _ okr h2 (by rw [List.length_cons]; omega) (by omega) htr (hs.U rfl _ _) (fun u hu => hf u hu) (pilO_put hp.2.2) (K' _ (by show foldO f r (opF f w v (y :: z :: r')) = _; rw [opFb hw]) _ (zFr.rf.U rfl _ _))
theorem m74a_lines {k m : Int} {n4 : Nat} (h3 : a 1 3 = 12) (h4 : a 1 4 = n4) (h121 : n4 ≤ 121) : ∀ (ls : List zLn) (i l c : Nat) (s : zSt) (o5 : Option zV), (∀ l ∈ ls, (l.1 = [] ∨ wfO l.1) ∧ wfO l.2) → i + (encC ls).length = n4 → atS (a 12) i (encC ls) → atO a c (opsL ls) → endsL (a 61) (a 62) l c ls → zSim a s → (∀ v : Int, 0 ≤ v ∧ v ≤ 5 → s 15 v.toNat = f v.toNat) →
    (∀ s', zFr [14] s s' → Q (some (.inl (givF a f ls.length l c))) s') → zJ x (d + 2) 74 19 [some (.inr (.inl 1)), some (.inl k), some (.inl m), some (.inl 0), some (.inl (i : Int)), o5] [] s Q
  | [], i, l, c, s, o5, _, hi, _, _, _, hs, _, K => by
    have e1 : s 1 = a 1 := hs 1 rfl
    have hi : i + 0 = n4 := hi
    exact B74a_19 ⟨fun _ => B74a_223 (K s zFr.rf), fun e => absurd e (by rw [e1]; omega)⟩
  | ⟨t, b⟩ :: r, i, l, c, s, o5, wf, hi, ht, ho, he, hs, hf, K => by
    have wl := wf (t, b) List.mem_cons_self
    have wfr : ∀ l ∈ r, (l.1 = [] ∨ wfO l.1) ∧ wfO l.2 := fun l hl => wf l (List.mem_cons_of_mem _ hl)
    obtain ⟨et, el, er⟩ := he
    have et : a 61 l = ((c + t.length : Nat) : Int) := et
    have el : a 62 l = ((c + t.length + b.length : Nat) : Int) := el
    have ht : atS (a 12) i ((t.map encO ++ (b.map encO ++ [if t = [] then -59 else -63])) ++ encC r) := ht
    obtain ⟨ht, htr⟩ := atS_app ht
    obtain ⟨htt, htb⟩ := atS_app ht
    obtain ⟨htb, hte⟩ := atS_app htb
    rw [List.length_map] at htb hte
    rw [List.length_map] at hte
    have hte : a 12 (i + t.length + b.length) = (if t = [] then -59 else -63) := hte 0 _ rfl
    have htr : atS (a 12) (i + t.length + b.length + 1) (encC r) := by
      have e : i + (t.map encO ++ (b.map encO ++ [if t = [] then -59 else -63])).length = i + t.length + b.length + 1 := by
        simp only [List.length_append, List.length_map, List.length_cons, List.length_nil]
        omega
      rw [e] at htr
      exact htr
    have ho : atO a c (t ++ (b ++ opsL r)) := ho
    obtain ⟨hot, hob⟩ := atO_app ho
    obtain ⟨hob, hor⟩ := atO_app hob
    have hi : i + ((t.map encO ++ (b.map encO ++ [if t = [] then -59 else -63])) ++ encC r).length = n4 := hi
    simp only [List.length_append, List.length_map, List.length_cons, List.length_nil] at hi
    have e1 : s 1 = a 1 := hs 1 rfl
    have vb : workF a f (a 61 l) (a 62 l) = valO f b := workF_val hob et el
    have K : ∀ s', zFr [14] s s' → Q (some (.inl (if a 61 l = (c : Int) ∨ workF a f c (a 61 l) ≠ 0 then workF a f (a 61 l) (a 62 l) else givF a f r.length (l + 1) (a 62 l)))) s' := K
    rw [vb] at K
    rcases wl.1 with e | wt
    · have e : t = [] := e
      have t0 : t.length = 0 := by rw [e]; rfl
      have et' : a 61 l = (c : Int) := by rw [et]; omega
      rw [if_pos (Or.inl et')] at K
      rw [t0, Nat.add_zero] at htb hte
      rw [if_pos e] at hte
      refine m74a_ops (f := f) h3 h4 h121 b [] i 1 s o5 wl.2.1 (wl.2.2 0) (by show 0 + b.length ≤ 121; omega) (by omega) htb hs hf trivial (fun s2 o2 f2 p2 => ?_)
      rw [foldO_wf wl.2] at p2 ⊢
      have e1 : s2 1 = a 1 := (f2 1 rfl).trans e1
      have eq : s2 12 ((i + b.length : Nat) : Int).toNat = -59 := by
        rw [f2 12 rfl, hs 12 rfl, Int.toNat_natCast]
        exact hte
      refine B74a_19 ⟨fun c => absurd c (by rw [e1]; omega), fun _ => B74a_28 (by rw [e1]; omega) ⟨by omega, by omega, ?_⟩⟩
      rw [eq]
      refine ⟨fun _ => B74a_84 ⟨fun _ => B74a_91 ⟨fun c => absurd rfl c, fun _ => B74a_98 ?_⟩, fun c => absurd c (by show ¬ ¬ (1 : Int) ≤ ((1 : Nat) : Int); omega)⟩, fun c => absurd (by decide) c⟩
      have w0 : wr ((([valO f b].length : Nat) : Int) - 1) = 0 := by
        rw [List.length_singleton]
        decide
      rw [w0]
      exact ⟨by omega, by omega, zQi (K s2 f2) p2.1.symm⟩
    · have wt : wfO t := wt
      have pt := wfO_pos wt
      have vt : workF a f (c : Int) (a 61 l) = valO f t := workF_val hot rfl et
      have nt : t ≠ [] := fun e => by rw [e] at pt; exact absurd pt (by decide)
      rw [vt] at K
      refine m74a_ops (f := f) h3 h4 h121 t [] i 1 s o5 wt.1 (wt.2 0) (by simp only [List.length_nil]; omega) (by omega) htt hs hf trivial (fun s1 o1 f1 p1 => ?_)
      rw [foldO_wf wt] at p1 ⊢
      refine m74a_ops (f := f) h3 h4 h121 b [valO f t] (i + t.length) 2 s1 o1 wl.2.1 (wl.2.2 1) (by simp only [List.length_cons, List.length_nil]; omega) (by omega) htb (hs.tr (f1.le _ rfl)) (fun v hv => by rw [f1 15 rfl]; exact hf v hv) p1 (fun s2 o2 f2 p2 => ?_)
      rw [foldO_wf wl.2] at p2 ⊢
      have f2 := f1.tr f2
      have e1 : s2 1 = a 1 := (f2 1 rfl).trans e1
      have eq : s2 12 ((i + t.length + b.length : Nat) : Int).toNat = -63 := by
        rw [f2 12 rfl, hs 12 rfl, Int.toNat_natCast]
        rw [if_neg nt] at hte
        exact hte
      refine B74a_19 ⟨fun c => absurd c (by rw [e1]; omega), fun _ => B74a_28 (by rw [e1]; omega) ⟨by omega, by omega, ?_⟩⟩
      rw [eq]
      have l2 : (([valO f b, valO f t].length : Nat) : Int) = 2 := rfl
      rw [l2]
      have p0 : s2 14 0 = valO f t := p2.2.1
      have p1 : s2 14 1 = valO f b := p2.1
      refine ⟨fun _ => B74a_84 ⟨fun _ => B74a_91 ⟨fun _ => B74a_107 ⟨fun c => absurd c (by decide), fun _ => B74a_114 ⟨fun _ => B74a_146 ⟨fun _ => B74a_153 ⟨fun c => absurd rfl c, fun _ => B74a_160 ⟨by decide, by decide, fun z => B74a_180 (B74a_217 ?_), fun z => B74a_171 ⟨by decide, by decide, ?_⟩⟩⟩, fun c => absurd (by decide) c⟩, fun c => absurd (by decide) c⟩⟩, fun c => absurd c (by decide)⟩, fun c => absurd (by decide) c⟩, fun c => absurd (by decide) c⟩
      · have z : s2 14 0 = 0 := z
        rw [if_neg (fun g => by rcases g with g | g <;> omega), el] at K
        rw [show wr ((2 : Int) + -2) = 0 from by decide, show wr (((i + t.length + b.length : Nat) : Int) + 1) = ((i + t.length + b.length + 1 : Nat) : Int) by rw [wr_id (by unfold zR; omega)]; omega]
        exact m74a_lines h3 h4 h121 r (i + t.length + b.length + 1) (l + 1) (c + t.length + b.length) s2 _ wfr (by omega) htr hor er (hs.tr (f2.le _ rfl)) (fun v hv => by rw [f2 15 rfl]; exact hf v hv) (fun s' h => K s' (f2.tr h))
      · have z : ¬ s2 14 0 = 0 := z
        rw [if_pos (Or.inr (by omega))] at K
        exact zQi (K s2 f2) p1.symm
/-- the class over ops -/
theorem m74b_ops {k m : Int} {n4 : Nat} (h3 : a 1 3 = 13) (h4 : a 1 4 = n4) (h121 : n4 ≤ 121) : ∀ (os : List (Int × Int)) (st : List Int) (i n : Nat) (s : zSt) (o5 : Option zV), (∀ o ∈ os, okO o) → hgtO os st.length = some n → st.length + os.length ≤ 121 → i + os.length < n4 → atS (a 13) i (os.map encO) → zSim a s → (∀ v : Int, 0 ≤ v ∧ v ≤ 5 → s 15 v.toNat = f v.toNat) → pilO (s 14) st →
    (∀ s' o', zFr [14] s s' → pilO (s' 14) (foldO f os st) → zJ x (d + 2) 74 19 [some (.inr (.inl 1)), some (.inl k), some (.inl m), some (.inl ((foldO f os st).length : Int)), some (.inl ((i + os.length : Nat) : Int)), o'] [] s' Q) → zJ x (d + 2) 74 19 [some (.inr (.inl 1)), some (.inl k), some (.inl m), some (.inl (st.length : Int)), some (.inl (i : Int)), o5] [] s Q
  | [], st, i, n, s, o5, _, _, _, _, _, _, _, hp, K => K s o5 zFr.rf hp
  | (w, v) :: r, st, i, n, s, o5, ok, hg, hl, hi, ht, hs, hf, hp, K => by
    have okr : ∀ o ∈ r, okO o := fun o ho => ok o (List.mem_cons_of_mem _ ho)
    have kc := okO_cases (ok (w, v) List.mem_cons_self)
    rw [List.length_cons] at hl hi
    have e1 : s 1 = a 1 := hs 1 rfl
    have eq : s 13 = a 13 := hs 13 rfl
    have e0 : s 13 ((i : Nat) : Int).toNat = encO (w, v) := by
      rw [eq, Int.toNat_natCast]
      exact ht 0 _ rfl
    have htr : atS (a 13) (i + 1) (r.map encO) := fun j u hj => by
      rw [show i + 1 + j = i + (j + 1) by omega]
      exact ht (j + 1) u hj
    have K' : ∀ st', foldO f ((w, v) :: r) st = foldO f r st' → ∀ s2, zFr [14] s s2 → ∀ s' o', zFr [14] s2 s' → pilO (s' 14) (foldO f r st') → zJ x (d + 2) 74 19 [some (.inr (.inl 1)), some (.inl k), some (.inl m), some (.inl ((foldO f r st').length : Int)), some (.inl ((i + 1 + r.length : Nat) : Int)), o'] [] s' Q := fun st' e s2 h2 s' o' h h' => by
      have g := K s' o' (h2.tr h) (by rw [e]; exact h')
      rw [e, List.length_cons, show i + (r.length + 1) = i + 1 + r.length by omega] at g
      exact g
    refine B74b_19 ⟨fun c => absurd c (by rw [e1]; omega), fun _ => B74b_28 (by rw [e1]; omega) ⟨by omega, by omega, ?_⟩⟩
    rw [e0]
    have nx : wr ((i : Int) + 1) = ((i + 1 : Nat) : Int) := by rw [wr_id (by unfold zR; omega)]; omega
    rcases kc with kc | kc | kc | kc
    · obtain ⟨rfl, k1, k2⟩ := kc
      rw [hgtO_1 (Or.inl rfl)] at hg
      have ee : encO (1, v) = v := rfl
      rw [ee]
      refine ⟨fun c => absurd c (by omega), fun _ => B74b_44 ⟨fun c => absurd c (by omega), fun _ => B74b_53 ⟨fun c => absurd c (by omega), fun _ => B74b_63 (B74b_77 ⟨by omega, by omega, B74b_217 ?_⟩)⟩⟩⟩
      rw [nx, Int.toNat_natCast, show wr ((st.length : Int) + 1) = (((v :: st).length : Nat) : Int) by rw [wr_id (by unfold zR; omega), List.length_cons]; omega]
      exact m74b_ops h3 h4 h121 r (v :: st) (i + 1) n _ _ okr hg (by rw [List.length_cons]; omega) (by omega) htr (hs.U rfl _ _) (fun u hu => hf u hu) (pilO_put hp) (K' _ rfl _ (zFr.rf.U rfl _ _))
    · obtain ⟨rfl, k1, k2⟩ := kc
      rw [hgtO_1 (Or.inr rfl)] at hg
      have ee : encO (2, v) = -1 - v := rfl
      rw [ee]
      refine ⟨fun c => absurd c (by omega), fun _ => B74b_44 ⟨fun c => absurd c (by omega), fun _ => B74b_53 ⟨fun _ => B74b_68 ?_, fun c => absurd c (by omega)⟩⟩⟩
      rw [wr_id (x := -1 - (-1 - v)) (by unfold zR; omega), show -1 - (-1 - v) = v by omega, hf v (by omega)]
      refine ⟨by omega, by omega, B74b_77 ⟨by omega, by omega, B74b_217 ?_⟩⟩
      rw [nx, Int.toNat_natCast, show wr ((st.length : Int) + 1) = (((f v.toNat :: st).length : Nat) : Int) by rw [wr_id (by unfold zR; omega), List.length_cons]; omega]
      exact m74b_ops h3 h4 h121 r (f v.toNat :: st) (i + 1) n _ _ okr hg (by rw [List.length_cons]; omega) (by omega) htr (hs.U rfl _ _) (fun u hu => hf u hu) (pilO_put hp) (K' _ rfl _ (zFr.rf.U rfl _ _))
    · obtain ⟨h1, h2⟩ := hgtO_3 kc hg
      match st, h1, h2, hl, hp, K' with
      | y :: r', _, h2, hl, hp, K' =>
        rw [List.length_cons] at hl
        have w1 : wr (((y :: r').length : Int) - 1) = (r'.length : Int) := by rw [List.length_cons, wr_id (by unfold zR; omega)]; omega
        have go : ∀ e : Int, (w = 3 ∧ e = 33) ∨ (w = 4 ∧ e = 110) → zJ x (d + 2) 74 121 [some (.inr (.inl 1)), some (.inl k), some (.inl m), some (.inl ((y :: r').length : Int)), some (.inl (i : Int)), some (.inl (-e))] [] s Q := fun e he => by
          refine B74b_121 ?_
          rw [w1, Int.toNat_natCast, hp.1, wr_id (x := - -e) (by unfold zR; omega), Int.neg_neg]
          refine ⟨by omega, by omega, m75 (by omega) (B74b_142 ⟨by omega, by omega, B74b_217 ?_⟩)⟩
          rw [nx, Int.toNat_natCast]
          have go2 : ∀ z, foldO f ((w, v) :: r) (y :: r') = foldO f r (z :: r') → zJ x (d + 2) 74 19 [some (.inr (.inl 1)), some (.inl k), some (.inl m), some (.inl ((y :: r').length : Int)), some (.inl ((i + 1 : Nat) : Int)), some (.inl (-e))] [] (zU s 14 r'.length z) Q := fun z hz =>
            m74b_ops h3 h4 h121 r (z :: r') (i + 1) n _ _ okr h2 (by rw [List.length_cons]; omega) (by omega) htr (hs.U rfl _ _) (fun u hu => hf u hu) (pilO_put hp.2) (K' _ hz _ (zFr.rf.U rfl _ _))
          rcases he with ⟨e1, e2⟩ | ⟨e1, e2⟩
          · rw [if_pos e2]
            exact go2 _ (by rw [e1]; rfl)
          · rw [if_neg (by omega)]
            exact go2 _ (by rw [e1]; rfl)
        rcases kc with k3 | k4
        · have ee : encO (w, v) = -33 := by rw [k3]; rfl
          rw [ee]
          exact ⟨fun _ => B74b_84 ⟨fun _ => B74b_91 ⟨fun _ => B74b_107 ⟨fun _ => go 33 (Or.inl ⟨k3, rfl⟩), fun c => absurd rfl c⟩, fun c => absurd (by decide) c⟩, fun c => absurd c (by rw [List.length_cons]; omega)⟩, fun c => absurd (by decide) c⟩
        · have ee : encO (w, v) = -110 := by rw [k4]; rfl
          rw [ee]
          exact ⟨fun _ => B74b_84 ⟨fun _ => B74b_91 ⟨fun _ => B74b_107 ⟨fun c => absurd c (by decide), fun _ => B74b_114 ⟨fun c => absurd rfl c, fun _ => go 110 (Or.inr ⟨k4, rfl⟩)⟩⟩, fun c => absurd (by decide) c⟩, fun c => absurd c (by rw [List.length_cons]; omega)⟩, fun c => absurd (by decide) c⟩
    · have hw : w ≠ 1 ∧ w ≠ 2 ∧ w ≠ 3 ∧ w ≠ 4 := by omega
      obtain ⟨h1, h2⟩ := hgtO_b hw hg
      match st, h1, h2, hl, hp, K' with
      | [y], h1, _, _, _, _ => exact absurd h1 (by simp)
      | y :: z :: r', _, h2, hl, hp, K' =>
        rw [List.length_cons, List.length_cons] at hl
        have ee : encO (w, v) = -w := by
          unfold encO
          dsimp only
          rw [if_neg hw.1, if_neg hw.2.1, if_neg hw.2.2.1, if_neg hw.2.2.2]
        rw [ee]
        have w1 : wr (((y :: z :: r').length : Int) + -1) = (((z :: r').length : Nat) : Int) := by rw [List.length_cons, wr_id (by rw [List.length_cons]; unfold zR; omega)]; omega
        have w2 : wr ((((z :: r').length : Nat) : Int) - 1) = (r'.length : Int) := by rw [List.length_cons, wr_id (by unfold zR; omega)]; omega
        refine ⟨fun _ => B74b_84 ⟨fun _ => B74b_91 ⟨fun _ => B74b_107 ⟨fun c => absurd c (by omega), fun _ => B74b_114 ⟨fun _ => B74b_146 ⟨fun _ => B74b_153 ⟨fun _ => B74b_186 ?_, fun c => absurd c (by omega)⟩, fun c => absurd c (by rw [List.length_cons, List.length_cons]; omega)⟩, fun c => absurd c (by omega)⟩⟩, fun c => absurd c (by omega)⟩, fun c => absurd c (by rw [List.length_cons]; omega)⟩, fun c => absurd c (by omega)⟩
        rw [w1, w2, Int.toNat_natCast, Int.toNat_natCast, hp.1, hp.2.1, wr_id (x := - -w) (by unfold zR; omega), Int.neg_neg]
        refine ⟨by omega, by omega, by omega, by rw [List.length_cons]; omega, m76 kc (B74b_216 ⟨by omega, by omega, B74b_217 ?_⟩)⟩
        rw [nx, Int.toNat_natCast]
        exact m74b_ops h3 h4 h121 r (twoF w z y :: r') (i + 1) n _ _ okr h2 (by rw [List.length_cons]; omega) (by omega) htr (hs.U rfl _ _) (fun u hu => hf u hu) (pilO_put hp.2.2) (K' _ (by show foldO f r (opF f w v (y :: z :: r')) = _; rw [opFb hw]) _ (zFr.rf.U rfl _ _))
theorem m74b_lines {k m : Int} {n4 : Nat} (h3 : a 1 3 = 13) (h4 : a 1 4 = n4) (h121 : n4 ≤ 121) : ∀ (ls : List zLn) (i l c : Nat) (s : zSt) (o5 : Option zV), (∀ l ∈ ls, (l.1 = [] ∨ wfO l.1) ∧ wfO l.2) → i + (encC ls).length = n4 → atS (a 13) i (encC ls) → atO a c (opsL ls) → endsL (a 61) (a 62) l c ls → zSim a s → (∀ v : Int, 0 ≤ v ∧ v ≤ 5 → s 15 v.toNat = f v.toNat) →
    (∀ s', zFr [14] s s' → Q (some (.inl (givF a f ls.length l c))) s') → zJ x (d + 2) 74 19 [some (.inr (.inl 1)), some (.inl k), some (.inl m), some (.inl 0), some (.inl (i : Int)), o5] [] s Q
  | [], i, l, c, s, o5, _, hi, _, _, _, hs, _, K => by
    have e1 : s 1 = a 1 := hs 1 rfl
    have hi : i + 0 = n4 := hi
    exact B74b_19 ⟨fun _ => B74b_223 (K s zFr.rf), fun e => absurd e (by rw [e1]; omega)⟩
  | ⟨t, b⟩ :: r, i, l, c, s, o5, wf, hi, ht, ho, he, hs, hf, K => by
    have wl := wf (t, b) List.mem_cons_self
    have wfr : ∀ l ∈ r, (l.1 = [] ∨ wfO l.1) ∧ wfO l.2 := fun l hl => wf l (List.mem_cons_of_mem _ hl)
    obtain ⟨et, el, er⟩ := he
    have et : a 61 l = ((c + t.length : Nat) : Int) := et
    have el : a 62 l = ((c + t.length + b.length : Nat) : Int) := el
    have ht : atS (a 13) i ((t.map encO ++ (b.map encO ++ [if t = [] then -59 else -63])) ++ encC r) := ht
    obtain ⟨ht, htr⟩ := atS_app ht
    obtain ⟨htt, htb⟩ := atS_app ht
    obtain ⟨htb, hte⟩ := atS_app htb
    rw [List.length_map] at htb hte
    rw [List.length_map] at hte
    have hte : a 13 (i + t.length + b.length) = (if t = [] then -59 else -63) := hte 0 _ rfl
    have htr : atS (a 13) (i + t.length + b.length + 1) (encC r) := by
      have e : i + (t.map encO ++ (b.map encO ++ [if t = [] then -59 else -63])).length = i + t.length + b.length + 1 := by
        simp only [List.length_append, List.length_map, List.length_cons, List.length_nil]
        omega
      rw [e] at htr
      exact htr
    have ho : atO a c (t ++ (b ++ opsL r)) := ho
    obtain ⟨hot, hob⟩ := atO_app ho
    obtain ⟨hob, hor⟩ := atO_app hob
    have hi : i + ((t.map encO ++ (b.map encO ++ [if t = [] then -59 else -63])) ++ encC r).length = n4 := hi
    simp only [List.length_append, List.length_map, List.length_cons, List.length_nil] at hi
    have e1 : s 1 = a 1 := hs 1 rfl
    have vb : workF a f (a 61 l) (a 62 l) = valO f b := workF_val hob et el
    have K : ∀ s', zFr [14] s s' → Q (some (.inl (if a 61 l = (c : Int) ∨ workF a f c (a 61 l) ≠ 0 then workF a f (a 61 l) (a 62 l) else givF a f r.length (l + 1) (a 62 l)))) s' := K
    rw [vb] at K
    rcases wl.1 with e | wt
    · have e : t = [] := e
      have t0 : t.length = 0 := by rw [e]; rfl
      have et' : a 61 l = (c : Int) := by rw [et]; omega
      rw [if_pos (Or.inl et')] at K
      rw [t0, Nat.add_zero] at htb hte
      rw [if_pos e] at hte
      refine m74b_ops (f := f) h3 h4 h121 b [] i 1 s o5 wl.2.1 (wl.2.2 0) (by show 0 + b.length ≤ 121; omega) (by omega) htb hs hf trivial (fun s2 o2 f2 p2 => ?_)
      rw [foldO_wf wl.2] at p2 ⊢
      have e1 : s2 1 = a 1 := (f2 1 rfl).trans e1
      have eq : s2 13 ((i + b.length : Nat) : Int).toNat = -59 := by
        rw [f2 13 rfl, hs 13 rfl, Int.toNat_natCast]
        exact hte
      refine B74b_19 ⟨fun c => absurd c (by rw [e1]; omega), fun _ => B74b_28 (by rw [e1]; omega) ⟨by omega, by omega, ?_⟩⟩
      rw [eq]
      refine ⟨fun _ => B74b_84 ⟨fun _ => B74b_91 ⟨fun c => absurd rfl c, fun _ => B74b_98 ?_⟩, fun c => absurd c (by show ¬ ¬ (1 : Int) ≤ ((1 : Nat) : Int); omega)⟩, fun c => absurd (by decide) c⟩
      have w0 : wr ((([valO f b].length : Nat) : Int) - 1) = 0 := by
        rw [List.length_singleton]
        decide
      rw [w0]
      exact ⟨by omega, by omega, zQi (K s2 f2) p2.1.symm⟩
    · have wt : wfO t := wt
      have pt := wfO_pos wt
      have vt : workF a f (c : Int) (a 61 l) = valO f t := workF_val hot rfl et
      have nt : t ≠ [] := fun e => by rw [e] at pt; exact absurd pt (by decide)
      rw [vt] at K
      refine m74b_ops (f := f) h3 h4 h121 t [] i 1 s o5 wt.1 (wt.2 0) (by simp only [List.length_nil]; omega) (by omega) htt hs hf trivial (fun s1 o1 f1 p1 => ?_)
      rw [foldO_wf wt] at p1 ⊢
      refine m74b_ops (f := f) h3 h4 h121 b [valO f t] (i + t.length) 2 s1 o1 wl.2.1 (wl.2.2 1) (by simp only [List.length_cons, List.length_nil]; omega) (by omega) htb (hs.tr (f1.le _ rfl)) (fun v hv => by rw [f1 15 rfl]; exact hf v hv) p1 (fun s2 o2 f2 p2 => ?_)
      rw [foldO_wf wl.2] at p2 ⊢
      have f2 := f1.tr f2
      have e1 : s2 1 = a 1 := (f2 1 rfl).trans e1
      have eq : s2 13 ((i + t.length + b.length : Nat) : Int).toNat = -63 := by
        rw [f2 13 rfl, hs 13 rfl, Int.toNat_natCast]
        rw [if_neg nt] at hte
        exact hte
      refine B74b_19 ⟨fun c => absurd c (by rw [e1]; omega), fun _ => B74b_28 (by rw [e1]; omega) ⟨by omega, by omega, ?_⟩⟩
      rw [eq]
      have l2 : (([valO f b, valO f t].length : Nat) : Int) = 2 := rfl
      rw [l2]
      have p0 : s2 14 0 = valO f t := p2.2.1
      have p1 : s2 14 1 = valO f b := p2.1
      refine ⟨fun _ => B74b_84 ⟨fun _ => B74b_91 ⟨fun _ => B74b_107 ⟨fun c => absurd c (by decide), fun _ => B74b_114 ⟨fun _ => B74b_146 ⟨fun _ => B74b_153 ⟨fun c => absurd rfl c, fun _ => B74b_160 ⟨by decide, by decide, fun z => B74b_180 (B74b_217 ?_), fun z => B74b_171 ⟨by decide, by decide, ?_⟩⟩⟩, fun c => absurd (by decide) c⟩, fun c => absurd (by decide) c⟩⟩, fun c => absurd c (by decide)⟩, fun c => absurd (by decide) c⟩, fun c => absurd (by decide) c⟩
      · have z : s2 14 0 = 0 := z
        rw [if_neg (fun g => by rcases g with g | g <;> omega), el] at K
        rw [show wr ((2 : Int) + -2) = 0 from by decide, show wr (((i + t.length + b.length : Nat) : Int) + 1) = ((i + t.length + b.length + 1 : Nat) : Int) by rw [wr_id (by unfold zR; omega)]; omega]
        exact m74b_lines h3 h4 h121 r (i + t.length + b.length + 1) (l + 1) (c + t.length + b.length) s2 _ wfr (by omega) htr hor er (hs.tr (f2.le _ rfl)) (fun v hv => by rw [f2 15 rfl]; exact hf v hv) (fun s' h => K s' (f2.tr h))
      · have z : ¬ s2 14 0 = 0 := z
        rw [if_pos (Or.inr (by omega))] at K
        exact zQi (K s2 f2) p1.symm
theorem m74 {k m : Int} (hL : zLaw a) (hs : zSim a s) (hp : 0 < a 1 4) (hQ : ∀ s', zFr [14, 15] s s' → Q (some (.inl (lawF a (fctF (s 15 0) (s 15 1) k m (s 15 4) (s 15 5))))) s') : zE x (d + 3) 74 [.inr (.inl 1), .inl k, .inl m] s Q := by
  obtain ⟨h35, hL⟩ := hL
  rcases hL with hL | ⟨h36, ls, h1, h2, h3, h4, h5, h6, h7, h8, h9, h10⟩
  · omega
  have hf : ∀ v : Int, 0 ≤ v ∧ v ≤ 5 → (zU (zU s 15 2 k) 15 3 m) 15 v.toNat = fctF (s 15 0) (s 15 1) k m (s 15 4) (s 15 5) v.toNat := fun v hv => by
    have e : v = 0 ∨ v = 1 ∨ v = 2 ∨ v = 3 ∨ v = 4 ∨ v = 5 := by omega
    rcases e with rfl | rfl | rfl | rfl | rfl | rfl <;> rfl
  have fr : zFr [14, 15] s (zU (zU s 15 2 k) 15 3 m) := (zFr.rf.U rfl _ _).U rfl _ _
  have eg : lawF a (fctF (s 15 0) (s 15 1) k m (s 15 4) (s 15 5)) = givF a (fctF (s 15 0) (s 15 1) k m (s 15 4) (s 15 5)) ls.length 0 0 := by
    unfold lawF
    rw [h7, Int.toNat_natCast]
  rw [eg] at hQ
  have ho : atO a 0 (opsL ls) := fun i o hi => by
    rw [Nat.zero_add]
    exact h9 i o hi
  rcases h35 with ⟨e3, e5⟩ | ⟨e3, e5⟩
  · have hz : zStp a = a 12 := by
      unfold zStp
      rw [if_pos e3]
    rw [hz] at h5
    exact N74a (B74a_0 ⟨by omega, by omega, by omega, by omega, m74a_lines e3 h4 h3 ls 0 0 0 _ none h2 (by omega) (fun j v hj => by rw [Nat.zero_add]; exact h5 j v hj) ho h10 (hs.tr (fr.le _ rfl)) hf (fun s' h => hQ s' (fr.tr (h.le _ rfl)))⟩)
  · have hz : zStp a = a 13 := by
      unfold zStp
      rw [if_neg (by omega)]
    rw [hz] at h5
    exact N74b (B74b_0 ⟨by omega, by omega, by omega, by omega, m74b_lines e3 h4 h3 ls 0 0 0 _ none h2 (by omega) (fun j v hj => by rw [Nat.zero_add]; exact h5 j v hj) ho h10 (hs.tr (fr.le _ rfl)) hf (fun s' h => hQ s' (fr.tr (h.le _ rfl)))⟩)
/-- the reference over ops -/
theorem m202_ops {c e : Int} : ∀ (os : List (Int × Int)) (st : List Int) (i n : Nat) (s : zSt) (o6 : Option zV), (∀ o ∈ os, okO o) → hgtO os st.length = some n → st.length + os.length ≤ 130 → e = ((i + os.length : Nat) : Int) → i + os.length ≤ 130 → atO s i os → (∀ v : Int, 0 ≤ v ∧ v ≤ 5 → s 63 v.toNat = f v.toNat) → pilO (s 64) st →
    (∀ s', zFr [64] s s' → pilO (s' 64) (foldO f os st) → Q (some (.inl (s' 64 0))) s') → zJ x (d + 1) 202 12 [some (.inr (.inl 42)), some (.inl 0), some (.inl c), some (.inl e), some (.inl (st.length : Int)), some (.inl (i : Int)), o6] [] s Q
  | [], st, i, n, s, o6, _, _, _, he, hi, _, _, hp, K => by
    have he : e = ((i + 0 : Nat) : Int) := he
    refine B202_12 ⟨fun _ => B202_188 ⟨by omega, by omega, K s zFr.rf hp⟩, fun g => absurd g ?_⟩
    rw [show wr (130 * 0) = 0 from by decide, wr_id (by unfold zR; omega)]
    omega
  | (w, v) :: r, st, i, n, s, o6, ok, hg, hl, he, hi, ht, hf, hp, K => by
    have okr : ∀ o ∈ r, okO o := fun o ho => ok o (List.mem_cons_of_mem _ ho)
    have kc := okO_cases (ok (w, v) List.mem_cons_self)
    rw [List.length_cons] at hl hi he
    have e58 : s 58 ((i : Nat) : Int).toNat = w := by
      rw [Int.toNat_natCast]
      exact (ht 0 _ rfl).1
    have e59 : s 59 ((i : Nat) : Int).toNat = v := by
      rw [Int.toNat_natCast]
      exact (ht 0 _ rfl).2
    have htr : ∀ q z, atO (zU s 64 q z) (i + 1) r := fun q z j u hj => by
      rw [show i + 1 + j = i + (j + 1) by omega]
      exact ht (j + 1) u hj
    have nx : wr ((i : Int) + 1) = ((i + 1 : Nat) : Int) := by rw [wr_id (by unfold zR; omega)]; omega
    have go2 : ∀ (z : Int) (r' : List Int) (o : Option zV), hgtO r (r'.length + 1) = some n → r'.length + 1 ≤ st.length + 1 → pilO (s 64) r' → foldO f ((w, v) :: r) st = foldO f r (z :: r') → zJ x (d + 1) 202 12 [some (.inr (.inl 42)), some (.inl 0), some (.inl c), some (.inl e), some (.inl (((z :: r').length : Nat) : Int)), some (.inl ((i + 1 : Nat) : Int)), o] [] (zU s 64 r'.length z) Q := fun z r' o g1 g2 g3 g4 =>
      m202_ops r (z :: r') (i + 1) n _ o okr g1 (by rw [List.length_cons]; omega) (by rw [he]; omega) (by omega) (htr _ _) (fun u hu => hf u hu) (pilO_put g3) (fun s' h h' => K s' ((zFr.rf.U rfl _ _).tr h) (by rw [g4]; exact h'))
    refine B202_12 ⟨fun g => absurd g ?_, fun _ => ⟨by omega, by omega, ?_⟩⟩
    · rw [show wr (130 * 0) = 0 from by decide, wr_id (by unfold zR; omega)]
      omega
    rw [e58]
    rcases kc with kc | kc | kc | kc
    · obtain ⟨rfl, k1, k2⟩ := kc
      rw [hgtO_1 (Or.inl rfl)] at hg
      refine ⟨fun _ => B202_45 ⟨fun g => absurd rfl g, fun _ => ⟨by omega, by omega, ?_⟩⟩, fun g => absurd rfl g⟩
      rw [e59]
      refine B202_79 ⟨by omega, by omega, B202_182 ?_⟩
      rw [nx, Int.toNat_natCast, show wr ((st.length : Int) + 1) = (((v :: st).length : Nat) : Int) by rw [wr_id (by unfold zR; omega), List.length_cons]; omega]
      exact go2 v st _ hg (by omega) hp rfl
    · obtain ⟨rfl, k1, k2⟩ := kc
      rw [hgtO_1 (Or.inr rfl)] at hg
      refine ⟨fun g => absurd g (by decide), fun _ => ⟨fun g => absurd rfl g, fun _ => B202_45 ⟨fun _ => B202_67 ?_, fun g => absurd (by decide) g⟩⟩⟩
      rw [e59, hf v (by omega)]
      refine ⟨by omega, by omega, by omega, by omega, B202_79 ⟨by omega, by omega, B202_182 ?_⟩⟩
      rw [nx, Int.toNat_natCast, show wr ((st.length : Int) + 1) = (((f v.toNat :: st).length : Nat) : Int) by rw [wr_id (by unfold zR; omega), List.length_cons]; omega]
      exact go2 (f v.toNat) st _ hg (by omega) hp rfl
    · obtain ⟨h1, h2⟩ := hgtO_3 kc hg
      match st, h1, h2, hl, hp, go2 with
      | y :: r', _, h2, hl, hp, go2 =>
        rw [List.length_cons] at hl
        have w1 : wr (((y :: r').length : Int) - 1) = (r'.length : Int) := by rw [List.length_cons, wr_id (by unfold zR; omega)]; omega
        refine ⟨fun g => absurd g (by omega), fun _ => ⟨fun _ => B202_86 ⟨fun g => B202_121 ⟨fun g2 => absurd g2 (by omega), fun g2 => ?_⟩, fun g => ?_⟩, fun g => absurd g (by omega)⟩⟩
        · have k4 : w = 4 := by omega
          rw [w1, Int.toNat_natCast, hp.1]
          refine ⟨by omega, by omega, by omega, by omega, B202_182 ?_⟩
          rw [nx]
          exact go2 (wr (-y)) r' _ h2 (by rw [List.length_cons]; omega) hp.2 (by rw [k4]; rfl)
        · have k3 : w = 3 := by omega
          rw [w1, Int.toNat_natCast, hp.1]
          refine ⟨by omega, by omega, fun g => B202_116 (B202_117 ⟨by omega, by omega, B202_182 ?_⟩), fun g => B202_117 ⟨by omega, by omega, B202_182 ?_⟩⟩
          · rw [nx, Int.toNat_natCast]
            exact go2 0 r' _ h2 (by rw [List.length_cons]; omega) hp.2 (by rw [k3]; show foldO f r ((if y = 0 then 1 else 0) :: r') = _; rw [if_neg g])
          · rw [nx, Int.toNat_natCast]
            exact go2 1 r' _ h2 (by rw [List.length_cons]; omega) hp.2 (by rw [k3]; show foldO f r ((if y = 0 then 1 else 0) :: r') = _; rw [if_pos (Decidable.not_not.mp g)])
    · have hw : w ≠ 1 ∧ w ≠ 2 ∧ w ≠ 3 ∧ w ≠ 4 := by omega
      obtain ⟨h1, h2⟩ := hgtO_b hw hg
      match st, h1, h2, hl, hp, go2 with
      | [y], h1, _, _, _, _ => exact absurd h1 (by simp)
      | y :: z :: r', _, h2, hl, hp, go2 =>
        rw [List.length_cons, List.length_cons] at hl
        have w1 : wr (((y :: z :: r').length : Int) + -1) = (((z :: r').length : Nat) : Int) := by rw [List.length_cons, wr_id (by rw [List.length_cons]; unfold zR; omega)]; omega
        have w2 : wr ((((z :: r').length : Nat) : Int) - 1) = (r'.length : Int) := by rw [List.length_cons, wr_id (by unfold zR; omega)]; omega
        refine ⟨fun g => absurd g hw.1, fun _ => ⟨fun _ => B202_86 ⟨fun _ => B202_121 ⟨fun _ => B202_149 ?_, fun g => absurd hw.2.2.2 g⟩, fun g => absurd hw.2.2.1 g⟩, fun g => absurd hw.2.1 g⟩⟩
        rw [w1, w2, Int.toNat_natCast, Int.toNat_natCast, hp.1, hp.2.1]
        refine ⟨by omega, by omega, by omega, by rw [List.length_cons]; omega, m201 kc (B202_181 ⟨by omega, by omega, B202_182 ?_⟩)⟩
        rw [nx, Int.toNat_natCast]
        exact go2 (twoF w z y) r' _ h2 (by rw [List.length_cons, List.length_cons]; omega) hp.2.2 (by show foldO f r (opF f w v (y :: z :: r')) = _; rw [opFb hw])
theorem m202 {c e : Int} {os : List (Int × Int)} {i : Nat} (wf : wfO os) (hc : c = i) (he : e = ((i + os.length : Nat) : Int)) (hi : i + os.length ≤ 130) (ho : atO s i os) (hf : ∀ v : Int, 0 ≤ v ∧ v ≤ 5 → s 63 v.toNat = f v.toNat) (hQ : ∀ s', zFr [64] s s' → Q (some (.inl (valO f os))) s') : zE x (d + 2) 202 [.inr (.inl 42), .inl 0, .inl c, .inl e] s Q := by
  refine N202 (B202_0 ?_)
  rw [show wr (wr (130 * 0) + c) = (i : Int) by rw [show wr (130 * 0) = 0 from by decide, wr_id (by unfold zR; omega)]; omega]
  refine m202_ops (f := f) os [] i 1 s none wf.1 (wf.2 0) (by simp only [List.length_nil]; omega) he hi ho hf trivial (fun s' h h' => zQi (hQ s' h) ?_)
  rw [foldO_wf wf] at h'
  exact h'.1.symm
theorem m203_lines {n60 : Nat} (h60 : a 60 0 = n60) (h61 : n60 ≤ 61) {t0 : zSt} : ∀ (ls : List zLn) (l c : Nat) (s : zSt), (∀ l ∈ ls, (l.1 = [] ∨ wfO l.1) ∧ wfO l.2) → l + ls.length = n60 → c + (opsL ls).length ≤ 130 → atO a c (opsL ls) → endsL (a 61) (a 62) l c ls → zSim a s → (∀ v : Int, 0 ≤ v ∧ v ≤ 5 → s 63 v.toNat = f v.toNat) → zFr [64] t0 s →
    (∀ s', zFr [64] t0 s' → Q (some (.inl (givF a f ls.length l c))) s') → zJ x (d + 2) 203 7 [some (.inr (.inl 42)), some (.inl 0), some (.inl (c : Int)), some (.inl (l : Int))] [] s Q
  | [], l, c, s, _, hl, _, _, _, hs, _, h0, K => by
    have hl : l + 0 = n60 := hl
    have e60 : s 60 = a 60 := hs 60 rfl
    refine B203_7 ⟨by omega, by omega, fun _ => B203_78 (K s h0), fun g => absurd g ?_⟩
    rw [show wr (61 * 0) = 0 from by decide, show s 60 (0 : Int).toNat = n60 from (congrFun e60 0).trans h60, wr_id (by unfold zR; omega)]
    omega
  | ⟨t, b⟩ :: r, l, c, s, wf, hl, h130, ho, he, hs, hf, h0, K => by
    have wl := wf (t, b) List.mem_cons_self
    have wfr : ∀ l ∈ r, (l.1 = [] ∨ wfO l.1) ∧ wfO l.2 := fun l hl => wf l (List.mem_cons_of_mem _ hl)
    rw [List.length_cons] at hl
    obtain ⟨et, el, er⟩ := he
    have et : a 61 l = ((c + t.length : Nat) : Int) := et
    have el : a 62 l = ((c + t.length + b.length : Nat) : Int) := el
    have ho : atO a c (t ++ (b ++ opsL r)) := ho
    have h130 : c + (t ++ (b ++ opsL r)).length ≤ 130 := h130
    rw [List.length_append, List.length_append] at h130
    obtain ⟨hot, hob⟩ := atO_app ho
    obtain ⟨hob, hor⟩ := atO_app hob
    have e60 : s 60 = a 60 := hs 60 rfl
    have e61 : s 61 ((l : Nat) : Int).toNat = ((c + t.length : Nat) : Int) := by
      rw [hs 61 rfl, Int.toNat_natCast]
      exact et
    have e62 : s 62 ((l : Nat) : Int).toNat = ((c + t.length + b.length : Nat) : Int) := by
      rw [hs 62 rfl, Int.toNat_natCast]
      exact el
    have vb : workF a f (a 61 l) (a 62 l) = valO f b := workF_val hob et el
    have K : ∀ s', zFr [64] t0 s' → Q (some (.inl (if a 61 l = (c : Int) ∨ workF a f c (a 61 l) ≠ 0 then workF a f (a 61 l) (a 62 l) else givF a f r.length (l + 1) (a 62 l)))) s' := K
    rw [vb] at K
    have atS : ∀ {u : zSt} {k : Nat} {os : List (Int × Int)}, zSim a u → atO a k os → atO u k os := fun {u k os} hu h i o hi => by
      rw [hu 58 rfl, hu 59 rfl]
      exact h i o hi
    have body : ∀ u, zFr [64] s u → (a 61 l = (c : Int) ∨ workF a f c (a 61 l) ≠ 0) → zJ x (d + 2) 203 47 [some (.inr (.inl 42)), some (.inl 0), some (.inl (c : Int)), some (.inl (l : Int))] [] u Q := fun u hu hc => by
      rw [if_pos hc] at K
      refine B203_47 ?_
      rw [hu 61 rfl, hu 62 rfl, e61, e62]
      exact ⟨by omega, by omega, by omega, by omega, m202 (f := f) wl.2 rfl rfl (by omega) (atS (hs.tr (hu.le _ rfl)) hob) (fun v hv => by rw [hu 63 rfl]; exact hf v hv) (fun s' h => B203_64 (K s' ((h0.tr hu).tr h)))⟩
    refine B203_7 ⟨by omega, by omega, fun g => absurd g ?_, fun _ => ⟨by omega, by omega, ?_⟩⟩
    · rw [show wr (61 * 0) = 0 from by decide, show s 60 (0 : Int).toNat = n60 from (congrFun e60 0).trans h60, wr_id (by unfold zR; omega)]
      omega
    rw [e61]
    refine ⟨fun g => body s zFr.rf (Or.inl (et.trans g)), fun g => ⟨by omega, by omega, ?_⟩⟩
    rcases wl.1 with e | wt
    · have e : t = [] := e
      exact absurd (by rw [e]; rfl) g
    · have wt : wfO t := wt
      have vt : workF a f (c : Int) (a 61 l) = valO f t := workF_val hot rfl et
      refine m202 (f := f) wt rfl rfl (by omega) (atS hs hot) hf (fun s1 f1 => B203_44 ⟨fun z => B203_65 ?_, fun z => body s1 f1 (Or.inr (by rw [vt]; exact z))⟩)
      rw [if_neg (fun g2 => by
        rcases g2 with g2 | g2
        · exact g (et.symm.trans g2)
        · exact g2 (vt.trans z)), el] at K
      rw [f1 62 rfl, e62, show wr ((l : Int) + 1) = ((l + 1 : Nat) : Int) by rw [wr_id (by unfold zR; omega)]; omega]
      exact ⟨by omega, by omega, m203_lines h60 h61 r (l + 1) (c + t.length + b.length) s1 wfr (by omega) (by omega) hor er (hs.tr (f1.le _ rfl)) (fun v hv => by rw [f1 63 rfl]; exact hf v hv) (h0.tr f1) K⟩
theorem m203 {g : Nat → Int} (hL : zLaw a) (hs : zSim a s) (h1 : a 42 36 = 1) (hg : ∀ i, i < 6 → s 63 i = g i) (hQ : ∀ s', zFr [64] s s' → Q (some (.inl (lawF a g))) s') : zE x (d + 3) 203 [.inr (.inl 42), .inl 0] s Q := by
  obtain ⟨h35, hL⟩ := hL
  rcases hL with hL | ⟨h36, ls, k1, k2, k3, k4, k5, k6, k7, k8, k9, k10⟩
  · omega
  have eg : lawF a g = givF a g ls.length 0 0 := by
    unfold lawF
    rw [k7, Int.toNat_natCast]
  rw [eg] at hQ
  exact N203 (B203_0 (m203_lines (t0 := s) k7 k6 ls 0 0 s k2 (by omega) (by omega) (fun i o hi => by rw [Nat.zero_add]; exact k9 i o hi) k10 hs (fun v hv => hg v.toNat (by omega)) zFr.rf hQ))
end ZEval
