/-! the law's text: what a reader of it answers (pos, ops), for class and reference; it reads T, the tape's signs (-1 behind the end) -/
abbrev zPr : Type := Bool × Nat × List (Int × Int)
def lvOf (c : Int) : Int := if c = 37 ∨ c = 42 ∨ c = 47 then 4 else if c = 43 ∨ c = 45 then 3 else if c = 60 ∨ c = 61 ∨ c = 62 then 2 else if c = 38 then 1 else if c = 124 then 0 else -1
def nmOf (c : Int) : Int := if c = 112 then 0 else if c = 116 then 1 else if c = 107 then 2 else if c = 109 then 3 else if c = 114 then 4 else if c = 99 then 5 else -1
abbrev isDg (c : Int) : Prop := 48 ≤ c ∧ c ≤ 57
def pLoop (T : Nat → Int) (sub : Nat → zPr) (lv : Int) : Nat → Nat → List (Int × Int) → zPr
  | 0, p, os => (true, p, os)
  | j + 1, p, os => if lvOf (T p) = lv then (if (sub (p + 1)).1 then pLoop T sub lv j (sub (p + 1)).2.1 (os ++ ((sub (p + 1)).2.2 ++ [(T p, 0)])) else (false, (sub (p + 1)).2.1, [])) else (true, p, os)
def pLv (T : Nat → Int) (sub : Nat → zPr) (lv : Int) (p : Nat) : zPr := if (sub p).1 then pLoop T sub lv (if lv = 2 then 1 else 120) (sub p).2.1 (sub p).2.2 else (false, (sub p).2.1, [])
def pAll (T : Nat → Int) (sub : Nat → zPr) : Nat → zPr := pLv T (pLv T (pLv T (pLv T (pLv T sub 4) 3) 2) 1) 0
def pNum (T : Nat → Int) : Nat → Nat → Int → Nat × Int
  | 0, p, v => (p, v)
  | j + 1, p, v => if isDg (T p) then pNum T j (p + 1) (v * 10 + T p - 48) else (p, v)
def pFig (T : Nat → Int) (p : Nat) : zPr := if isDg (T (pNum T 4 p 0).1) then (false, (pNum T 4 p 0).1, []) else (true, (pNum T 4 p 0).1, [(1, (pNum T 4 p 0).2)])
def pOne (T : Nat → Int) (p : Nat) (k : zPr) : zPr := if isDg (T p) then pFig T p else if 0 ≤ nmOf (T p) then (true, p + 1, [(2, nmOf (T p))]) else k
def pOpnd (T : Nat → Int) : Nat → Nat → zPr
  | 0, p => pOne T p (false, p, [])
  | r + 1, p => pOne T p (if T p = 40 then (if (pAll T (pOpnd T r) (p + 1)).1 = true ∧ T (pAll T (pOpnd T r) (p + 1)).2.1 = 41 then (true, (pAll T (pOpnd T r) (p + 1)).2.1 + 1, (pAll T (pOpnd T r) (p + 1)).2.2) else (false, (pAll T (pOpnd T r) (p + 1)).2.1, [])) else if T p = 33 ∨ T p = 45 then (if (pOpnd T r (p + 1)).1 then (true, (pOpnd T r (p + 1)).2.1, (pOpnd T r (p + 1)).2.2 ++ [(if T p = 33 then 3 else 4, 0)]) else (false, (pOpnd T r (p + 1)).2.1, [])) else (false, p, []))
/-- T says nothing from N on -/
def tpEnd (T : Nat → Int) (N : Nat) : Prop := ∀ p, N ≤ p → T p = -1
/-- a reader goes forward, stays within N, one op at most for each sign -/
def fGood (N : Nat) (f : Nat → zPr) : Prop := ∀ p, p ≤ N → p ≤ (f p).2.1 ∧ (f p).2.1 ≤ N ∧ ((f p).1 = true → p < (f p).2.1 ∧ p + (f p).2.2.length ≤ (f p).2.1)
theorem lvOf_in {c lv : Int} (h : lvOf c = lv) (h0 : 0 ≤ lv) : c = 37 ∨ c = 42 ∨ c = 47 ∨ c = 43 ∨ c = 45 ∨ c = 60 ∨ c = 61 ∨ c = 62 ∨ c = 38 ∨ c = 124 := by
  unfold lvOf at h
  repeat' split at h
  all_goals omega
theorem pLoop_good {T : Nat → Int} {N : Nat} {sub : Nat → zPr} {lv : Int} (hT : tpEnd T N) (h0 : 0 ≤ lv) (hs : fGood N sub) : ∀ (j p : Nat) (os : List (Int × Int)), p ≤ N → p ≤ (pLoop T sub lv j p os).2.1 ∧ (pLoop T sub lv j p os).2.1 ≤ N ∧ ((pLoop T sub lv j p os).1 = true → (pLoop T sub lv j p os).2.2.length + p ≤ (pLoop T sub lv j p os).2.1 + os.length)
  | 0, p, os, hp => ⟨Nat.le_refl _, hp, fun _ => by show os.length + p ≤ p + os.length; omega⟩
  | j + 1, p, os, hp => by
    unfold pLoop
    by_cases h1 : lvOf (T p) = lv
    · rw [if_pos h1]
      have hN : p < N := by
        refine Nat.lt_of_not_le (fun e => ?_)
        have := lvOf_in h1 h0
        have := hT p e
        omega
      have g := hs (p + 1) (by omega)
      by_cases h2 : (sub (p + 1)).1 = true
      · rw [if_pos h2]
        have q := pLoop_good hT h0 hs j (sub (p + 1)).2.1 (os ++ ((sub (p + 1)).2.2 ++ [(T p, 0)])) g.2.1
        have g3 := g.2.2 h2
        simp only [List.length_append, List.length_cons, List.length_nil] at q
        refine ⟨by omega, q.2.1, fun e => ?_⟩
        have := q.2.2 e
        omega
      · rw [if_neg h2]
        exact ⟨by show p ≤ (sub (p + 1)).2.1; omega, g.2.1, fun e => by cases e⟩
    · rw [if_neg h1]
      exact ⟨Nat.le_refl _, hp, fun _ => by show os.length + p ≤ p + os.length; omega⟩
theorem pLv_good {T : Nat → Int} {N : Nat} {sub : Nat → zPr} {lv : Int} (hT : tpEnd T N) (h0 : 0 ≤ lv) (hs : fGood N sub) : fGood N (pLv T sub lv) := by
  intro p hp
  have g := hs p hp
  unfold pLv
  by_cases h2 : (sub p).1 = true
  · rw [if_pos h2]
    have q := pLoop_good hT h0 hs (if lv = 2 then 1 else 120) (sub p).2.1 (sub p).2.2 g.2.1
    have g3 := g.2.2 h2
    refine ⟨by omega, q.2.1, fun e => ?_⟩
    have := q.2.2 e
    omega
  · rw [if_neg h2]
    exact ⟨g.1, g.2.1, fun e => by cases e⟩
theorem pAll_good {T : Nat → Int} {N : Nat} {sub : Nat → zPr} (hT : tpEnd T N) (hs : fGood N sub) : fGood N (pAll T sub) :=
  pLv_good hT (by omega) (pLv_good hT (by omega) (pLv_good hT (by omega) (pLv_good hT (by omega) (pLv_good hT (by omega) hs))))
theorem pNum_s (T : Nat → Int) (j p : Nat) (v : Int) : pNum T (j + 1) p v = if isDg (T p) then pNum T j (p + 1) (v * 10 + T p - 48) else (p, v) := rfl
theorem pNum_good {T : Nat → Int} {N : Nat} (hT : tpEnd T N) : ∀ (j p : Nat) (v : Int), p ≤ N → p ≤ (pNum T j p v).1 ∧ (pNum T j p v).1 ≤ N
  | 0, p, v, hp => ⟨Nat.le_refl _, hp⟩
  | j + 1, p, v, hp => by
    unfold pNum
    by_cases h1 : isDg (T p)
    · rw [if_pos h1]
      have hN : p < N := Nat.lt_of_not_le (fun e => by have := hT p e; omega)
      have q := pNum_good hT j (p + 1) (v * 10 + T p - 48) (by omega)
      omega
    · rw [if_neg h1]
      exact ⟨Nat.le_refl _, hp⟩
theorem pNum_first {T : Nat → Int} {N : Nat} (hT : tpEnd T N) {p : Nat} (hp : p ≤ N) (h1 : isDg (T p)) : p < (pNum T 4 p 0).1 := by
  have hN : p < N := Nat.lt_of_not_le (fun e => by have := hT p e; omega)
  have q := pNum_good (T := T) hT 3 (p + 1) (0 * 10 + T p - 48) (by omega)
  have e : pNum T 4 p 0 = pNum T 3 (p + 1) (0 * 10 + T p - 48) := (pNum_s T 3 p 0).trans (if_pos h1)
  rw [e]
  exact Nat.lt_of_lt_of_le (Nat.lt_succ_self p) q.1
theorem pOne_good {T : Nat → Int} {N : Nat} (hT : tpEnd T N) {p : Nat} (hp : p ≤ N) {k : zPr} (hk : p ≤ k.2.1 ∧ k.2.1 ≤ N ∧ (k.1 = true → p < k.2.1 ∧ p + k.2.2.length ≤ k.2.1)) : p ≤ (pOne T p k).2.1 ∧ (pOne T p k).2.1 ≤ N ∧ ((pOne T p k).1 = true → p < (pOne T p k).2.1 ∧ p + (pOne T p k).2.2.length ≤ (pOne T p k).2.1) := by
  unfold pOne
  by_cases h1 : isDg (T p)
  · rw [if_pos h1]
    have q := pNum_good hT 4 p 0 hp
    have q2 := pNum_first hT hp h1
    unfold pFig
    split
    · exact ⟨q.1, q.2, fun e => by cases e⟩
    · exact ⟨q.1, q.2, fun _ => ⟨q2, by show p + 1 ≤ (pNum T 4 p 0).1; omega⟩⟩
  · rw [if_neg h1]
    by_cases h2 : 0 ≤ nmOf (T p)
    · rw [if_pos h2]
      have hN : p < N := by
        refine Nat.lt_of_not_le (fun e => ?_)
        rw [hT p e] at h2
        exact absurd h2 (by decide)
      exact ⟨by show p ≤ p + 1; omega, by show p + 1 ≤ N; omega, fun _ => ⟨by show p < p + 1; omega, by show p + 1 ≤ p + 1; omega⟩⟩
    · rw [if_neg h2]
      exact hk
theorem pOpnd_good {T : Nat → Int} {N : Nat} (hT : tpEnd T N) : ∀ r, fGood N (pOpnd T r)
  | 0 => fun p hp => pOne_good hT hp ⟨Nat.le_refl _, hp, fun e => by cases e⟩
  | r + 1 => fun p hp => by
    have a := pAll_good hT (pOpnd_good hT r)
    have b := pOpnd_good hT r
    unfold pOpnd
    refine pOne_good hT hp ?_
    have nd : ∀ c, T p = c → c ≠ -1 → p < N := fun c hc h0 => Nat.lt_of_not_le (fun e => h0 (hc.symm.trans (hT p e)))
    by_cases h1 : T p = 40
    · rw [if_pos h1]
      have hN := nd 40 h1 (by decide)
      have g := a (p + 1) (by omega)
      by_cases h2 : (pAll T (pOpnd T r) (p + 1)).1 = true ∧ T (pAll T (pOpnd T r) (p + 1)).2.1 = 41
      · rw [if_pos h2]
        have g3 := g.2.2 h2.1
        have g4 : (pAll T (pOpnd T r) (p + 1)).2.1 < N := Nat.lt_of_not_le (fun e => by have := hT _ e; have := h2.2; omega)
        refine ⟨?_, ?_, fun _ => ⟨?_, ?_⟩⟩
        · show p ≤ (pAll T (pOpnd T r) (p + 1)).2.1 + 1; omega
        · show (pAll T (pOpnd T r) (p + 1)).2.1 + 1 ≤ N; omega
        · show p < (pAll T (pOpnd T r) (p + 1)).2.1 + 1; omega
        · show p + (pAll T (pOpnd T r) (p + 1)).2.2.length ≤ (pAll T (pOpnd T r) (p + 1)).2.1 + 1; omega
      · rw [if_neg h2]
        exact ⟨by show p ≤ (pAll T (pOpnd T r) (p + 1)).2.1; omega, g.2.1, fun e => by cases e⟩
    · rw [if_neg h1]
      by_cases h3 : T p = 33 ∨ T p = 45
      · rw [if_pos h3]
        have hN : p < N := by
          rcases h3 with h3 | h3
          · exact nd 33 h3 (by decide)
          · exact nd 45 h3 (by decide)
        have g := b (p + 1) (by omega)
        by_cases h2 : (pOpnd T r (p + 1)).1 = true
        · rw [if_pos h2]
          have g3 := g.2.2 h2
          refine ⟨by show p ≤ (pOpnd T r (p + 1)).2.1; omega, g.2.1, fun _ => ⟨by show p < (pOpnd T r (p + 1)).2.1; omega, ?_⟩⟩
          show p + ((pOpnd T r (p + 1)).2.2 ++ [_]).length ≤ (pOpnd T r (p + 1)).2.1
          rw [List.length_append]
          show p + ((pOpnd T r (p + 1)).2.2.length + 1) ≤ _
          omega
        · rw [if_neg h2]
          exact ⟨by show p ≤ (pOpnd T r (p + 1)).2.1; omega, g.2.1, fun e => by cases e⟩
      · rw [if_neg h3]
        exact ⟨Nat.le_refl _, hp, fun e => by cases e⟩
