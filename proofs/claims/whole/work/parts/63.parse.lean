/-! what is read is well formed -/
theorem pLines_good {T : Nat → Int} {N : Nat} (hT : tpEnd T N) : ∀ (j p : Nat) (ls : List zLn), p ≤ N → (pLines T N j p ls).2.1 ≤ N
  | 0, _, _, hp => hp
  | j + 1, p, ls, hp => by
    have g := pLine_good hT hp
    unfold pLines
    by_cases h1 : (pLine T p).1 = true
    · rw [if_pos h1]
      by_cases h2 : N ≤ (pLine T p).2.1
      · rw [if_pos h2]; exact g.2.1
      · rw [if_neg h2]
        by_cases h3 : T (pLine T p).2.1 = 59
        · rw [if_pos h3]
          exact pLines_good hT j _ _ (by omega)
        · rw [if_neg h3]; exact g.2.1
    · rw [if_neg h1]; exact g.2.1
theorem hgtO_app : ∀ (os ps : List (Int × Int)) (h : Nat), hgtO (os ++ ps) h = (hgtO os h).bind (hgtO ps)
  | [], _, _ => rfl
  | o :: os, ps, h => by
    show (if o.1 = 1 ∨ o.1 = 2 then hgtO (os ++ ps) (h + 1) else if o.1 = 3 ∨ o.1 = 4 then (if 1 ≤ h then hgtO (os ++ ps) h else none) else (if 2 ≤ h then hgtO (os ++ ps) (h - 1) else none)) = (if o.1 = 1 ∨ o.1 = 2 then hgtO os (h + 1) else if o.1 = 3 ∨ o.1 = 4 then (if 1 ≤ h then hgtO os h else none) else (if 2 ≤ h then hgtO os (h - 1) else none)).bind (hgtO ps)
    rw [hgtO_app os ps, hgtO_app os ps, hgtO_app os ps]
    repeat' split
    all_goals rfl
def fWf (f : Nat → zPr) : Prop := ∀ p, (f p).1 = true → wfO (f p).2.2
theorem wfO_two {os ps : List (Int × Int)} {c : Int} (h1 : wfO os) (h2 : wfO ps) (hc : okO (c, 0)) (h3 : c ≠ 1 ∧ c ≠ 2 ∧ c ≠ 3 ∧ c ≠ 4) : wfO (os ++ (ps ++ [(c, 0)])) := by
  refine ⟨fun o ho => ?_, fun h => ?_⟩
  · simp only [List.mem_append, List.mem_singleton] at ho
    rcases ho with ho | ho | ho
    · exact h1.1 o ho
    · exact h2.1 o ho
    · rw [ho]; exact hc
  · rw [hgtO_app, h1.2 h]
    show hgtO (ps ++ [(c, 0)]) (h + 1) = some (h + 1)
    rw [hgtO_app, h2.2 (h + 1)]
    show (if c = 1 ∨ c = 2 then _ else if c = 3 ∨ c = 4 then _ else (if 2 ≤ h + 1 + 1 then hgtO [] (h + 1 + 1 - 1) else none)) = some (h + 1)
    rw [if_neg (by omega), if_neg (by omega), if_pos (by omega)]
    rfl
theorem wfO_one {os : List (Int × Int)} {c : Int} (h1 : wfO os) (h3 : c = 3 ∨ c = 4) : wfO (os ++ [(c, 0)]) := by
  refine ⟨fun o ho => ?_, fun h => ?_⟩
  · simp only [List.mem_append, List.mem_singleton] at ho
    rcases ho with ho | ho
    · exact h1.1 o ho
    · rw [ho]
      unfold okO
      show _ ∨ _ ∨ c = 3 ∨ c = 4 ∨ _
      omega
  · rw [hgtO_app, h1.2 h]
    show (if c = 1 ∨ c = 2 then _ else if c = 3 ∨ c = 4 then (if 1 ≤ h + 1 then hgtO [] (h + 1) else none) else _) = some (h + 1)
    rw [if_neg (by omega), if_pos h3, if_pos (by omega)]
    rfl
theorem pLoop_wf {T : Nat → Int} {sub : Nat → zPr} {lv : Int} (h0 : 0 ≤ lv) (hs : fWf sub) : ∀ (j p : Nat) (os : List (Int × Int)), wfO os → (pLoop T sub lv j p os).1 = true → wfO (pLoop T sub lv j p os).2.2
  | 0, _, _, h, _ => h
  | j + 1, p, os, h, e => by
    unfold pLoop at e ⊢
    by_cases h1 : lvOf (T p) = lv
    · rw [if_pos h1] at e ⊢
      by_cases h2 : (sub (p + 1)).1 = true
      · rw [if_pos h2] at e ⊢
        have hc := lvOf_in h1 h0
        refine pLoop_wf h0 hs j _ _ (wfO_two h (hs _ h2) ?_ (by omega)) e
        unfold okO
        omega
      · rw [if_neg h2] at e
        cases e
    · rw [if_neg h1]
      exact h
theorem pLv_wf {T : Nat → Int} {sub : Nat → zPr} {lv : Int} (h0 : 0 ≤ lv) (hs : fWf sub) : fWf (pLv T sub lv) := by
  intro p e
  unfold pLv at e ⊢
  by_cases h2 : (sub p).1 = true
  · rw [if_pos h2] at e ⊢
    exact pLoop_wf h0 hs _ _ _ (hs p h2) e
  · rw [if_neg h2] at e
    cases e
theorem pAll_wf {T : Nat → Int} {sub : Nat → zPr} (hs : fWf sub) : fWf (pAll T sub) := pLv_wf (by omega) (pLv_wf (by omega) (pLv_wf (by omega) (pLv_wf (by omega) (pLv_wf (by omega) hs))))
theorem pNum_R {T : Nat → Int} : ∀ (j c p : Nat) (v : Int), j + c = 4 → (0 ≤ v ∧ v ≤ 9999) → (c = 0 → v = 0) → (c = 1 → v ≤ 9) → (c = 2 → v ≤ 99) → (c = 3 → v ≤ 999) → 0 ≤ (pNum T j p v).2 ∧ (pNum T j p v).2 ≤ 9999
  | 0, _, _, _, _, h, _, _, _, _ => h
  | j + 1, c, p, v, hc, h, v0, v1, v2, v3 => by
    rw [pNum_s]
    by_cases e : isDg (T p)
    · rw [if_pos e]
      exact pNum_R j (c + 1) _ _ (by omega) (by omega) (by omega) (by omega) (by omega) (by omega)
    · rw [if_neg e]
      exact h
theorem wfO_num {v : Int} (h : 0 ≤ v ∧ v ≤ 9999) : wfO [(1, v)] := ⟨fun o ho => by
  rw [List.mem_singleton.mp ho]
  exact Or.inl ⟨rfl, h.1, h.2⟩, fun _ => rfl⟩
theorem wfO_name {v : Int} (h : 0 ≤ v ∧ v ≤ 5) : wfO [(2, v)] := ⟨fun o ho => by
  rw [List.mem_singleton.mp ho]
  exact Or.inr (Or.inl ⟨rfl, h.1, h.2⟩), fun _ => rfl⟩
theorem pOne_wf {T : Nat → Int} {p : Nat} {k : zPr} (hk : k.1 = true → wfO k.2.2) (e : (pOne T p k).1 = true) : wfO (pOne T p k).2.2 := by
  unfold pOne at e ⊢
  by_cases h1 : isDg (T p)
  · rw [if_pos h1] at e ⊢
    unfold pFig at e ⊢
    by_cases h3 : isDg (T (pNum T 4 p 0).1)
    · rw [if_pos h3] at e
      cases e
    · rw [if_neg h3]
      exact wfO_num (pNum_R 4 0 p 0 rfl (by omega) (by omega) (by omega) (by omega) (by omega))
  · rw [if_neg h1] at e ⊢
    by_cases h2 : 0 ≤ nmOf (T p)
    · rw [if_pos h2]
      refine wfO_name ⟨h2, ?_⟩
      unfold nmOf
      repeat' split
      all_goals omega
    · rw [if_neg h2] at e ⊢
      exact hk e
theorem pOpnd_wf {T : Nat → Int} : ∀ r, fWf (pOpnd T r)
  | 0 => fun p e => pOne_wf (fun e => by cases e) e
  | r + 1 => fun p e => pOne_wf (fun e => by
      by_cases h1 : T p = 40
      · rw [if_pos h1] at e ⊢
        by_cases h2 : (pAll T (pOpnd T r) (p + 1)).1 = true ∧ T (pAll T (pOpnd T r) (p + 1)).2.1 = 41
        · rw [if_pos h2]
          exact pAll_wf (pOpnd_wf r) (p + 1) h2.1
        · rw [if_neg h2] at e
          cases e
      · rw [if_neg h1] at e ⊢
        by_cases h3 : T p = 33 ∨ T p = 45
        · rw [if_pos h3] at e ⊢
          by_cases h2 : (pOpnd T r (p + 1)).1 = true
          · rw [if_pos h2]
            refine wfO_one (pOpnd_wf r (p + 1) h2) ?_
            split
            · exact Or.inl rfl
            · exact Or.inr rfl
          · rw [if_neg h2] at e
            cases e
        · rw [if_neg h3] at e
          cases e) e
theorem pLine_wf {T : Nat → Int} {p : Nat} (e : (pLine T p).1 = true) : ((pLine T p).2.2.1 = [] ∨ wfO (pLine T p).2.2.1) ∧ wfO (pLine T p).2.2.2 := by
  have w : fWf (pSum T) := pAll_wf (T := T) (pOpnd_wf 6)
  unfold pLine at e ⊢
  by_cases h1 : (pSum T p).1 = true
  · rw [if_pos h1] at e ⊢
    by_cases h2 : T (pSum T p).2.1 = 63
    · rw [if_pos h2] at e ⊢
      by_cases h3 : (pSum T ((pSum T p).2.1 + 1)).1 = true
      · rw [if_pos h3]
        exact ⟨Or.inr (w p h1), w _ h3⟩
      · rw [if_neg h3] at e
        cases e
    · rw [if_neg h2]
      exact ⟨Or.inl rfl, w p h1⟩
  · rw [if_neg h1] at e
    cases e
theorem pLines_wf {T : Nat → Int} {N : Nat} : ∀ (j p : Nat) (ls : List zLn), (∀ l ∈ ls, (l.1 = [] ∨ wfO l.1) ∧ wfO l.2) → (pLines T N j p ls).1 = true → (pLines T N j p ls).2.2 ≠ [] ∧ ∀ l ∈ (pLines T N j p ls).2.2, (l.1 = [] ∨ wfO l.1) ∧ wfO l.2
  | 0, _, _, _, e => by cases e
  | j + 1, p, ls, h, e => by
    unfold pLines at e ⊢
    by_cases h1 : (pLine T p).1 = true
    · rw [if_pos h1] at e ⊢
      have ap : ∀ l ∈ ls ++ [(pLine T p).2.2], (l.1 = [] ∨ wfO l.1) ∧ wfO l.2 := fun l hl => by
        simp only [List.mem_append, List.mem_singleton] at hl
        rcases hl with hl | hl
        · exact h l hl
        · rw [hl]; exact pLine_wf h1
      by_cases h2 : N ≤ (pLine T p).2.1
      · rw [if_pos h2]
        exact ⟨by simp, ap⟩
      · rw [if_neg h2] at e ⊢
        by_cases h3 : T (pLine T p).2.1 = 59
        · rw [if_pos h3] at e ⊢
          exact pLines_wf j _ _ ap e
        · rw [if_neg h3] at e
          cases e
    · rw [if_neg h1] at e
      cases e
