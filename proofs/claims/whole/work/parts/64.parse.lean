/-! how long what is read can be -/
theorem opsL_len : ∀ ls : List zLn, (opsL ls).length + ls.length = (encC ls).length
  | [] => rfl
  | l :: r => by
    have h := opsL_len r
    simp only [opsL, encC, encL, List.length_append, List.length_map, List.length_cons, List.length_nil]
    omega
theorem pLines_len {T : Nat → Int} {N : Nat} (hT : tpEnd T N) : ∀ (j p : Nat) (ls : List zLn), p ≤ N → (encC ls).length ≤ p → 2 * ls.length ≤ p → (pLines T N j p ls).1 = true → (encC (pLines T N j p ls).2.2).length ≤ N + 1 ∧ 2 * (pLines T N j p ls).2.2.length ≤ N + 2
  | 0, _, _, _, _, _, e => by cases e
  | j + 1, p, ls, hp, h1, h2, e => by
    have g := pLine_good hT hp
    unfold pLines at e ⊢
    by_cases a1 : (pLine T p).1 = true
    · rw [if_pos a1] at e ⊢
      have g3 := g.2.2 a1
      have el : (encC (ls ++ [(pLine T p).2.2])).length = (encC ls).length + (encL (pLine T p).2.2).length := by rw [encC_app, List.length_append]
      have ll : (ls ++ [(pLine T p).2.2]).length = ls.length + 1 := by rw [List.length_append]; rfl
      by_cases a2 : N ≤ (pLine T p).2.1
      · rw [if_pos a2]
        refine ⟨?_, ?_⟩
        · show (encC (ls ++ [(pLine T p).2.2])).length ≤ N + 1
          omega
        · show 2 * (ls ++ [(pLine T p).2.2]).length ≤ N + 2
          omega
      · rw [if_neg a2] at e ⊢
        by_cases a3 : T (pLine T p).2.1 = 59
        · rw [if_pos a3] at e ⊢
          exact pLines_len hT j _ _ (by omega) (by omega) (by omega) e
        · rw [if_neg a3] at e
          cases e
    · rw [if_neg a1] at e
      cases e
