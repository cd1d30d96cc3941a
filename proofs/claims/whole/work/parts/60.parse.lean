/-! the class reads lines -/
def pSum (T : Nat → Int) : Nat → zPr := pAll T (pOpnd T 6)
def pLine (T : Nat → Int) (p : Nat) : Bool × Nat × zLn := if (pSum T p).1 then (if T (pSum T p).2.1 = 63 then (if (pSum T ((pSum T p).2.1 + 1)).1 then (true, (pSum T ((pSum T p).2.1 + 1)).2.1, ((pSum T p).2.2, (pSum T ((pSum T p).2.1 + 1)).2.2)) else (false, (pSum T ((pSum T p).2.1 + 1)).2.1, ([], []))) else (true, (pSum T p).2.1, ([], (pSum T p).2.2))) else (false, (pSum T p).2.1, ([], []))
def pLines (T : Nat → Int) (N : Nat) : Nat → Nat → List zLn → Bool × Nat × List zLn
  | 0, p, ls => (false, p, ls)
  | j + 1, p, ls => if (pLine T p).1 then (if N ≤ (pLine T p).2.1 then (true, (pLine T p).2.1, ls ++ [(pLine T p).2.2]) else if T (pLine T p).2.1 = 59 then pLines T N j ((pLine T p).2.1 + 1) (ls ++ [(pLine T p).2.2]) else (false, (pLine T p).2.1, [])) else (false, (pLine T p).2.1, [])
theorem pSum_good {T : Nat → Int} {N : Nat} (hT : tpEnd T N) : fGood N (pSum T) := pAll_good hT (pOpnd_good hT 6)
def fNe (f : Nat → zPr) : Prop := ∀ p, (f p).1 = true → (f p).2.2 ≠ []
theorem pLoop_ne {T : Nat → Int} {sub : Nat → zPr} {lv : Int} : ∀ (j p : Nat) (os : List (Int × Int)), os ≠ [] → (pLoop T sub lv j p os).1 = true → (pLoop T sub lv j p os).2.2 ≠ []
  | 0, _, _, h, _ => h
  | j + 1, p, os, h, e => by
    unfold pLoop at e ⊢
    by_cases h1 : lvOf (T p) = lv
    · rw [if_pos h1] at e ⊢
      by_cases h2 : (sub (p + 1)).1 = true
      · rw [if_pos h2] at e ⊢
        exact pLoop_ne j _ _ (by simp) e
      · rw [if_neg h2] at e
        cases e
    · rw [if_neg h1]
      exact h
theorem pLv_ne {T : Nat → Int} {sub : Nat → zPr} {lv : Int} (hs : fNe sub) : fNe (pLv T sub lv) := by
  intro p e
  unfold pLv at e ⊢
  by_cases h2 : (sub p).1 = true
  · rw [if_pos h2] at e ⊢
    exact pLoop_ne _ _ _ (hs p h2) e
  · rw [if_neg h2] at e
    cases e
theorem pAll_ne {T : Nat → Int} {sub : Nat → zPr} (hs : fNe sub) : fNe (pAll T sub) := pLv_ne (pLv_ne (pLv_ne (pLv_ne (pLv_ne hs))))
theorem pOne_ne {T : Nat → Int} {p : Nat} {k : zPr} (hk : k.1 = true → k.2.2 ≠ []) (e : (pOne T p k).1 = true) : (pOne T p k).2.2 ≠ [] := by
  unfold pOne at e ⊢
  by_cases h1 : isDg (T p)
  · rw [if_pos h1] at e ⊢
    unfold pFig at e ⊢
    by_cases h3 : isDg (T (pNum T 4 p 0).1)
    · rw [if_pos h3] at e
      cases e
    · rw [if_neg h3]
      exact List.cons_ne_nil _ _
  · rw [if_neg h1] at e ⊢
    by_cases h2 : 0 ≤ nmOf (T p)
    · rw [if_pos h2]
      exact List.cons_ne_nil _ _
    · rw [if_neg h2] at e ⊢
      exact hk e
theorem pOpnd_ne {T : Nat → Int} : ∀ r, fNe (pOpnd T r)
  | 0 => fun p e => pOne_ne (fun e => by cases e) e
  | r + 1 => fun p e => pOne_ne (fun e => by
      by_cases h1 : T p = 40
      · rw [if_pos h1] at e ⊢
        by_cases h2 : (pAll T (pOpnd T r) (p + 1)).1 = true ∧ T (pAll T (pOpnd T r) (p + 1)).2.1 = 41
        · rw [if_pos h2]
          exact pAll_ne (pOpnd_ne r) (p + 1) h2.1
        · rw [if_neg h2] at e
          cases e
      · rw [if_neg h1] at e ⊢
        by_cases h3 : T p = 33 ∨ T p = 45
        · rw [if_pos h3] at e ⊢
          by_cases h2 : (pOpnd T r (p + 1)).1 = true
          · rw [if_pos h2]
            simp
          · rw [if_neg h2] at e
            cases e
        · rw [if_neg h3] at e
          cases e) e
section ZParse4
variable {x : List Int} {d : Nat} {a s : zSt} {Q : zQ} {q : Nat}
theorem m63_sum (hT : zTap a) (hq : q = 12 ∨ q = 13) : cOK x (d + 57) 63 [.inr (.inl 1), .inl 0, .inl 0] a q (pSum (tpF a)) :=
  m63_all (x := x) (d := d + 50) hT hq (pOpnd_good (tpF_end a) 6) (m64 hT hq 6 (d + 51) 0 (by omega) (by omega) (by omega))
theorem m62 {p : Nat} {D : List Int} (hT : zTap a) (hq : q = 12 ∨ q = 13) (hs : csF a q s p) (hD : csD q s D) (hl : D.length ≤ p) (hp : p ≤ (a 42 24).toNat)
    (h1 : (pLine (tpF a) p).1 = true → ∀ s', csF a q s' (pLine (tpF a) p).2.1 → csD q s' (D ++ encL (pLine (tpF a) p).2.2) → Q (some (.inl 1)) s')
    (h0 : (pLine (tpF a) p).1 = false → ∀ s' v, csF a q s' (pLine (tpF a) p).2.1 → (v = 0 ∨ (v = 1 ∧ isDg (tpF a (pLine (tpF a) p).2.1))) → Q (some (.inl v)) s') : zE x (d + 58) 62 [.inr (.inl 1)] s Q := by
  have hN : (a 42 24).toNat ≤ 120 := by have := hT.1; have := hT.2.1; omega
  have g := pSum_good (tpF_end a) p hp
  unfold pLine at h1 h0
  refine N62 (B62_0 (m63_sum hT hq s p D _ hs hD hl hp (fun e s1 f1 f2 => B62_6 ⟨fun _ => B62_11 (m67 hT hq f1 (fun y hy => B62_15 ⟨fun c => B62_28 ?_, fun c => m68 hq f1 (fun s2 k1 k2 => B62_26 ⟨by omega, ?_⟩)⟩)), fun g => absurd (by decide) g⟩) (fun e s1 v f1 f2 => B62_6 ⟨fun hv => B62_11 (m67 hT hq f1 (fun y hy => B62_15 ⟨fun c => ?_, fun c => m68 hq f1 (fun s2 k1 k2 => B62_26 ⟨by omega, ?_⟩)⟩)), fun hv => ⟨by omega, ?_⟩⟩)))
  · have g3 := g.2.2 e
    have ct : tpF a (pSum (tpF a) p).2.1 = 63 := by omega
    rw [if_pos e, if_pos ct] at h1 h0
    have hp2 : (pSum (tpF a) p).2.1 + 1 ≤ (a 42 24).toNat := Nat.lt_of_not_le (fun gg => by have := tpF_end a _ gg; omega)
    have gb := pSum_good (tpF_end a) _ hp2
    refine m63_sum hT hq _ _ _ _ (f1.go hq (by omega)) (f2.at hq) (by rw [List.length_append, List.length_map]; omega) hp2 (fun e2 s2 k1 k2 => B62_44 ⟨fun _ => B62_49 (m68 hq k1 (fun s3 j1 j2 => B62_55 ⟨by omega, ?_⟩)), fun gg => absurd (by decide) gg⟩) (fun e2 s2 v k1 k2 => B62_44 ⟨fun hv => B62_49 (m68 hq k1 (fun s3 j1 j2 => B62_55 ⟨by omega, ?_⟩)), fun hv => ⟨by omega, ?_⟩⟩)
    · rw [if_pos e2] at h1
      have gb3 := gb.2.2 e2
      have j2 := j2 _ k2 (by simp only [List.length_append, List.length_map]; omega)
      refine h1 rfl s3 j1 ?_
      have ne : ¬ (pSum (tpF a) p).2.2 = [] := pAll_ne (pOpnd_ne 6) p e
      show csD q s3 (D ++ ((pSum (tpF a) p).2.2.map encO ++ ((pSum (tpF a) ((pSum (tpF a) p).2.1 + 1)).2.2.map encO ++ [if (pSum (tpF a) p).2.2 = [] then -59 else -63])))
      rw [if_neg ne, ← List.append_assoc, ← List.append_assoc]
      exact j2
    · rw [if_neg (by rw [e2]; decide)] at h0
      rcases k2 with k2 | k2
      · exact absurd k2 hv
      · exact h0 rfl s3 1 j1 (Or.inr ⟨rfl, k2.2⟩)
    · rw [if_neg (by rw [e2]; decide)] at h0
      exact h0 rfl s2 0 k1 (Or.inl rfl)
  · have ct : ¬ tpF a (pSum (tpF a) p).2.1 = 63 := by omega
    rw [if_pos e, if_neg ct] at h1
    have g3 := g.2.2 e
    have k2 := k2 _ f2 (by simp only [List.length_append, List.length_map]; omega)
    refine h1 rfl s2 k1 ?_
    rw [List.append_assoc] at k2
    exact k2
  · rw [if_neg (by rw [e]; decide)] at h0
    rcases f2 with f2 | f2
    · exact absurd f2 hv
    · have := f2.2; omega
  · rw [if_neg (by rw [e]; decide)] at h0
    rcases f2 with f2 | f2
    · exact absurd f2 hv
    · exact h0 rfl s2 1 k1 (Or.inr ⟨rfl, f2.2⟩)
  · rw [if_neg (by rw [e]; decide)] at h0
    exact h0 rfl s1 0 f1 (Or.inl rfl)
end ZParse4
