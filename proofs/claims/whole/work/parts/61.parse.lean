/-! the class reads all lines -/
theorem pLine_good {T : Nat → Int} {N : Nat} (hT : tpEnd T N) {p : Nat} (hp : p ≤ N) : p ≤ (pLine T p).2.1 ∧ (pLine T p).2.1 ≤ N ∧ ((pLine T p).1 = true → p < (pLine T p).2.1 ∧ p + (encL (pLine T p).2.2).length ≤ (pLine T p).2.1 + 1) := by
  have g := pSum_good hT p hp
  unfold pLine
  by_cases h1 : (pSum T p).1 = true
  · rw [if_pos h1]
    have g3 := g.2.2 h1
    by_cases h2 : T (pSum T p).2.1 = 63
    · rw [if_pos h2]
      have hp2 : (pSum T p).2.1 + 1 ≤ N := Nat.lt_of_not_le (fun e => by have := hT _ e; omega)
      have gb := pSum_good hT _ hp2
      by_cases h3 : (pSum T ((pSum T p).2.1 + 1)).1 = true
      · rw [if_pos h3]
        have gb3 := gb.2.2 h3
        refine ⟨by show p ≤ (pSum T ((pSum T p).2.1 + 1)).2.1; omega, gb.2.1, fun _ => ⟨by show p < (pSum T ((pSum T p).2.1 + 1)).2.1; omega, ?_⟩⟩
        simp only [encL, List.length_append, List.length_map, List.length_cons, List.length_nil]
        omega
      · rw [if_neg h3]
        exact ⟨by show p ≤ (pSum T ((pSum T p).2.1 + 1)).2.1; omega, gb.2.1, fun e => by cases e⟩
    · rw [if_neg h2]
      refine ⟨g.1, g.2.1, fun _ => ⟨g3.1, ?_⟩⟩
      simp only [encL, List.length_append, List.length_map, List.length_cons, List.length_nil]
      omega
  · rw [if_neg h1]
    exact ⟨g.1, g.2.1, fun e => by cases e⟩
theorem encC_app : ∀ ls : List zLn, ∀ l : zLn, encC (ls ++ [l]) = encC ls ++ encL l
  | [], l => by simp [encC]
  | m :: ls, l => by
    show encL m ++ encC (ls ++ [l]) = (encL m ++ encC ls) ++ encL l
    rw [encC_app ls l, List.append_assoc]
section ZParse5
variable {x : List Int} {d : Nat} {a s : zSt} {Q : zQ} {q : Nat}
theorem m61_loop (hT : zTap a) (hq : q = 12 ∨ q = 13) : ∀ (j c p : Nat) (ls : List zLn) (s : zSt), j + c = 121 → c ≤ p → csF a q s p → csD q s (encC ls) → (encC ls).length ≤ p → p ≤ (a 42 24).toNat →
    ((pLines (tpF a) (a 42 24).toNat j p ls).1 = true → ∀ s', csF a q s' (pLines (tpF a) (a 42 24).toNat j p ls).2.1 → csD q s' (encC (pLines (tpF a) (a 42 24).toNat j p ls).2.2) → Q (some (.inl (-1))) s') →
    ((pLines (tpF a) (a 42 24).toNat j p ls).1 = false → ∀ s', csF a q s' (pLines (tpF a) (a 42 24).toNat j p ls).2.1 → Q (some (.inl ((pLines (tpF a) (a 42 24).toNat j p ls).2.1 : Nat))) s') →
    zJ x (d + 58) 61 12 [some (.inr (.inl 1)), some (.inl (c : Int))] [] s Q := by
  have hN : (a 42 24).toNat ≤ 120 := by have := hT.1; have := hT.2.1; omega
  have tape : ∀ (s1 : zSt) (p' : Nat), csF a q s1 p' → (p' : Int) < a 42 24 → (s1 11 (s1 1 2).toNat = 59 ↔ tpF a p' = 59) := fun s1 p' f hp' => by
    have e2 := f.2.2.2.2.2.1
    have e11 : s1 11 = a 11 := f.1 11 (by rcases hq with rfl | rfl <;> rfl)
    have k := hT.2.2 p' (by have := hT.1; omega)
    have e : tpF a p' = a 57 p' := if_pos hp'
    rw [e, k.2, e11, e2, Int.toNat_natCast]
    have k := k.1
    generalize a 11 p' = z at *
    unfold w8
    omega
  intro j
  induction j with
  | zero => intro c p ls s hc hcp hs hD hl hp h1 h0; exfalso; omega
  | succ j ih =>
    intro c p ls s hc hcp hs hD hl hp h1 h0
    unfold pLines at h1 h0
    have g := pLine_good (tpF_end a) hp
    refine B61_12 ⟨fun e => absurd e (by omega), fun _ => m62 (d := d) hT hq hs hD hl hp (fun e s1 f1 f2 => B61_22 ⟨fun _ => B61_30 ?_, fun gg => absurd (by decide) gg⟩) (fun e s1 v f1 f2 => B61_22 ⟨fun hv => B61_30 ?_, fun hv => ?_⟩)⟩
    · rw [if_pos e] at h1 h0
      have g3 := g.2.2 e
      rw [← encC_app] at f2
      have e2 := f1.2.2.2.2.2.1
      have e1 := f1.2.1
      have t1 := hT.1
      refine ⟨fun hlt => B61_43 ⟨by omega, by omega, fun h59 => B61_62 ?_, fun h59 => ?_⟩, fun hge => ?_⟩
      · have c59 := (tape s1 _ f1 (by omega)).mp h59
        rw [if_neg (by omega), if_pos c59] at h1 h0
        rw [show wr ((c : Int) + 1) = ((c + 1 : Nat) : Int) by rw [wr_id (by unfold zR; omega)]; omega]
        have hp2 : (pLine (tpF a) p).2.1 + 1 ≤ (a 42 24).toNat := by omega
        refine ih (c + 1) _ _ _ (by omega) (by omega) (f1.go hq (by omega)) (f2.at hq) ?_ hp2 h1 h0
        rw [encC_app, List.length_append]
        omega
      · have c59 : ¬ tpF a (pLine (tpF a) p).2.1 = 59 := fun gg => h59 ((tape s1 _ f1 (by omega)).mpr gg)
        rw [if_neg (by omega), if_neg c59] at h0
        exact zQi (h0 rfl s1 f1) e2.symm
      · rw [if_pos (by omega)] at h1
        exact h1 rfl s1 f1 f2
    · rw [if_neg (by rw [e]; decide)] at h0
      have hd : isDg (tpF a (pLine (tpF a) p).2.1) := by
        rcases f2 with f2 | f2
        · exact absurd f2 hv
        · exact f2.2
      have hlt : (pLine (tpF a) p).2.1 < (a 42 24).toNat := Nat.lt_of_not_le (fun gg => by have := tpF_end a _ gg; omega)
      have e2 := f1.2.2.2.2.2.1
      have e1 := f1.2.1
      have t1 := hT.1
      exact ⟨fun _ => B61_43 ⟨by omega, by omega, fun h59 => absurd ((tape s1 _ f1 (by omega)).mp h59) (by omega), fun _ => zQi (h0 rfl s1 f1) e2.symm⟩, fun gg => absurd (by omega) gg⟩
    · rw [if_neg (by rw [e]; decide)] at h0
      exact zQi (h0 rfl s1 f1) f1.2.2.2.2.2.1.symm
def pText (a : zSt) : Bool × Nat × List zLn := pLines (tpF a) (a 42 24).toNat 121 0 []
theorem m61 (hT : zTap a) (hq : q = 12 ∨ q = 13) (f : zFr [1, q] a s) (r1 : s 1 1 = a 1 1) (r3 : s 1 3 = a 1 3) (r4 : s 1 4 = a 1 4) (r5 : s 1 5 = q)
    (h1 : (pText a).1 = true → ∀ s', csF a q s' (pText a).2.1 → csD q s' (encC (pText a).2.2) → Q (some (.inl (-1))) s')
    (h0 : (pText a).1 = false → ∀ s', csF a q s' (pText a).2.1 → Q (some (.inl ((pText a).2.1 : Nat))) s') : zE x (d + 59) 61 [.inr (.inl 1)] s Q := by
  refine N61 (B61_0 (m61_loop (d := d) hT hq 121 0 0 [] _ rfl (by omega) ⟨(f.U rfl _ _).U rfl _ _, r1, r3, r4, r5, rfl, by show (0 : Int) ≤ 0; omega, by show (0 : Int) ≤ 121; omega⟩ ⟨rfl, fun k v hk => ?_⟩ (by show 0 ≤ 0; omega) (by omega) h1 h0))
  cases hk
end ZParse5
