/-! the law's text read by the class -/
def tpF (a : zSt) (p : Nat) : Int := if (p : Int) < a 42 24 then a 57 p else -1
def zTap (a : zSt) : Prop := a 1 1 = a 42 24 ∧ (0 ≤ a 1 1 ∧ a 1 1 ≤ 120) ∧ ∀ k : Nat, (k : Int) < a 1 1 → (0 ≤ a 11 k ∧ a 11 k ≤ 255) ∧ a 57 k = w8 (a 11 k)
theorem tpF_end (a : zSt) : tpEnd (tpF a) (a 42 24).toNat := fun p hp => if_neg (by omega)
/-- the class's sign y where the tape says c -/
abbrev sgR (y c : Int) : Prop := (y = c ∧ -1 ≤ c ∧ c ≤ 127) ∨ (128 ≤ y ∧ c < 0)
abbrev csF (a : zSt) (q : Nat) (s : zSt) (p : Nat) : Prop := zFr [1, q] a s ∧ s 1 1 = a 1 1 ∧ s 1 3 = a 1 3 ∧ s 1 4 = a 1 4 ∧ s 1 5 = q ∧ s 1 2 = p ∧ 0 ≤ s 1 6 ∧ s 1 6 ≤ 121
abbrev csD (q : Nat) (s : zSt) (D : List Int) : Prop := s 1 6 = D.length ∧ ∀ k v, D[k]? = some v → s q k = v
section ZParse
variable {x : List Int} {d : Nat} {a s : zSt} {Q : zQ} {q : Nat}
theorem m67 {p : Nat} (hT : zTap a) (hq : q = 12 ∨ q = 13) (hs : csF a q s p) (h : ∀ y, sgR y (tpF a p) → Q (some (.inl y)) s) : zE x (d + 1) 67 [.inr (.inl 1)] s Q := by
  obtain ⟨f, h1, h3, h4, h5, h2, h6, h7⟩ := hs
  obtain ⟨t1, t2, t3⟩ := hT
  have e11 : s 11 = a 11 := f 11 (by rcases hq with rfl | rfl <;> rfl)
  refine N67 (B67_0 ⟨fun h0 => B67_32 (B67_33 (h _ ?_)), fun h0 => ⟨fun h8 => absurd h8 (by omega), fun _ => ⟨by omega, by omega, B67_33 (h _ ?_)⟩⟩⟩)
  · have e : tpF a p = -1 := if_neg (by omega)
    rw [e]
    exact Or.inl ⟨rfl, by omega, by omega⟩
  · have e : tpF a p = a 57 p := if_pos (by omega)
    have k := t3 p (by omega)
    rw [e, k.2, e11, h2, Int.toNat_natCast]
    have k := k.1
    generalize a 11 p = z at *
    unfold w8
    omega
theorem m68 {p : Nat} {v : Int} (hq : q = 12 ∨ q = 13) (hs : csF a q s p) (h : ∀ s', csF a q s' p → (∀ D, csD q s D → D.length < 121 → csD q s' (D ++ [v])) → Q none s') : zE x (d + 1) 68 [.inr (.inl 1), .inl v] s Q := by
  have hs' := hs
  obtain ⟨f, h1, h3, h4, h5, h2, h6, h7⟩ := hs
  have full : 121 ≤ s 1 6 → Q none s := fun e => h s hs' (fun D hD hl => by have := hD.1; omega)
  have fin : s 1 6 < 121 → Q none (zU (zU s q (s 1 6).toNat v) 1 6 (wr (s 1 6 + 1))) := fun e => by
    rw [wr_id (x := s 1 6 + 1) (by unfold zR; omega)]
    have hq1 : (1 : Nat) ≠ q := by omega
    have row : ∀ k, (zU (zU s q (s 1 6).toNat v) 1 6 (s 1 6 + 1)) 1 k = if k = 6 then s 1 6 + 1 else s 1 k := fun k => by
      rw [zU_at, zU_ne hq1]
    refine h _ ⟨(f.U ?_ _ _).U rfl _ _, ?_, ?_, ?_, ?_, ?_, ?_, ?_⟩ (fun D hD hl => ⟨?_, fun k w hk => ?_⟩)
    · rcases hq with rfl | rfl <;> rfl
    · rw [row]; exact h1
    · rw [row]; exact h3
    · rw [row]; exact h4
    · rw [row]; exact h5
    · rw [row]; exact h2
    · rw [row, if_pos rfl]; omega
    · rw [row, if_pos rfl]; omega
    · rw [row, if_pos rfl, List.length_append]
      have := hD.1
      simp only [List.length_cons, List.length_nil]
      omega
    · rw [zU_ne (Ne.symm hq1), zU_at]
      have e1 := hD.1
      show (if k = (s 1 6).toNat then v else s q k) = w
      by_cases e2 : k = (s 1 6).toNat
      · rw [if_pos e2]
        rw [List.getElem?_append_right (by omega), show k - D.length = 0 by omega] at hk
        exact Option.some.inj hk
      · rw [if_neg e2]
        have hlt : k < D.length := by
          have := (List.getElem?_eq_some_iff.mp hk).1
          simp only [List.length_append, List.length_cons, List.length_nil] at this
          omega
        rw [List.getElem?_append_left hlt] at hk
        exact hD.2 k w hk
  rcases hq with rfl | rfl
  · have e5 : (s 1 5).toNat = 12 := by omega
    exact N68b (B68b_0 e5 ⟨fun e => B68b_32 (full e), fun e => B68b_12 e5 ⟨by omega, by omega, B68b_32 (fin (by omega))⟩⟩)
  · have e5 : (s 1 5).toNat = 13 := by omega
    exact N68a (B68a_0 e5 ⟨fun e => B68a_32 (full e), fun e => B68a_12 e5 ⟨by omega, by omega, B68a_32 (fin (by omega))⟩⟩)
/-- one sign read -/
theorem csF.at {p p' : Nat} {z : Int} (hs : csF a q s p) (hq : q = 12 ∨ q = 13) (h : ((p' : Nat) : Int) = z) : csF a q (zU s 1 2 z) p' := by
  obtain ⟨f, h1, h3, h4, h5, h2, h6, h7⟩ := hs
  exact ⟨f.U rfl _ _, h1, h3, h4, h5, h.symm, h6, h7⟩
theorem csD.at {D : List Int} {z : Int} (hD : csD q s D) (hq : q = 12 ∨ q = 13) : csD q (zU s 1 2 z) D := ⟨hD.1, fun k v hk => by
  rw [zU_ne (by omega)]
  exact hD.2 k v hk⟩
/-- a method of the class reads as f says -/
def cOK (x : List Int) (d m : Nat) (as : List zV) (a : zSt) (q : Nat) (f : Nat → zPr) : Prop := ∀ (s : zSt) (p : Nat) (D : List Int) (Q : zQ), csF a q s p → csD q s D → D.length ≤ p → p ≤ (a 42 24).toNat →
  ((f p).1 = true → ∀ s', csF a q s' (f p).2.1 → csD q s' (D ++ (f p).2.2.map encO) → Q (some (.inl 1)) s') →
  ((f p).1 = false → ∀ s' v, csF a q s' (f p).2.1 → (v = 0 ∨ (v = 1 ∧ isDg (tpF a (f p).2.1))) → Q (some (.inl v)) s') → zE x d m as s Q
theorem m71 {c : Int} (h : Q (some (.inl (lvOf c))) s) : zE x (d + 1) 71 [.inl c] s Q := by
  refine N71 ?_
  repeat' (first | with_reducible refine B71_0 ?_ | with_reducible refine B71_92 ?_ | with_reducible refine B71_94 ?_ | with_reducible refine B71_96 ?_ | with_reducible refine B71_98 ?_ | with_reducible refine B71_100 ?_ | with_reducible refine B71_102 ?_ | with_reducible refine ⟨fun _ => ?_, fun _ => ?_⟩ | refine ⟨by omega, by omega, ?_⟩ | fail)
  all_goals refine zQi h ?_
  all_goals unfold lvOf
  all_goals (repeat' split) <;> omega
theorem m70 {c : Int} (h : Q (some (.inl (nmOf c))) s) : zE x (d + 1) 70 [.inl c] s Q := by
  refine N70 ?_
  repeat' (first | with_reducible refine B70_0 ?_ | with_reducible refine B70_88 ?_ | with_reducible refine B70_90 ?_ | with_reducible refine B70_92 ?_ | with_reducible refine B70_94 ?_ | with_reducible refine B70_96 ?_ | with_reducible refine B70_98 ?_ | with_reducible refine B70_100 ?_ | with_reducible refine ⟨fun _ => ?_, fun _ => ?_⟩ | refine ⟨by omega, by omega, ?_⟩ | fail)
  all_goals refine zQi h ?_
  all_goals unfold nmOf
  all_goals (repeat' split) <;> omega
theorem m69 {c : Int} (h : Q (some (.inl (if isDg c then 1 else 0))) s) : zE x (d + 1) 69 [.inl c] s Q := by
  refine N69 ?_
  repeat' (first | with_reducible refine B69_0 ?_ | with_reducible refine B69_16 ?_ | with_reducible refine B69_17 ?_ | with_reducible refine ⟨fun _ => ?_, fun _ => ?_⟩ | (refine ⟨by omega, ?_⟩) | refine ⟨by omega, by omega, ?_⟩ | fail)
  all_goals exact zQi h (by omega)
theorem lvOf_sg {y c : Int} (h : sgR y c) : lvOf y = lvOf c ∧ nmOf y = nmOf c := by
  rcases h with ⟨h, _⟩ | ⟨h1, h2⟩
  · rw [h]; exact ⟨rfl, rfl⟩
  · constructor
    · unfold lvOf
      repeat' split
      all_goals omega
    · unfold nmOf
      repeat' split
      all_goals omega
end ZParse
