/-! the law's text read by the reference: levels -/
section ZRead2
variable {x : List Int} {d : Nat} {a s : zSt} {Q : zQ}
theorem m194_loop {f : Nat → zPr} {dep : Int} {D : List (Int × Int)} {p0 : Nat} (h24 : 0 ≤ a 42 24 ∧ a 42 24 ≤ 120) (hg : fGood (a 42 24).toNat f) (hf : eOK x (d + 2) 193 a f dep) (hD : D.length ≤ p0) : ∀ (j p : Nat) (os : List (Int × Int)) (s : zSt) (o1 : Option zV), 120 ≤ j + p → rfG a s p dep (D ++ os) → p0 + os.length ≤ p → p ≤ (a 42 24).toNat →
    ((pLoop (tpF a) f 4 j p os).1 = true → ∀ s', rfG a s' (pLoop (tpF a) f 4 j p os).2.1 dep (D ++ (pLoop (tpF a) f 4 j p os).2.2) → Q none s') →
    ((pLoop (tpF a) f 4 j p os).1 = false → ∀ s', rfX a s' (pLoop (tpF a) f 4 j p os).2.1 ((D.length : Int) + ((pLoop (tpF a) f 4 j p os).2.1 : Nat) - p0 + 1) → Q none s') → zJ x (d + 2) 194 4 [some (.inr (.inl 42)), o1] [] s Q := by
  have out : ∀ (p : Nat) (s : zSt) (D' : List (Int × Int)) (o1 : Option zV), rfG a s p dep D' → ¬ lvOf (tpF a p) = 4 → Q none s → zJ x (d + 2) 194 4 [some (.inr (.inl 42)), o1] [] s Q := fun p s D' o1 hs hn hq => by
    have hn : ¬ (tpF a p = 42 ∨ tpF a p = 47 ∨ tpF a p = 37) := fun e => hn (by
      unfold lvOf
      repeat' split
      all_goals omega)
    have e26 := hs.2.2.1
    exact B194_4 ⟨fun e => absurd e (by omega), fun _ => m187 h24 hs.1 hs.2.1 (B194_15 ⟨fun c => absurd (Or.inl c) hn, fun _ => m187 h24 hs.1 hs.2.1 (B194_24 ⟨fun c => absurd (Or.inr (Or.inl c)) hn, fun _ => m187 h24 hs.1 hs.2.1 (B194_33 ⟨fun _ => B194_66 hq, fun c => absurd (Or.inr (Or.inr (Decidable.not_not.mp c))) hn⟩)⟩)⟩)⟩
  have bad : ∀ (s : zSt) (q : Nat) (n : Int) (o1 : Option zV), rfX a s q n → Q none s → zJ x (d + 2) 194 4 [some (.inr (.inl 42)), o1] [] s Q := fun s q n o1 hs hq => B194_4 ⟨fun _ => B194_66 hq, fun e => absurd hs.2.2.1 (by omega)⟩
  intro j
  induction j with
  | zero =>
    intro p os s o1 hj hs hl hp h1 h0
    refine out p s _ o1 hs (fun e => ?_) (h1 rfl s hs)
    rw [tpF_end a p (by omega)] at e
    exact absurd e (by decide)
  | succ j ih =>
    intro p os s o1 hj hs hl hp h1 h0
    unfold pLoop at h1 h0
    by_cases hn : lvOf (tpF a p) = 4
    · rw [if_pos hn] at h1 h0
      have hT : tpF a p = 42 ∨ tpF a p = 47 ∨ tpF a p = 37 := by
        unfold lvOf at hn
        repeat' split at hn
        all_goals omega
      have hp2 : p + 1 ≤ (a 42 24).toNat := by
        refine Nat.lt_of_not_le (fun e => ?_)
        have := tpF_end a p e
        omega
      have g := hg (p + 1) hp2
      have e26 := hs.2.2.1
      have hl2 : (D ++ os).length = D.length + os.length := List.length_append
      have go : zJ x (d + 2) 194 38 [some (.inr (.inl 42)), o1] [] s Q := by
        refine B194_38 (m187 h24 hs.1 hs.2.1 (B194_42 (hf _ (p + 1) (D ++ os) _ (hs.go (by omega)) (by omega) hp2 (fun e s' g1 => B194_57 (m189 g1 (by have := g.2.2 e; rw [List.length_append]; omega) (by omega) (fun s2 g2 => B194_63 ?_))) (fun e s' g1 => B194_57 (m189x g1 (by omega) (fun s2 g2 => B194_63 ?_))))))
        · rw [if_pos e] at h1 h0
          have g3 := g.2.2 e
          refine ih (f (p + 1)).2.1 _ s2 _ (by omega) ?_ ?_ g.2.1 h1 h0
          · rw [show D ++ (os ++ ((f (p + 1)).2.2 ++ [(tpF a p, 0)])) = D ++ os ++ (f (p + 1)).2.2 ++ [(tpF a p, 0)] by simp]
            exact g2
          · simp only [List.length_append, List.length_cons, List.length_nil]
            omega
        · rw [if_neg (by rw [e]; decide)] at h0
          exact bad s2 _ _ _ g2 (h0 rfl s2 (g2.le (by show (_ : Int) ≤ (D.length : Int) + ((f (p + 1)).2.1 : Nat) - p0 + 1; omega)))
      exact B194_4 ⟨fun e => absurd e (by omega), fun _ => m187 h24 hs.1 hs.2.1 (B194_15 ⟨fun _ => go, fun c => m187 h24 hs.1 hs.2.1 (B194_24 ⟨fun _ => go, fun c2 => m187 h24 hs.1 hs.2.1 (B194_33 ⟨fun c3 => absurd hT (by omega), fun _ => go⟩)⟩)⟩)⟩
    · rw [if_neg hn] at h1
      exact out p s _ o1 hs hn (h1 rfl s hs)
theorem m194 {f : Nat → zPr} {dep : Int} (h24 : 0 ≤ a 42 24 ∧ a 42 24 ≤ 120) (hg : fGood (a 42 24).toNat f) (hf : eOK x (d + 2) 193 a f dep) : eOK x (d + 3) 194 a (pLv (tpF a) f 4) dep := by
  intro s p D Q hs hD hp h1 h0
  have g := hg p hp
  unfold pLv at h1 h0
  rw [if_neg (show ¬ (4 : Int) = 2 by decide)] at h1 h0
  refine N194 (B194_0 (hf s p D _ hs hD hp (fun e s' g1 => ?_) (fun e s' g1 => ?_)))
  · rw [if_pos e] at h1 h0
    have g3 := g.2.2 e
    exact m194_loop h24 hg hf hD 120 (f p).2.1 (f p).2.2 s' none (by omega) g1 (by omega) g.2.1 h1 h0
  · rw [if_neg (by rw [e]; decide)] at h0
    exact B194_4 ⟨fun _ => B194_66 (h0 rfl s' g1), fun e => absurd g1.2.2.1 (by omega)⟩
theorem m195_loop {f : Nat → zPr} {dep : Int} {D : List (Int × Int)} {p0 : Nat} (h24 : 0 ≤ a 42 24 ∧ a 42 24 ≤ 120) (hg : fGood (a 42 24).toNat f) (hf : eOK x (d + 2) 194 a f dep) (hD : D.length ≤ p0) : ∀ (j p : Nat) (os : List (Int × Int)) (s : zSt) (o1 : Option zV), 120 ≤ j + p → rfG a s p dep (D ++ os) → p0 + os.length ≤ p → p ≤ (a 42 24).toNat →
    ((pLoop (tpF a) f 3 j p os).1 = true → ∀ s', rfG a s' (pLoop (tpF a) f 3 j p os).2.1 dep (D ++ (pLoop (tpF a) f 3 j p os).2.2) → Q none s') →
    ((pLoop (tpF a) f 3 j p os).1 = false → ∀ s', rfX a s' (pLoop (tpF a) f 3 j p os).2.1 ((D.length : Int) + ((pLoop (tpF a) f 3 j p os).2.1 : Nat) - p0 + 1) → Q none s') → zJ x (d + 2) 195 4 [some (.inr (.inl 42)), o1] [] s Q := by
  have out : ∀ (p : Nat) (s : zSt) (D' : List (Int × Int)) (o1 : Option zV), rfG a s p dep D' → ¬ lvOf (tpF a p) = 3 → Q none s → zJ x (d + 2) 195 4 [some (.inr (.inl 42)), o1] [] s Q := fun p s D' o1 hs hn hq => by
    have hn : ¬ (tpF a p = 43 ∨ tpF a p = 45) := fun e => hn (by
      unfold lvOf
      repeat' split
      all_goals omega)
    have e26 := hs.2.2.1
    exact B195_4 ⟨fun e => absurd e (by omega), fun _ => m187 h24 hs.1 hs.2.1 (B195_15 ⟨fun c => absurd (Or.inl c) hn, fun _ => m187 h24 hs.1 hs.2.1 (B195_24 ⟨fun _ => B195_57 hq, fun c => absurd (Or.inr (Decidable.not_not.mp c)) hn⟩)⟩)⟩
  have bad : ∀ (s : zSt) (q : Nat) (n : Int) (o1 : Option zV), rfX a s q n → Q none s → zJ x (d + 2) 195 4 [some (.inr (.inl 42)), o1] [] s Q := fun s q n o1 hs hq => B195_4 ⟨fun _ => B195_57 hq, fun e => absurd hs.2.2.1 (by omega)⟩
  intro j
  induction j with
  | zero =>
    intro p os s o1 hj hs hl hp h1 h0
    refine out p s _ o1 hs (fun e => ?_) (h1 rfl s hs)
    rw [tpF_end a p (by omega)] at e
    exact absurd e (by decide)
  | succ j ih =>
    intro p os s o1 hj hs hl hp h1 h0
    unfold pLoop at h1 h0
    by_cases hn : lvOf (tpF a p) = 3
    · rw [if_pos hn] at h1 h0
      have hT : tpF a p = 43 ∨ tpF a p = 45 := by
        unfold lvOf at hn
        repeat' split at hn
        all_goals omega
      have hp2 : p + 1 ≤ (a 42 24).toNat := by
        refine Nat.lt_of_not_le (fun e => ?_)
        have := tpF_end a p e
        omega
      have g := hg (p + 1) hp2
      have e26 := hs.2.2.1
      have hl2 : (D ++ os).length = D.length + os.length := List.length_append
      have go : zJ x (d + 2) 195 29 [some (.inr (.inl 42)), o1] [] s Q := by
        refine B195_29 (m187 h24 hs.1 hs.2.1 (B195_33 (hf _ (p + 1) (D ++ os) _ (hs.go (by omega)) (by omega) hp2 (fun e s' g1 => B195_48 (m189 g1 (by have := g.2.2 e; rw [List.length_append]; omega) (by omega) (fun s2 g2 => B195_54 ?_))) (fun e s' g1 => B195_48 (m189x g1 (by omega) (fun s2 g2 => B195_54 ?_))))))
        · rw [if_pos e] at h1 h0
          have g3 := g.2.2 e
          refine ih (f (p + 1)).2.1 _ s2 _ (by omega) ?_ ?_ g.2.1 h1 h0
          · rw [show D ++ (os ++ ((f (p + 1)).2.2 ++ [(tpF a p, 0)])) = D ++ os ++ (f (p + 1)).2.2 ++ [(tpF a p, 0)] by simp]
            exact g2
          · simp only [List.length_append, List.length_cons, List.length_nil]
            omega
        · rw [if_neg (by rw [e]; decide)] at h0
          exact bad s2 _ _ _ g2 (h0 rfl s2 (g2.le (by show (_ : Int) ≤ (D.length : Int) + ((f (p + 1)).2.1 : Nat) - p0 + 1; omega)))
      exact B195_4 ⟨fun e => absurd e (by omega), fun _ => m187 h24 hs.1 hs.2.1 (B195_15 ⟨fun _ => go, fun c => m187 h24 hs.1 hs.2.1 (B195_24 ⟨fun c3 => absurd hT (by omega), fun _ => go⟩)⟩)⟩
    · rw [if_neg hn] at h1
      exact out p s _ o1 hs hn (h1 rfl s hs)
theorem m195 {f : Nat → zPr} {dep : Int} (h24 : 0 ≤ a 42 24 ∧ a 42 24 ≤ 120) (hg : fGood (a 42 24).toNat f) (hf : eOK x (d + 2) 194 a f dep) : eOK x (d + 3) 195 a (pLv (tpF a) f 3) dep := by
  intro s p D Q hs hD hp h1 h0
  have g := hg p hp
  unfold pLv at h1 h0
  rw [if_neg (show ¬ (3 : Int) = 2 by decide)] at h1 h0
  refine N195 (B195_0 (hf s p D _ hs hD hp (fun e s' g1 => ?_) (fun e s' g1 => ?_)))
  · rw [if_pos e] at h1 h0
    have g3 := g.2.2 e
    exact m195_loop h24 hg hf hD 120 (f p).2.1 (f p).2.2 s' none (by omega) g1 (by omega) g.2.1 h1 h0
  · rw [if_neg (by rw [e]; decide)] at h0
    exact B195_4 ⟨fun _ => B195_57 (h0 rfl s' g1), fun e => absurd g1.2.2.1 (by omega)⟩
theorem m196 {f : Nat → zPr} {dep : Int} (h24 : 0 ≤ a 42 24 ∧ a 42 24 ≤ 120) (hg : fGood (a 42 24).toNat f) (hf : eOK x (d + 2) 195 a f dep) : eOK x (d + 3) 196 a (pLv (tpF a) f 2) dep := by
  intro s p D Q hs hD hp h1 h0
  have g := hg p hp
  unfold pLv at h1 h0
  rw [if_pos rfl] at h1 h0
  refine N196 (B196_0 (hf s p D _ hs hD hp (fun e s' g1 => ?_) (fun e s' g1 => B196_4 (m187 h24 g1.1 g1.2.1 (B196_8 ⟨fun _ => B196_34 ?_, fun e => absurd g1.2.2.1 (by omega)⟩)))))
  · rw [if_pos e] at h1 h0
    have g3 := g.2.2 e
    have e26 := g1.2.2.1
    unfold pLoop at h1 h0
    by_cases hn : lvOf (tpF a (f p).2.1) = 2
    · rw [if_pos hn] at h1 h0
      have hT : tpF a (f p).2.1 = 60 ∨ tpF a (f p).2.1 = 61 ∨ tpF a (f p).2.1 = 62 := by
        unfold lvOf at hn
        repeat' split at hn
        all_goals omega
      have hp2 : (f p).2.1 + 1 ≤ (a 42 24).toNat := by
        refine Nat.lt_of_not_le (fun e => ?_)
        have := tpF_end a _ e
        omega
      have k := hg _ hp2
      have hl2 : (D ++ (f p).2.2).length = D.length + (f p).2.2.length := List.length_append
      have go : zJ x (d + 2) 196 35 [some (.inr (.inl 42)), some (.inl (tpF a (f p).2.1))] [] s' Q := by
        refine B196_35 (hf _ ((f p).2.1 + 1) (D ++ (f p).2.2) _ (g1.go (by omega)) (by omega) hp2 (fun e2 s2 g2 => B196_49 (m189 g2 (by have := k.2.2 e2; rw [List.length_append]; omega) (by omega) (fun s3 g4 => B196_55 ?_))) (fun e2 s2 g2 => B196_49 (m189x g2 (by omega) (fun s3 g4 => B196_55 ?_))))
        · rw [if_pos e2] at h1
          refine h1 rfl s3 ?_
          show rfG a s3 _ dep (D ++ ((f p).2.2 ++ ((f ((f p).2.1 + 1)).2.2 ++ [(tpF a (f p).2.1, 0)])))
          rw [show D ++ ((f p).2.2 ++ ((f ((f p).2.1 + 1)).2.2 ++ [(tpF a (f p).2.1, 0)])) = D ++ (f p).2.2 ++ (f ((f p).2.1 + 1)).2.2 ++ [(tpF a (f p).2.1, 0)] by simp]
          exact g4
        · rw [if_neg (by rw [e2]; decide)] at h0
          exact h0 rfl s3 (g4.le (by show (_ : Int) ≤ (D.length : Int) + ((f ((f p).2.1 + 1)).2.1 : Nat) - p + 1; omega))
      exact B196_4 (m187 h24 g1.1 g1.2.1 (B196_8 ⟨fun e => absurd e (by omega), fun _ => ⟨fun _ => go, fun _ => ⟨fun _ => go, fun _ => ⟨fun _ => go, fun _ => absurd hT (by omega)⟩⟩⟩⟩))
    · rw [if_neg hn] at h1
      have hn2 : ¬ (tpF a (f p).2.1 = 60 ∨ tpF a (f p).2.1 = 61 ∨ tpF a (f p).2.1 = 62) := fun e => hn (by
        unfold lvOf
        repeat' split
        all_goals omega)
      exact B196_4 (m187 h24 g1.1 g1.2.1 (B196_8 ⟨fun e => absurd e (by omega), fun _ => ⟨fun c => absurd (Or.inl c) hn2, fun _ => ⟨fun c => absurd (Or.inr (Or.inl c)) hn2, fun _ => ⟨fun c => absurd (Or.inr (Or.inr c)) hn2, fun _ => B196_34 (h1 rfl s' g1)⟩⟩⟩⟩))
  · rw [if_neg (by rw [e]; decide)] at h0
    exact h0 rfl s' g1
theorem m197_loop {f : Nat → zPr} {dep : Int} {D : List (Int × Int)} {p0 : Nat} (h24 : 0 ≤ a 42 24 ∧ a 42 24 ≤ 120) (hg : fGood (a 42 24).toNat f) (hf : eOK x (d + 2) 196 a f dep) (hD : D.length ≤ p0) : ∀ (j p : Nat) (os : List (Int × Int)) (s : zSt), 120 ≤ j + p → rfG a s p dep (D ++ os) → p0 + os.length ≤ p → p ≤ (a 42 24).toNat →
    ((pLoop (tpF a) f 1 j p os).1 = true → ∀ s', rfG a s' (pLoop (tpF a) f 1 j p os).2.1 dep (D ++ (pLoop (tpF a) f 1 j p os).2.2) → Q none s') →
    ((pLoop (tpF a) f 1 j p os).1 = false → ∀ s', rfX a s' (pLoop (tpF a) f 1 j p os).2.1 ((D.length : Int) + ((pLoop (tpF a) f 1 j p os).2.1 : Nat) - p0 + 1) → Q none s') → zJ x (d + 2) 197 4 [some (.inr (.inl 42))] [] s Q := by
  have out : ∀ (p : Nat) (s : zSt) (D' : List (Int × Int)), rfG a s p dep D' → ¬ lvOf (tpF a p) = 1 → Q none s → zJ x (d + 2) 197 4 [some (.inr (.inl 42))] [] s Q := fun p s D' hs hn hq => by
    have hn : ¬ (tpF a p = 38) := fun e => hn (by
      unfold lvOf
      repeat' split
      all_goals omega)
    have e26 := hs.2.2.1
    exact B197_4 ⟨fun e => absurd e (by omega), fun _ => m187 h24 hs.1 hs.2.1 (B197_15 ⟨fun _ => B197_44 hq, fun c => absurd (Decidable.not_not.mp c) hn⟩)⟩
  have bad : ∀ (s : zSt) (q : Nat) (n : Int), rfX a s q n → Q none s → zJ x (d + 2) 197 4 [some (.inr (.inl 42))] [] s Q := fun s q n hs hq => B197_4 ⟨fun _ => B197_44 hq, fun e => absurd hs.2.2.1 (by omega)⟩
  intro j
  induction j with
  | zero =>
    intro p os s hj hs hl hp h1 h0
    refine out p s _ hs (fun e => ?_) (h1 rfl s hs)
    rw [tpF_end a p (by omega)] at e
    exact absurd e (by decide)
  | succ j ih =>
    intro p os s hj hs hl hp h1 h0
    unfold pLoop at h1 h0
    by_cases hn : lvOf (tpF a p) = 1
    · rw [if_pos hn] at h1 h0
      have hT : tpF a p = 38 := by
        unfold lvOf at hn
        repeat' split at hn
        all_goals omega
      have hp2 : p + 1 ≤ (a 42 24).toNat := by
        refine Nat.lt_of_not_le (fun e => ?_)
        have := tpF_end a p e
        omega
      have g := hg (p + 1) hp2
      have e26 := hs.2.2.1
      have hl2 : (D ++ os).length = D.length + os.length := List.length_append
      have go : zE x (d + 2) 196 [.inr (.inl 42)] (zU s 42 25 (wr (s 42 25 + 1))) (fun r s1 => zJ x (d + 2) 197 34 [some (.inr (.inl 42))] (zAp r []) s1 Q) := by
        refine (hf _ (p + 1) (D ++ os) _ (hs.go (by omega)) (by omega) hp2 (fun e s' g1 => B197_34 (m189 g1 (by have := g.2.2 e; rw [List.length_append]; omega) (by omega) (fun s2 g2 => B197_41 ?_))) (fun e s' g1 => B197_34 (m189x g1 (by omega) (fun s2 g2 => B197_41 ?_))))
        · rw [if_pos e] at h1 h0
          have g3 := g.2.2 e
          refine ih (f (p + 1)).2.1 _ s2 (by omega) ?_ ?_ g.2.1 h1 h0
          · rw [show D ++ (os ++ ((f (p + 1)).2.2 ++ [(tpF a p, 0)])) = D ++ os ++ (f (p + 1)).2.2 ++ [(tpF a p, 0)] by simp]
            rw [hT]
            exact g2
          · simp only [List.length_append, List.length_cons, List.length_nil]
            omega
        · rw [if_neg (by rw [e]; decide)] at h0
          exact bad s2 _ _ g2 (h0 rfl s2 (g2.le (by show (_ : Int) ≤ (D.length : Int) + ((f (p + 1)).2.1 : Nat) - p0 + 1; omega)))
      exact B197_4 ⟨fun e => absurd e (by omega), fun _ => m187 h24 hs.1 hs.2.1 (B197_15 ⟨fun c => absurd hT c, fun _ => go⟩)⟩
    · rw [if_neg hn] at h1
      exact out p s _ hs hn (h1 rfl s hs)
theorem m197 {f : Nat → zPr} {dep : Int} (h24 : 0 ≤ a 42 24 ∧ a 42 24 ≤ 120) (hg : fGood (a 42 24).toNat f) (hf : eOK x (d + 2) 196 a f dep) : eOK x (d + 3) 197 a (pLv (tpF a) f 1) dep := by
  intro s p D Q hs hD hp h1 h0
  have g := hg p hp
  unfold pLv at h1 h0
  rw [if_neg (show ¬ (1 : Int) = 2 by decide)] at h1 h0
  refine N197 (B197_0 (hf s p D _ hs hD hp (fun e s' g1 => ?_) (fun e s' g1 => ?_)))
  · rw [if_pos e] at h1 h0
    have g3 := g.2.2 e
    exact m197_loop h24 hg hf hD 120 (f p).2.1 (f p).2.2 s' (by omega) g1 (by omega) g.2.1 h1 h0
  · rw [if_neg (by rw [e]; decide)] at h0
    exact B197_4 ⟨fun _ => B197_44 (h0 rfl s' g1), fun e => absurd g1.2.2.1 (by omega)⟩
theorem m198_loop {f : Nat → zPr} {dep : Int} {D : List (Int × Int)} {p0 : Nat} (h24 : 0 ≤ a 42 24 ∧ a 42 24 ≤ 120) (hg : fGood (a 42 24).toNat f) (hf : eOK x (d + 2) 197 a f dep) (hD : D.length ≤ p0) : ∀ (j p : Nat) (os : List (Int × Int)) (s : zSt), 120 ≤ j + p → rfG a s p dep (D ++ os) → p0 + os.length ≤ p → p ≤ (a 42 24).toNat →
    ((pLoop (tpF a) f 0 j p os).1 = true → ∀ s', rfG a s' (pLoop (tpF a) f 0 j p os).2.1 dep (D ++ (pLoop (tpF a) f 0 j p os).2.2) → Q none s') →
    ((pLoop (tpF a) f 0 j p os).1 = false → ∀ s', rfX a s' (pLoop (tpF a) f 0 j p os).2.1 ((D.length : Int) + ((pLoop (tpF a) f 0 j p os).2.1 : Nat) - p0 + 1) → Q none s') → zJ x (d + 2) 198 4 [some (.inr (.inl 42))] [] s Q := by
  have out : ∀ (p : Nat) (s : zSt) (D' : List (Int × Int)), rfG a s p dep D' → ¬ lvOf (tpF a p) = 0 → Q none s → zJ x (d + 2) 198 4 [some (.inr (.inl 42))] [] s Q := fun p s D' hs hn hq => by
    have hn : ¬ (tpF a p = 124) := fun e => hn (by
      unfold lvOf
      repeat' split
      all_goals omega)
    have e26 := hs.2.2.1
    exact B198_4 ⟨fun e => absurd e (by omega), fun _ => m187 h24 hs.1 hs.2.1 (B198_15 ⟨fun _ => B198_44 hq, fun c => absurd (Decidable.not_not.mp c) hn⟩)⟩
  have bad : ∀ (s : zSt) (q : Nat) (n : Int), rfX a s q n → Q none s → zJ x (d + 2) 198 4 [some (.inr (.inl 42))] [] s Q := fun s q n hs hq => B198_4 ⟨fun _ => B198_44 hq, fun e => absurd hs.2.2.1 (by omega)⟩
  intro j
  induction j with
  | zero =>
    intro p os s hj hs hl hp h1 h0
    refine out p s _ hs (fun e => ?_) (h1 rfl s hs)
    rw [tpF_end a p (by omega)] at e
    exact absurd e (by decide)
  | succ j ih =>
    intro p os s hj hs hl hp h1 h0
    unfold pLoop at h1 h0
    by_cases hn : lvOf (tpF a p) = 0
    · rw [if_pos hn] at h1 h0
      have hT : tpF a p = 124 := by
        unfold lvOf at hn
        repeat' split at hn
        all_goals omega
      have hp2 : p + 1 ≤ (a 42 24).toNat := by
        refine Nat.lt_of_not_le (fun e => ?_)
        have := tpF_end a p e
        omega
      have g := hg (p + 1) hp2
      have e26 := hs.2.2.1
      have hl2 : (D ++ os).length = D.length + os.length := List.length_append
      have go : zE x (d + 2) 197 [.inr (.inl 42)] (zU s 42 25 (wr (s 42 25 + 1))) (fun r s1 => zJ x (d + 2) 198 34 [some (.inr (.inl 42))] (zAp r []) s1 Q) := by
        refine (hf _ (p + 1) (D ++ os) _ (hs.go (by omega)) (by omega) hp2 (fun e s' g1 => B198_34 (m189 g1 (by have := g.2.2 e; rw [List.length_append]; omega) (by omega) (fun s2 g2 => B198_41 ?_))) (fun e s' g1 => B198_34 (m189x g1 (by omega) (fun s2 g2 => B198_41 ?_))))
        · rw [if_pos e] at h1 h0
          have g3 := g.2.2 e
          refine ih (f (p + 1)).2.1 _ s2 (by omega) ?_ ?_ g.2.1 h1 h0
          · rw [show D ++ (os ++ ((f (p + 1)).2.2 ++ [(tpF a p, 0)])) = D ++ os ++ (f (p + 1)).2.2 ++ [(tpF a p, 0)] by simp]
            rw [hT]
            exact g2
          · simp only [List.length_append, List.length_cons, List.length_nil]
            omega
        · rw [if_neg (by rw [e]; decide)] at h0
          exact bad s2 _ _ g2 (h0 rfl s2 (g2.le (by show (_ : Int) ≤ (D.length : Int) + ((f (p + 1)).2.1 : Nat) - p0 + 1; omega)))
      exact B198_4 ⟨fun e => absurd e (by omega), fun _ => m187 h24 hs.1 hs.2.1 (B198_15 ⟨fun c => absurd hT c, fun _ => go⟩)⟩
    · rw [if_neg hn] at h1
      exact out p s _ hs hn (h1 rfl s hs)
theorem m198 {f : Nat → zPr} {dep : Int} (h24 : 0 ≤ a 42 24 ∧ a 42 24 ≤ 120) (hg : fGood (a 42 24).toNat f) (hf : eOK x (d + 2) 197 a f dep) : eOK x (d + 3) 198 a (pLv (tpF a) f 0) dep := by
  intro s p D Q hs hD hp h1 h0
  have g := hg p hp
  unfold pLv at h1 h0
  rw [if_neg (show ¬ (0 : Int) = 2 by decide)] at h1 h0
  refine N198 (B198_0 (hf s p D _ hs hD hp (fun e s' g1 => ?_) (fun e s' g1 => ?_)))
  · rw [if_pos e] at h1 h0
    have g3 := g.2.2 e
    exact m198_loop h24 hg hf hD 120 (f p).2.1 (f p).2.2 s' (by omega) g1 (by omega) g.2.1 h1 h0
  · rw [if_neg (by rw [e]; decide)] at h0
    exact B198_4 ⟨fun _ => B198_44 (h0 rfl s' g1), fun e => absurd g1.2.2.1 (by omega)⟩
theorem m198_all {f : Nat → zPr} {dep : Int} (h24 : 0 ≤ a 42 24 ∧ a 42 24 ≤ 120) (hg : fGood (a 42 24).toNat f) (hf : eOK x (d + 2) 193 a f dep) : eOK x (d + 7) 198 a (pAll (tpF a) f) dep := by
  have e := tpF_end a
  have g4 := pLv_good (lv := 4) e (by omega) hg
  have g3 := pLv_good (lv := 3) e (by omega) g4
  have g2 := pLv_good (lv := 2) e (by omega) g3
  have g1 := pLv_good (lv := 1) e (by omega) g2
  exact m198 h24 g1 (m197 h24 g2 (m196 h24 g3 (m195 h24 g4 (m194 h24 hg hf))))
theorem m193 (h24 : 0 ≤ a 42 24 ∧ a 42 24 ≤ 120) : ∀ (r n : Nat) (dep : Int), dep + r = 6 → 0 ≤ dep → 8 * r + 5 ≤ n → eOK x n 193 a (pOpnd (tpF a) r) dep
  | 0, n, dep, hr, h00, hn => by
    intro s p D Q hs hD hp h1 h0
    obtain ⟨d, rfl⟩ : ∃ d, n = d + 5 := ⟨n - 5, by omega⟩
    have hd : dep = 6 := by omega
    subst hd
    have fin : pOne (tpF a) p (false, p, []) = (false, p, []) → ∀ s', rfX a s' p D.length → Q none s' := fun e s' g => by
      have e : pOpnd (tpF a) 0 p = (false, p, []) := e
      rw [e] at h0
      exact h0 rfl s' (g.le (by show (D.length : Int) ≤ D.length + (p : Nat) - p + 1; omega))
    exact m193_one (d := d + 1) h24 hs hD hp h1 h0 (fun _ _ _ => rfl) (fun e _ => B193_46 (m191_no hs (fun s' g => B193_50 ⟨fun c => absurd rfl c, fun _ => fin e s' g⟩))) (fun e c40 => B193_87 ⟨fun c => absurd c40 c, fun _ => m191_no hs (fun s' g => B193_97 ⟨fun c => absurd rfl c, fun _ => fin e s' g⟩)⟩)
  | r + 1, n, dep, hr, h00, hn => by
    intro s p D Q hs hD hp h1 h0
    have hN : (a 42 24).toNat ≤ 120 := by omega
    obtain ⟨d, rfl⟩ : ∃ d, n = d + 9 := ⟨n - 9, by omega⟩
    have sub := m193 h24 r (d + 8) (dep + 1) (by omega) (by omega) (by omega)
    have gs := pOpnd_good (tpF_end a) r
    have all := m198_all (x := x) (d := d + 1) h24 gs (m193 h24 r (d + 3) (dep + 1) (by omega) (by omega) (by omega))
    have ga := pAll_good (tpF_end a) gs
    have np : tpF a p ≠ -1 → p + 1 ≤ (a 42 24).toNat := fun e => Nat.lt_of_not_le (fun g => e (tpF_end a p g))
    refine m193_one (d := d + 5) h24 hs hD hp h1 h0 (fun c1 c2 c3 => ?_) (fun ep c => B193_46 (m191_go hs (by omega) (by omega) (fun s1 g1 => B193_50 ⟨fun _ => B193_54 ?_, fun c => absurd (by decide) c⟩))) (fun ep c40 => B193_87 ⟨fun c => absurd c40 c, fun _ => m191_go hs (by omega) (by omega) (fun s1 g1 => B193_97 ⟨fun _ => B193_101 ?_, fun c => absurd (by decide) c⟩)⟩)
    · rw [if_neg c3, if_neg (fun e => by rcases e with e | e; exact c1 e; exact c2 e)]
    · have eq : pOpnd (tpF a) (r + 1) p = _ := ep
      rw [if_neg (show ¬ tpF a p = 40 by omega), if_pos c] at eq
      have hp2 := np (by omega)
      have g := gs (p + 1) hp2
      refine sub s1 (p + 1) D _ g1 (by omega) hp2 (fun e s2 g2 => ?_) (fun e s2 g2 => ?_)
      · rw [if_pos e] at eq
        rw [eq] at h1
        have g3 := g.2.2 e
        have dwn : rfG a (zU s2 42 27 (wr (s2 42 27 - 1))) (pOpnd (tpF a) r (p + 1)).2.1 dep (D ++ (pOpnd (tpF a) r (p + 1)).2.2) := by
          obtain ⟨k1, k2, k3, k4, k5⟩ := g2
          refine ⟨k1.U (by omega), k2, k3, ?_, k5⟩
          show wr (s2 42 27 - 1) = dep
          rw [k4, wr_id (by unfold zR; omega)]
          omega
        refine B193_58 ⟨fun c3 => B193_79 (B193_80 (m189 dwn (by rw [List.length_append]; omega) (by omega) (fun s3 g4 => B193_84 (B193_154 (h1 rfl s3 ?_))))), fun c3 => B193_80 (m189 dwn (by rw [List.length_append]; omega) (by omega) (fun s3 g4 => B193_84 (B193_154 (h1 rfl s3 ?_))))⟩
        · show rfG a s3 _ dep (D ++ ((pOpnd (tpF a) r (p + 1)).2.2 ++ [(if tpF a p = 33 then 3 else 4, 0)]))
          rw [if_neg c3, ← List.append_assoc]
          exact g4
        · show rfG a s3 _ dep (D ++ ((pOpnd (tpF a) r (p + 1)).2.2 ++ [(if tpF a p = 33 then 3 else 4, 0)]))
          rw [if_pos (Decidable.not_not.mp c3), ← List.append_assoc]
          exact g4
      · rw [if_neg (by rw [e]; decide)] at eq
        rw [eq] at h0
        have dwn : ∀ v, rfX a (zU s2 42 27 v) (pOpnd (tpF a) r (p + 1)).2.1 ((D.length : Int) + ((pOpnd (tpF a) r (p + 1)).2.1 : Nat) - (p + 1 : Nat) + 1) := fun v => by
          obtain ⟨k1, k2, k3, k4, k5⟩ := g2
          exact ⟨k1.U (by omega), k2, k3, k4, k5⟩
        have fin : ∀ s3, rfX a s3 (pOpnd (tpF a) r (p + 1)).2.1 ((D.length : Int) + ((pOpnd (tpF a) r (p + 1)).2.1 : Nat) - (p + 1 : Nat) + 1 + 1) → Q none s3 := fun s3 g4 => h0 rfl s3 (g4.le (by show (_ : Int) ≤ (D.length : Int) + ((pOpnd (tpF a) r (p + 1)).2.1 : Nat) - p + 1; omega))
        exact B193_58 ⟨fun c3 => B193_79 (B193_80 (m189x (dwn _) (by omega) (fun s3 g4 => B193_84 (B193_154 (fin s3 g4))))), fun c3 => B193_80 (m189x (dwn _) (by omega) (fun s3 g4 => B193_84 (B193_154 (fin s3 g4))))⟩
    · have eq : pOpnd (tpF a) (r + 1) p = _ := ep
      rw [if_pos c40] at eq
      have hp2 := np (by omega)
      have g := ga (p + 1) hp2
      refine all s1 (p + 1) D _ g1 (by omega) hp2 (fun e s2 g2 => ?_) (fun e s2 g2 => B193_105 ⟨fun c => absurd g2.2.2.1 (by omega), fun _ => ?_⟩)
      · have e26 := g2.2.2.1
        have g3 := g.2.2 e
        refine B193_105 ⟨fun _ => B193_113 (m187 h24 g2.1 g2.2.1 (B193_117 ⟨fun c41 => B193_127 (B193_154 ?_), fun c41 => m188 g2 (fun s3 g4 => B193_126 ?_)⟩)), fun c => absurd (by omega) c⟩
        · rw [if_pos ⟨e, c41⟩] at eq
          rw [eq] at h1
          refine h1 rfl _ ?_
          obtain ⟨k1, k2, k3, k4, k5⟩ := g2
          refine ⟨(k1.U (by omega)).U (by omega), ?_, k3, ?_, k5⟩
          · show wr (s2 42 25 + 1) = (((pAll (tpF a) (pOpnd (tpF a) r) (p + 1)).2.1 + 1 : Nat) : Int)
            rw [k2, wr_id (by unfold zR; omega)]
            omega
          · show wr (s2 42 27 - 1) = dep
            rw [k4, wr_id (by unfold zR; omega)]
            omega
        · rw [if_neg (fun c => c41 c.2)] at eq
          rw [eq] at h0
          refine h0 rfl s3 (g4.le ?_)
          rw [List.length_append]
          show _ ≤ (D.length : Int) + ((pAll (tpF a) (pOpnd (tpF a) r) (p + 1)).2.1 : Nat) - p + 1
          omega
      · rw [if_neg (fun c => by rw [e] at c; exact absurd c.1 (by decide))] at eq
        rw [eq] at h0
        exact h0 rfl s2 (g2.le (by show (_ : Int) ≤ (D.length : Int) + ((pAll (tpF a) (pOpnd (tpF a) r) (p + 1)).2.1 : Nat) - p + 1; omega))
end ZRead2
