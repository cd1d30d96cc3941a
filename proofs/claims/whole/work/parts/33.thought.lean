/-! the class: a field thought of (Thought) -/
def sumN (f : Nat → Int) : Nat → Int
  | 0 => 0
  | k + 1 => wr (sumN f k + f k)
theorem sumN_R (f : Nat → Int) : ∀ k, zR (sumN f k)
  | 0 => zR0
  | _ + 1 => wr_R _
/-- who has most (above m), how much -/
def topF (f : Nat → Int) (m : Int) : Nat → Int × Int
  | 0 => (-2, m)
  | k + 1 => if (topF f m k).2 < f k then ((k : Int), f k) else topF f m k
def bitF (g : Nat → Prop) [DecidablePred g] : Nat → Int
  | 0 => 0
  | k + 1 => zOr (bitF g k) (if g k then zShl 1 k else 0)
theorem endF_lt (a : zSt) (c k : Nat) : endF a c k + 1 ≤ endF a c (k + 1) ∧ endF a c (k + 1) ≤ endF a c k + 99 := by
  have h2 := lapF_1 a c k (endF a c k)
  show endF a c k + 1 ≤ endF a c k + lapF a c k (endF a c k) ∧ endF a c k + lapF a c k (endF a c k) ≤ endF a c k + 99
  omega
theorem endF_le (a : zSt) (c k : Nat) : ∀ j, endF a c k + j ≤ endF a c (k + j)
  | 0 => by simp
  | j + 1 => by
    have h := endF_le a c k j
    have h2 := (endF_lt a c (k + j)).1
    rw [show k + (j + 1) = k + j + 1 by omega]
    omega
theorem lapsF_spec (a : zSt) (c : Nat) (t : Int) : ∀ n k, k ≤ lapsF a c t n k ∧ lapsF a c t n k ≤ k + n ∧ (k < lapsF a c t n k → endF a c (lapsF a c t n k) ≤ t) ∧ (lapsF a c t n k < k + n → t < endF a c (lapsF a c t n k + 1))
  | 0, k => by simp [lapsF]
  | n + 1, k => by
    unfold lapsF
    split
    · rename_i h
      exact ⟨Nat.le_refl _, by omega, fun e => absurd e (Nat.lt_irrefl _), fun _ => h⟩
    · rename_i h
      obtain ⟨h1, h2, h3, h4⟩ := lapsF_spec a c t n (k + 1)
      refine ⟨by omega, by omega, fun e => ?_, fun e => h4 (by omega)⟩
      by_cases hk : k + 1 < lapsF a c t n (k + 1)
      · exact h3 hk
      · rw [show lapsF a c t n (k + 1) = k + 1 by omega]; omega
theorem lapsBy_spec (a : zSt) (c : Nat) (t : Int) (ht : 0 ≤ t) : lapsBy a c t ≤ (a 45 c).toNat ∧ endF a c (lapsBy a c t) ≤ t ∧ (lapsBy a c t < (a 45 c).toNat → t < endF a c (lapsBy a c t + 1)) := by
  obtain ⟨h1, h2, h3, h4⟩ := lapsF_spec a c t (a 45 c).toNat 0
  refine ⟨by unfold lapsBy; omega, ?_, fun h => h4 (by unfold lapsBy at h; omega)⟩
  by_cases hk : 0 < lapsF a c t (a 45 c).toNat 0
  · exact h3 hk
  · unfold lapsBy
    rw [show lapsF a c t (a 45 c).toNat 0 = 0 by omega]
    exact ht
theorem lapsBy_eq {a : zSt} {c : Nat} {t : Int} {r : Nat} (ht : 0 ≤ t) (h1 : r ≤ (a 45 c).toNat) (h2 : endF a c r ≤ t) (h3 : r < (a 45 c).toNat → t < endF a c (r + 1)) : r = lapsBy a c t := by
  obtain ⟨g1, g2, g3⟩ := lapsBy_spec a c t ht
  rcases Nat.lt_trichotomy r (lapsBy a c t) with h | h | h
  · have h4 := endF_le a c (r + 1) (lapsBy a c t - (r + 1))
    rw [show r + 1 + (lapsBy a c t - (r + 1)) = lapsBy a c t by omega] at h4
    have := h3 (by omega)
    omega
  · exact h
  · have h4 := endF_le a c (lapsBy a c t + 1) (r - (lapsBy a c t + 1))
    rw [show lapsBy a c t + 1 + (r - (lapsBy a c t + 1)) = r by omega] at h4
    have := g3 (by omega)
    omega
theorem zN0 {a : zSt} (hI : zFolk a) {c : Int} (hc : 0 ≤ c ∧ c < a 2 3) : 1 ≤ a 43 c.toNat ∧ a 43 c.toNat ≤ 30 := (hI.2.1 0 c (by unfold zOkN; omega)).2
theorem zN2 {a : zSt} (hI : zFolk a) {c : Int} (hc : 0 ≤ c ∧ c < a 2 3) : 0 ≤ a 45 c.toNat ∧ a 45 c.toNat ≤ 99 := (hI.2.1 2 c (by unfold zOkN; omega)).2
theorem zN3 {a : zSt} (hI : zFolk a) {c : Int} (hc : 0 ≤ c ∧ c < a 2 3) : 0 ≤ a 46 c.toNat ∧ a 46 c.toNat ≤ 12 := (hI.2.1 3 c (by unfold zOkN; omega)).2
theorem zN4 {a : zSt} (hI : zFolk a) {c : Int} (hc : 0 ≤ c ∧ c < a 2 4) : 0 ≤ a 48 c.toNat ∧ a 48 c.toNat ≤ 200 := (hI.2.1 4 c (by unfold zOkN; omega)).2
theorem zN5 {a : zSt} (hI : zFolk a) {c : Int} (hc : 0 ≤ c ∧ c < a 2 4) : 0 ≤ a 49 c.toNat ∧ a 49 c.toNat ≤ 999 := (hI.2.1 5 c (by unfold zOkN; omega)).2
theorem zN7 {a : zSt} (hI : zFolk a) {c : Int} (hc : 0 ≤ c ∧ c < a 2 4) : 0 ≤ a 51 c.toNat ∧ a 51 c.toNat ≤ 9999 := (hI.2.1 7 c (by unfold zOkN; omega)).2
theorem zN8 {a : zSt} (hI : zFolk a) {c : Int} (hc : 0 ≤ c ∧ c < a 2 4) : 0 ≤ a 52 c.toNat ∧ a 52 c.toNat ≤ 9999 := (hI.2.1 8 c (by unfold zOkN; omega)).2
theorem zN10 {a : zSt} (hI : zFolk a) : 0 ≤ a 42 14 ∧ a 42 14 ≤ 12 := (hI.2.1 10 0 (by unfold zOkN; omega)).2
theorem zN11 {a : zSt} (hI : zFolk a) : 1 ≤ a 42 15 ∧ a 42 15 ≤ 4 := (hI.2.1 11 0 (by unfold zOkN; omega)).2
theorem zN12 {a : zSt} (hI : zFolk a) : 0 ≤ a 42 16 ∧ a 42 16 ≤ 999 := (hI.2.1 12 0 (by unfold zOkN; omega)).2
/-- what the thought laps are -/
def zNow (a : zSt) (f : Nat → Int) (s : zSt) : Prop := ∀ c : Nat, (c : Int) < a 2 3 → s 21 c = f c
theorem zNow.fr {a s t : zSt} {f : Nat → Int} {L : List Nat} (h : zNow a f s) (hf : zFr L s t) (hL : L.contains 21 = false) : zNow a f t := fun c hc => by rw [hf 21 hL]; exact h c hc
def paidAll (a : zSt) (f : Nat → Int) : Int := if (topF f 0 (a 2 3).toNat).1 = -2 then sumN (fun c => paidTo a c (f c)) (a 2 3).toNat else wr (sumN (fun c => paidTo a c (f c)) (a 2 3).toNat - a 42 16)
section ZThought
variable {x : List Int} {d : Nat} {a s : zSt} {Q : zQ} {f : Nat → Int}
theorem m102_loop {c t : Int} (hI : zFolk a) (hL : zLaw a) (hs : zSim a s) (hc : 0 ≤ c ∧ c < a 2 3) (hQ : ∀ s', zFr [14, 15] s s' → Q (some (.inl (lapsBy a c.toNat t))) s') :
    ∀ (j i : Nat), i + j = (a 45 c.toNat).toNat → lapsF a c.toNat t j i = lapsBy a c.toNat t → ∀ u, zFr [14, 15] s u → zJ x (d + 4) 102 16 [some (.inr (.inl 4)), some (.inl c), some (.inl t), some (.inl (a 45 c.toNat)), some (.inl (endF a c.toNat i)), some (.inl (i : Int))] [] u Q := by
  have h99 := zN2 hI hc
  intro j
  induction j with
  | zero =>
    intro i h1 h2 u hu
    refine B102_16 ⟨fun _ => B102_54 (zQi (hQ u hu) ?_), fun h => absurd h (by omega)⟩
    have h3 : i = lapsBy a c.toNat t := h2
    omega
  | succ j ih =>
    intro i h1 h2 u hu
    refine B102_16 ⟨fun h => absurd h (by omega), fun _ => m50 hI hL (hs.tr (hu.le _ rfl)) hc (fun u' hu' => B102_36 ?_)⟩
    have h3 := endF_pos a c.toNat i
    have h4 := endF_pos a c.toNat (i + 1)
    have e1 : wr (endF a c.toNat i + lapF a c.toNat i (endF a c.toNat i)) = endF a c.toNat (i + 1) := wr_id (by unfold zR; unfold endF at h4; omega)
    have e2 : wr ((i : Int) + 1) = ((i + 1 : Nat) : Int) := by unfold wr; omega
    rw [e1]
    unfold lapsF at h2
    refine ⟨fun h5 => B102_48 ?_, fun h5 => zQi (hQ u' (hu.tr hu')) ?_⟩
    · rw [e2]
      rw [if_neg (by omega)] at h2
      exact ih (i + 1) (by omega) h2 u' (hu.tr hu')
    · rw [if_pos (by omega)] at h2
      rw [h2]
theorem m102 {c t : Int} (hI : zFolk a) (hL : zLaw a) (hs : zSim a s) (hc : 0 ≤ c ∧ c < a 2 3) (hQ : ∀ s', zFr [14, 15] s s' → Q (some (.inl (lapsBy a c.toNat t))) s') : zE x (d + 5) 102 [.inr (.inl 4), .inl c, .inl t] s Q :=
  N102 (B102_0 (m46 hI hs (by unfold zOkN; omega) (B102_9 (m102_loop hI hL hs hc hQ (a 45 c.toNat).toNat 0 (by omega) rfl s zFr.rf))))
theorem m103_loop {t : Int} (hI : zFolk a) (hL : zLaw a) (hs : zSim a s) (hQ : ∀ s', zFr [14, 15, 21] s s' → zNow a (fun c => lapsBy a c t) s' → Q none s') :
    ∀ (j i : Nat), (i : Int) + j = a 2 3 → ∀ u, zFr [14, 15, 21] s u → (∀ c : Nat, c < i → u 21 c = lapsBy a c t) → zJ x (d + 5) 103 2 [some (.inr (.inl 4)), some (.inl t), some (.inl (i : Int))] [] u Q := by
  have i1 := hI.1.1
  intro j
  induction j with
  | zero =>
    intro i h1 u hu hn
    refine B103_2 (m38 (hs.tr (hu.le _ rfl)) (B103_10 ⟨fun _ => B103_31 (hQ u hu (fun c hc => hn c (by omega))), fun h => absurd h (by omega)⟩))
  | succ j ih =>
    intro i h1 u hu hn
    refine B103_2 (m38 (hs.tr (hu.le _ rfl)) (B103_10 ⟨fun h => absurd h (by omega), fun _ => m102 hI hL (hs.tr (hu.le _ rfl)) (by omega) (fun u' hu' => B103_24 ⟨by omega, by omega, ?_⟩)⟩))
    have e2 : wr ((i : Int) + 1) = ((i + 1 : Nat) : Int) := by unfold wr; omega
    rw [e2, show ((i : Int)).toNat = i by omega]
    refine ih (i + 1) (by omega) _ ((hu.tr (hu'.le _ rfl)).U rfl _ _) (fun c hc => ?_)
    rw [zU_at]
    dsimp only
    split
    · rename_i e; rw [e]
    · rw [hu' 21 rfl]; exact hn c (by omega)
theorem m103 {t : Int} (hI : zFolk a) (hL : zLaw a) (hs : zSim a s) (hQ : ∀ s', zFr [14, 15, 21] s s' → zNow a (fun c => lapsBy a c t) s' → Q none s') : zE x (d + 6) 103 [.inr (.inl 4), .inl t] s Q := by
  have i1 := hI.1.1
  exact N103 (B103_0 (m103_loop hI hL hs hQ (a 2 3).toNat 0 (by omega) s zFr.rf (fun c hc => by omega)))
theorem m104 {c : Int} (hI : zFolk a) (hs : zSim a s) (hn : zNow a f s) (hc : 0 ≤ c ∧ c < a 2 3) (h : Q (some (.inl (f c.toNat))) s) : zE x (d + 2) 104 [.inr (.inl 4), .inl c] s Q := by
  have i1 := hI.1.1
  refine N104 (B104_0 (m40 hs (B104_8 ⟨fun h => absurd h (by omega), fun _ => ⟨by omega, by omega, B104_21 (zQi h ?_)⟩⟩)))
  exact (hn c.toNat (by omega)).symm
theorem m112_loop (hI : zFolk a) (hs : zSim a s) (hn : zNow a f s) (h : Q (some (.inl (sumN f (a 2 3).toNat))) s) :
    ∀ (j i : Nat), (i : Int) + j = a 2 3 → zJ x (d + 1) 112 4 [some (.inr (.inl 4)), some (.inl (sumN f i)), some (.inl (i : Int))] [] s Q := by
  have i1 := hI.1.1
  intro j
  induction j with
  | zero =>
    intro i h1
    refine B112_4 (m38 hs (B112_12 ⟨fun _ => B112_30 (zQi h ?_), fun h => absurd h (by omega)⟩))
    rw [show (a 2 3).toNat = i by omega]
  | succ j ih =>
    intro i h1
    refine B112_4 (m38 hs (B112_12 ⟨fun h => absurd h (by omega), fun _ => ⟨by omega, by omega, ?_⟩⟩))
    have e2 : wr ((i : Int) + 1) = ((i + 1 : Nat) : Int) := by unfold wr; omega
    rw [e2, show ((i : Int)).toNat = i by omega, hn i (by omega)]
    exact ih (i + 1) (by omega)
theorem m112 (hI : zFolk a) (hs : zSim a s) (hn : zNow a f s) (h : Q (some (.inl (sumN f (a 2 3).toNat))) s) : zE x (d + 2) 112 [.inr (.inl 4)] s Q := by
  have i1 := hI.1.1
  exact N112 (B112_0 (m112_loop hI hs hn h (a 2 3).toNat 0 (by omega)))
theorem m113_loop (hI : zFolk a) (hs : zSim a s) (hn : zNow a f s) (h : Q (some (.inl (sumN (fun c => owedTo a c (f c)) (a 2 3).toNat))) s) :
    ∀ (j i : Nat), (i : Int) + j = a 2 3 → zJ x (d + 4) 113 4 [some (.inr (.inl 4)), some (.inl (sumN (fun c => owedTo a c (f c)) i)), some (.inl (i : Int))] [] s Q := by
  have i1 := hI.1.1
  intro j
  induction j with
  | zero =>
    intro i h1
    refine B113_4 (m38 hs (B113_12 ⟨fun _ => B113_38 (zQi h ?_), fun h => absurd h (by omega)⟩))
    rw [show (a 2 3).toNat = i by omega]
  | succ j ih =>
    intro i h1
    refine B113_4 (m38 hs (B113_12 ⟨fun h => absurd h (by omega), fun _ => ⟨by omega, by omega, m56 hI hs (B113_30 ?_)⟩⟩))
    have e2 : wr ((i : Int) + 1) = ((i + 1 : Nat) : Int) := by unfold wr; omega
    rw [e2, show ((i : Int)).toNat = i by omega, hn i (by omega)]
    exact ih (i + 1) (by omega)
theorem m113 (hI : zFolk a) (hs : zSim a s) (hn : zNow a f s) (h : Q (some (.inl (sumN (fun c => owedTo a c (f c)) (a 2 3).toNat))) s) : zE x (d + 5) 113 [.inr (.inl 4)] s Q := by
  have i1 := hI.1.1
  exact N113 (B113_0 (m113_loop hI hs hn h (a 2 3).toNat 0 (by omega)))
theorem topF_in (f : Nat → Int) (m : Int) : ∀ k, (topF f m k).1 = -2 ∧ (topF f m k).2 = m ∨ 0 ≤ (topF f m k).1 ∧ (topF f m k).1 < k ∧ (topF f m k).2 = f (topF f m k).1.toNat ∧ m < (topF f m k).2
  | 0 => Or.inl ⟨rfl, rfl⟩
  | k + 1 => by
    have h := topF_in f m k
    unfold topF
    split
    · rename_i hk
      refine Or.inr ⟨by show (0 : Int) ≤ k; omega, by show (k : Int) < (k + 1 : Nat); omega, by show f k = f ((k : Int)).toNat; rw [Int.toNat_natCast], ?_⟩
      show m < f k
      rcases h with h | h <;> omega
    · rcases h with h | h
      · exact Or.inl h
      · exact Or.inr ⟨h.1, by omega, h.2.2⟩
theorem m116_loop (hI : zFolk a) (hs : zSim a s) (hn : zNow a f s) (h : Q (some (.inl (topF f 0 (a 2 3).toNat).1)) s) :
    ∀ (j i : Nat), (i : Int) + j = a 2 3 → zJ x (d + 1) 116 7 [some (.inr (.inl 4)), some (.inl (topF f 0 i).1), some (.inl (topF f 0 i).2), some (.inl (i : Int))] [] s Q := by
  have i1 := hI.1.1
  intro j
  induction j with
  | zero =>
    intro i h1
    refine B116_7 (m38 hs (B116_15 ⟨fun _ => B116_43 (zQi h ?_), fun h => absurd h (by omega)⟩))
    rw [show (a 2 3).toNat = i by omega]
  | succ j ih =>
    intro i h1
    refine B116_7 (m38 hs (B116_15 ⟨fun h => absurd h (by omega), fun _ => ⟨by omega, by omega, ?_⟩⟩))
    have e2 : wr ((i : Int) + 1) = ((i + 1 : Nat) : Int) := by unfold wr; omega
    rw [show ((i : Int)).toNat = i by omega, hn i (by omega)]
    have h2 := ih (i + 1) (by omega)
    unfold topF at h2
    refine ⟨fun h5 => B116_37 ?_, fun h5 => ⟨by omega, by omega, B116_37 ?_⟩⟩
    · rw [if_neg (by omega)] at h2
      rw [e2]
      exact h2
    · rw [if_pos (by omega)] at h2
      rw [e2]
      exact h2
theorem m116 (hI : zFolk a) (hs : zSim a s) (hn : zNow a f s) (h : Q (some (.inl (topF f 0 (a 2 3).toNat).1)) s) : zE x (d + 2) 116 [.inr (.inl 4)] s Q := by
  have i1 := hI.1.1
  exact N116 (B116_0 (m116_loop hI hs hn h (a 2 3).toNat 0 (by omega)))
theorem m117_loop (hI : zFolk a) (hs : zSim a s) (hn : zNow a f s) (h : Q (some (.inl (topF (fun c => paidTo a c (f c)) (-1) (a 2 3).toNat).1)) s) :
    ∀ (j i : Nat) (o : Option zV), (i : Int) + j = a 2 3 → zJ x (d + 5) 117 7 [some (.inr (.inl 4)), some (.inl (topF (fun c => paidTo a c (f c)) (-1) i).1), some (.inl (topF (fun c => paidTo a c (f c)) (-1) i).2), some (.inl (i : Int)), o] [] s Q := by
  have i1 := hI.1.1
  intro j
  induction j with
  | zero =>
    intro i o h1
    refine B117_7 (m38 hs (B117_15 ⟨fun _ => B117_51 (zQi h ?_), fun h => absurd h (by omega)⟩))
    rw [show (a 2 3).toNat = i by omega]
  | succ j ih =>
    intro i o h1
    refine B117_7 (m38 hs (B117_15 ⟨fun h => absurd h (by omega), fun _ => ⟨by omega, by omega, m57 hI hs (B117_32 ?_)⟩⟩))
    have e2 : wr ((i : Int) + 1) = ((i + 1 : Nat) : Int) := by unfold wr; omega
    rw [show ((i : Int)).toNat = i by omega, hn i (by omega)]
    have h2 := fun o => ih (i + 1) o (by omega)
    unfold topF at h2
    refine ⟨fun h5 => B117_45 ?_, fun h5 => B117_45 ?_⟩
    · rw [if_neg (by omega)] at h2
      rw [e2]
      exact h2 _
    · rw [if_pos (by omega)] at h2
      rw [e2]
      exact h2 _
theorem m117 (hI : zFolk a) (hs : zSim a s) (hn : zNow a f s) (h : Q (some (.inl (topF (fun c => paidTo a c (f c)) (-1) (a 2 3).toNat).1)) s) : zE x (d + 6) 117 [.inr (.inl 4)] s Q := by
  have i1 := hI.1.1
  exact N117 (B117_0 (m117_loop hI hs hn h (a 2 3).toNat 0 none (by omega)))
theorem m114_loop {z : Int} (hI : zFolk a) (hs : zSim a s) (hn : zNow a f s) (h : Q (some (.inl (wr (z + sumN (fun c => paidTo a c (f c)) (a 2 3).toNat)))) s) :
    ∀ (j i : Nat), (i : Int) + j = a 2 3 → zJ x (d + 5) 114 27 [some (.inr (.inl 4)), some (.inl (wr (z + sumN (fun c => paidTo a c (f c)) i))), some (.inl (i : Int))] [] s Q := by
  have i1 := hI.1.1
  intro j
  induction j with
  | zero =>
    intro i h1
    refine B114_27 (m38 hs (B114_35 ⟨fun _ => B114_61 (zQi h ?_), fun h => absurd h (by omega)⟩))
    rw [show (a 2 3).toNat = i by omega]
  | succ j ih =>
    intro i h1
    refine B114_27 (m38 hs (B114_35 ⟨fun h => absurd h (by omega), fun _ => ⟨by omega, by omega, m57 hI hs (B114_53 ?_)⟩⟩))
    have e2 : wr ((i : Int) + 1) = ((i + 1 : Nat) : Int) := by unfold wr; omega
    have e1 : ∀ u v w : Int, wr (wr (u + v) + w) = wr (u + wr (v + w)) := fun u v w => by unfold wr; omega
    rw [show ((i : Int)).toNat = i by omega, hn i (by omega), e1, e2]
    exact ih (i + 1) (by omega)
theorem m114 (hI : zFolk a) (hs : zSim a s) (hn : zNow a f s) (h : Q (some (.inl (paidAll a f))) s) : zE x (d + 6) 114 [.inr (.inl 4)] s Q := by
  have i1 := hI.1.1
  refine N114 (B114_0 (m116 hI hs hn (B114_4 ⟨fun h0 => B114_13 (m46 hI hs (by unfold zOkN; omega) (B114_23 (B114_24 ?_))), fun h0 => B114_24 ?_⟩)))
  · have h2 := m114_loop (x := x) (d := d) (z := wr (-(a 42 16))) hI hs hn (zQi h (by
      unfold paidAll
      rw [if_neg h0]
      generalize sumN _ _ = S
      unfold wr
      omega)) (a 2 3).toNat 0 (by omega)
    rw [show wr (wr (-(a 42 16)) + sumN (fun c => paidTo a c (f c)) 0) = wr (-(a 42 16)) by simp only [sumN]; unfold wr; omega] at h2
    exact h2
  · have h2 := m114_loop (x := x) (d := d) (z := 0) hI hs hn (zQi h (by
      unfold paidAll
      rw [if_pos (Decidable.not_not.mp h0), Int.zero_add, wr_id (sumN_R _ _)])) (a 2 3).toNat 0 (by omega)
    exact h2
theorem m115_loop (hI : zFolk a) (hs : zSim a s) (hn : zNow a f s) (h : Q (some (.inl (bitF (fun p => a 52 p < owesF a p (f (a 47 p).toNat)) (a 2 4).toNat))) s) :
    ∀ (j i : Nat), (i : Int) + j = a 2 4 → zJ x (d + 4) 115 4 [some (.inr (.inl 4)), some (.inl (bitF (fun p => a 52 p < owesF a p (f (a 47 p).toNat)) i)), some (.inl (i : Int))] [] s Q := by
  have i1 := hI.1.2.1
  intro j
  induction j with
  | zero =>
    intro i h1
    refine B115_4 (m39 hs (B115_12 ⟨fun _ => B115_54 (zQi h ?_), fun h => absurd h (by omega)⟩))
    rw [show (a 2 4).toNat = i by omega]
  | succ j ih =>
    intro i h1
    have i7 := hI.2.2 i (by omega)
    have e2 : wr ((i : Int) + 1) = ((i + 1 : Nat) : Int) := by unfold wr; omega
    have h2 := ih (i + 1) (by omega)
    unfold bitF at h2
    refine B115_4 (m39 hs (B115_12 ⟨fun h => absurd h (by omega), fun _ => m42 hI hs (by omega) (B115_30 (m104 hI hs hn (by rw [show ((i : Int)).toNat = i by omega]; omega) (B115_33 (m55 hI hs (by omega) (B115_36 ⟨fun h5 => B115_45 (B115_46 ?_), fun h5 => B115_46 ?_⟩)))))⟩))
    · rw [show ((i : Int)).toNat = i by omega] at h5
      rw [if_neg (fun e => by rw [if_pos e] at h5; omega)] at h2
      rw [e2]
      exact h2
    · rw [show ((i : Int)).toNat = i by omega] at h5
      rw [if_pos (Decidable.byContradiction fun e => by rw [if_neg e] at h5; omega)] at h2
      rw [e2]
      exact h2
theorem m115 (hI : zFolk a) (hs : zSim a s) (hn : zNow a f s) (h : Q (some (.inl (bitF (fun p => a 52 p < owesF a p (f (a 47 p).toNat)) (a 2 4).toNat))) s) : zE x (d + 5) 115 [.inr (.inl 4)] s Q := by
  have i1 := hI.1.2.1
  exact N115 (B115_0 (m115_loop hI hs hn h (a 2 4).toNat 0 (by omega)))
end ZThought
