/-! the class: laps' minutes, pence (Folk) -/
section ZPence
variable {x : List Int} {d : Nat} {a s : zSt} {Q : zQ}
theorem m72 (hs : zSim a s) (h : Q (some (.inl (if 0 < a 1 4 then 1 else 0))) s) : zE x (d + 1) 72 [.inr (.inl 1)] s Q := by
  refine N72 ?_
  have e : s 1 4 = a 1 4 := congrFun (hs 1 rfl) 4
  repeat' (first | with_reducible refine B72_0 ?_ | with_reducible refine B72_11 ?_ | with_reducible refine B72_12 ?_ | with_reducible refine ⟨fun _ => ?_, fun _ => ?_⟩ | (refine ⟨by omega, ?_⟩) | refine ⟨by omega, by omega, ?_⟩ | fail)
  all_goals exact zQi h (by omega)
theorem m50 {c k m : Int} (hI : zFolk a) (hL : zLaw a) (hs : zSim a s) (hc : 0 ≤ c ∧ c < a 2 3) (hQ : ∀ s', zFr [14, 15] s s' → Q (some (.inl (lapF a c.toNat k m))) s') : zE x (d + 4) 50 [.inr (.inl 2), .inl c, .inl k, .inl m] s Q := by
  refine N50 (B50_0 (m46 hI hs (by unfold zOkN; omega) (B50_6 (m46 hI hs (by unfold zOkN; omega) (B50_14 (m46 hI hs (by unfold zOkN; omega) (B50_23 (m72 hs (B50_46 ⟨fun h0 => ?_, fun h0 => ?_⟩))))))))) 
  · refine B50_74 (zQi (hQ s zFr.rf) ?_)
    unfold lapF
    rw [if_pos (by rcases zLaw_pos hL with h | h <;> omega)]
    rfl
  · have hp : 0 < a 1 4 := by omega
    refine N73 (B73_0 ⟨by omega, by omega, by omega, by omega, by omega, by omega, by omega, by omega, ?_⟩)
    have hf : zFr [14, 15] s (zU (zU (zU (zU s 15 0 (numF a 0 c)) 15 1 (numF a 1 c)) 15 4 (numF a 9 0)) 15 5 c) := (((zFr.rf.U rfl _ _).U rfl _ _).U rfl _ _).U rfl _ _
    refine B50_63 (m74 hL (hs.tr (hf.le _ rfl)) hp (fun s' hs' => B50_72 (B50_74 (zQi (hQ s' (hf.tr hs')) ?_))))
    unfold lapF
    rw [if_neg (by rcases zLaw_pos hL with h | h <;> omega), show (c.toNat : Int) = c by omega]
    rfl
theorem m51_loop {c n : Int} (hI : zFolk a) (hL : zLaw a) (hs : zSim a s) (hc : 0 ≤ c ∧ c < a 2 3) (hn : n ≤ 1000) (hQ : ∀ s', zFr [14, 15] s s' → Q (some (.inl (endF a c.toNat n.toNat))) s') :
    ∀ (j i : Nat), (i : Int) ≤ max n 0 → n ≤ i + j → ∀ t, zFr [14, 15] s t → zJ x (d + 4) 51 5 [some (.inr (.inl 2)), some (.inl c), some (.inl n), some (.inl (endF a c.toNat i)), some (.inl (i : Int))] [] t Q := by
  intro j
  induction j with
  | zero =>
    intro i h1 h2 t ht
    refine B51_5 ⟨fun _ => B51_28 (zQi (hQ t ht) ?_), fun h => absurd h (by omega)⟩
    rw [show n.toNat = i by omega]
  | succ j ih =>
    intro i h1 h2 t ht
    refine B51_5 ⟨fun _ => B51_28 (zQi (hQ t ht) ?_), fun h => ?_⟩
    · rw [show n.toNat = i by omega]
    · refine m50 hI hL (hs.tr (ht.le _ rfl)) hc (fun s' hs' => B51_20 ?_)
      have h3 := endF_pos a c.toNat i
      have h4 := endF_pos a c.toNat (i + 1)
      have e1 : wr (endF a c.toNat i + lapF a c.toNat i (endF a c.toNat i)) = endF a c.toNat (i + 1) := wr_id (by unfold zR; unfold endF at h4; omega)
      have e2 : wr ((i : Int) + 1) = ((i + 1 : Nat) : Int) := by unfold wr; omega
      rw [e1, e2]
      exact ih (i + 1) (by omega) (by omega) s' (ht.tr hs')
theorem m51 {c n : Int} (hI : zFolk a) (hL : zLaw a) (hs : zSim a s) (hc : 0 ≤ c ∧ c < a 2 3) (hn : n ≤ 1000) (hQ : ∀ s', zFr [14, 15] s s' → Q (some (.inl (endF a c.toNat n.toNat))) s') : zE x (d + 5) 51 [.inr (.inl 2), .inl c, .inl n] s Q :=
  N51 (B51_0 (m51_loop hI hL hs hc hn hQ n.toNat 0 (by omega) (by omega) s zFr.rf))
theorem m52 {p n : Int} (hI : zFolk a) (hs : zSim a s) (hp : 0 ≤ p ∧ p < a 2 4) (h : Q (some (.inl (plainF a p.toNat n))) s) : zE x (d + 2) 52 [.inr (.inl 2), .inl p, .inl n] s Q := by
  have e16 : s 16 = a 16 := hs 16 rfl
  have i1 := hI.1.1
  have i2 := hI.1.2.1
  have n4 := (hI.2.1 4 p (by unfold zOkN; omega)).1
  have n5 := (hI.2.1 5 p (by unfold zOkN; omega)).1
  have n6 := (hI.2.1 6 p (by unfold zOkN; omega)).1
  have q4 : plF (a 2 3) (a 2 4) p 4 = 24 + p * 5 := by unfold plF; omega
  have q5 : plF (a 2 3) (a 2 4) p 5 = 24 + p * 5 + 1 := by unfold plF; omega
  have q6 : plF (a 2 3) (a 2 4) p 6 = 24 + p * 5 + 2 := by unfold plF; omega
  have w6 : wr (wr (24 + p * 5 + 6) - 4) = 24 + p * 5 + 2 := by unfold wr; omega
  have w5 : wr (wr (24 + p * 5 + 5) - 4) = 24 + p * 5 + 1 := by unfold wr; omega
  rw [q4] at n4
  rw [q5] at n5
  rw [q6] at n6
  refine N52 (B52_0 (m43 hI.1 hs (B52_6 ⟨fun _ => ?_, fun _ => ?_⟩)))
  · rw [q4]
    refine B52_13 ?_
    rw [w6, w5, e16, n6, n5]
    refine ⟨by omega, by omega, fun h1 => B52_41 (B52_42 ?_), fun h1 => ⟨by omega, by omega, B52_42 ?_⟩⟩
    · rw [e16, n4]
      refine ⟨by omega, by omega, zQi h ?_⟩
      unfold plainF
      rw [if_neg (show ¬ a 50 p.toNat ≤ n from fun e => absurd h1 (Int.not_lt.mpr e))]
      rfl
    · rw [e16, n4]
      refine ⟨by omega, by omega, zQi h ?_⟩
      unfold plainF
      rw [if_pos (show a 50 p.toNat ≤ n from Int.not_lt.mp h1)]
      rfl
  · exfalso
    omega
theorem m53 {p n : Int} (hI : zFolk a) (hs : zSim a s) (hp : 0 ≤ p ∧ p < a 2 4) (h : Q (some (.inl (owesF a p.toNat n))) s) : zE x (d + 3) 53 [.inr (.inl 2), .inl p, .inl n] s Q := by
  refine N53 (B53_0 (m52 hI hs hp (B53_6 (m46 hI hs (by unfold zOkN; omega) (B53_14 ⟨fun h0 => B53_30 (B53_31 (zQi h ?_)), fun h0 => B53_31 (zQi h ?_)⟩)))))
  · have h1 : a 51 p.toNat ≤ 0 := h0
    unfold owesF
    rw [if_neg (by omega)]
  · have h1 : ¬ a 51 p.toNat ≤ 0 := h0
    show _ = min (plainF a p.toNat n) (a 51 p.toNat)
    unfold owesF
    split <;> omega
theorem m54 {p n : Int} (hI : zFolk a) (hs : zSim a s) (hp : 0 ≤ p ∧ p < a 2 4) (h : Q (some (.inl (paysF a p.toNat n))) s) : zE x (d + 4) 54 [.inr (.inl 2), .inl p, .inl n] s Q := by
  refine N54 (B54_0 (m53 hI hs hp (B54_6 (m46 hI hs (by unfold zOkN; omega) (B54_13 (zQi h ?_))))))
  show _ = min (owesF a p.toNat n) (a 52 p.toNat)
  unfold paysF
  split <;> omega
theorem m55 {p n : Int} (hI : zFolk a) (hs : zSim a s) (hp : 0 ≤ p ∧ p < a 2 4) (h : Q (some (.inl (if a 52 p.toNat < owesF a p.toNat n then 1 else 0))) s) : zE x (d + 4) 55 [.inr (.inl 2), .inl p, .inl n] s Q := by
  refine N55 (B55_0 (m53 hI hs hp (B55_6 (m46 hI hs (by unfold zOkN; omega) (B55_13 ⟨fun h0 => B55_20 (B55_21 ⟨by omega, zQi h ?_⟩), fun h0 => B55_21 ⟨by omega, zQi h ?_⟩⟩)))))
  · have h1 : owesF a p.toNat n ≤ a 52 p.toNat := h0
    rw [if_neg (by omega)]
  · have h1 : ¬ owesF a p.toNat n ≤ a 52 p.toNat := h0
    rw [if_pos (by omega)]
theorem m56_loop {c n : Int} (hI : zFolk a) (hs : zSim a s) (h : Q (some (.inl (owedTo a c n))) s) :
    ∀ (j i : Nat), (i : Int) + j = a 2 4 → zJ x (d + 3) 56 5 [some (.inr (.inl 2)), some (.inl c), some (.inl n), some (.inl (owedF a c n i)), some (.inl (i : Int))] [] s Q := by
  have e4 : s 2 4 = a 2 4 := congrFun (hs 2 rfl) 4
  have e17 : s 17 = a 17 := hs 17 rfl
  have i2 := hI.1.2.1
  have i4 := hI.1.2.2.2
  intro j
  induction j with
  | zero =>
    intro i hi
    refine B56_5 ⟨fun _ => B56_45 (zQi h ?_), fun h => absurd h (by omega)⟩
    unfold owedTo
    rw [show (a 42 6).toNat = i by omega]
  | succ j ih =>
    intro i hi
    have e2 : wr ((i : Int) + 1) = ((i + 1 : Nat) : Int) := by unfold wr; omega
    have i7 := (hI.2.2 i (by omega)).1
    refine B56_5 ⟨fun h => absurd h (by omega), fun _ => ⟨by omega, by omega, ?_⟩⟩
    rw [e17, show ((i : Int)).toNat = i by omega, i7]
    refine ⟨fun h0 => B56_36 (B56_37 ?_), fun h0 => m53 hI hs (by omega) (B56_33 (B56_37 ?_))⟩
    · have e1 : wr (owedF a c n i + 0) = owedF a c n (i + 1) := by
        rw [Int.add_zero, wr_id (owedF_R a c n i)]
        exact (if_neg h0).symm
      rw [e1, e2]
      exact ih (i + 1) (by omega)
    · have e1 : wr (owedF a c n i + owesF a ((i : Int)).toNat n) = owedF a c n (i + 1) := (if_pos (Decidable.not_not.mp h0)).symm
      rw [e1, e2]
      exact ih (i + 1) (by omega)
theorem m56 {c n : Int} (hI : zFolk a) (hs : zSim a s) (h : Q (some (.inl (owedTo a c n))) s) : zE x (d + 4) 56 [.inr (.inl 2), .inl c, .inl n] s Q := by
  have i2 := hI.1.2.1
  exact N56 (B56_0 (m56_loop hI hs h (a 2 4).toNat 0 (by omega)))
theorem m57_loop {c n : Int} (hI : zFolk a) (hs : zSim a s) (h : Q (some (.inl (paidTo a c n))) s) :
    ∀ (j i : Nat), (i : Int) + j = a 2 4 → zJ x (d + 4) 57 5 [some (.inr (.inl 2)), some (.inl c), some (.inl n), some (.inl (paidF a c n i)), some (.inl (i : Int))] [] s Q := by
  have e4 : s 2 4 = a 2 4 := congrFun (hs 2 rfl) 4
  have e17 : s 17 = a 17 := hs 17 rfl
  have i2 := hI.1.2.1
  have i4 := hI.1.2.2.2
  intro j
  induction j with
  | zero =>
    intro i hi
    refine B57_5 ⟨fun _ => B57_45 (zQi h ?_), fun h => absurd h (by omega)⟩
    unfold paidTo
    rw [show (a 42 6).toNat = i by omega]
  | succ j ih =>
    intro i hi
    have e2 : wr ((i : Int) + 1) = ((i + 1 : Nat) : Int) := by unfold wr; omega
    have i7 := (hI.2.2 i (by omega)).1
    refine B57_5 ⟨fun h => absurd h (by omega), fun _ => ⟨by omega, by omega, ?_⟩⟩
    rw [e17, show ((i : Int)).toNat = i by omega, i7]
    refine ⟨fun h0 => B57_36 (B57_37 ?_), fun h0 => m54 hI hs (by omega) (B57_33 (B57_37 ?_))⟩
    · have e1 : wr (paidF a c n i + 0) = paidF a c n (i + 1) := by
        rw [Int.add_zero, wr_id (paidF_R a c n i)]
        exact (if_neg h0).symm
      rw [e1, e2]
      exact ih (i + 1) (by omega)
    · have e1 : wr (paidF a c n i + paysF a ((i : Int)).toNat n) = paidF a c n (i + 1) := (if_pos (Decidable.not_not.mp h0)).symm
      rw [e1, e2]
      exact ih (i + 1) (by omega)
theorem m57 {c n : Int} (hI : zFolk a) (hs : zSim a s) (h : Q (some (.inl (paidTo a c n))) s) : zE x (d + 5) 57 [.inr (.inl 2), .inl c, .inl n] s Q := by
  have i2 := hI.1.2.1
  exact N57 (B57_0 (m57_loop hI hs h (a 2 4).toNat 0 (by omega)))
end ZPence
