/-! the class's calls, in thought -/
abbrev isCh (a : zSt) (c : Int) : Prop := 0 ≤ c ∧ c < a 2 3
abbrev isSp (a : zSt) (p : Int) : Prop := 0 ≤ p ∧ p < a 2 4
def lapN (a : zSt) (t : Int) : Nat → Int := fun c => lapsBy a c t
def fstF (p : Nat → Prop) [DecidablePred p] : Nat → Nat → Int
  | 0, _ => -2
  | n + 1, k => if p k then (k : Int) else fstF p n (k + 1)
def rLap (a : zSt) (c km : Int) : Int := if isCh a c ∧ (0 ≤ km ∧ km / 1000 ≤ 99 ∧ km % 1000 ≤ 999) then lapF a c.toNat (km / 1000) (km % 1000) else -1
def sprF (a : zSt) (f : Nat → Int) : Int := bitF (fun p => a 52 p < owesF a p (f (a 47 p).toNat)) (a 2 4).toNat
def rLaps (a : zSt) (c t w : Int) : Int := if (c = -1 ∨ isCh a c) ∧ (0 ≤ t ∧ t ≤ 999) ∧ (0 ≤ w ∧ w ≤ 2) then (if c = -1 then (if w = 0 then sumN (lapN a t) (a 2 3).toNat else if w = 1 then sumN (fun c => owedTo a c (lapN a t c)) (a 2 3).toNat else paidAll a (lapN a t)) else (if w = 0 then (lapsBy a c.toNat t : Int) else if w = 1 then owedTo a c (lapsBy a c.toNat t) else paidTo a c (lapsBy a c.toNat t))) else -1
def rMinutes (a : zSt) (c n : Int) : Int := if isCh a c ∧ (0 ≤ n ∧ n ≤ 99) then (if a 45 c.toNat < n then -2 else endF a c.toNat n.toNat) else -1
def rMost (a : zSt) (t w : Int) : Int := if (0 ≤ t ∧ t ≤ 999) ∧ (0 ≤ w ∧ w ≤ 2) then (if w = 0 then sprF a (lapN a t) else if w = 1 then (topF (lapN a t) 0 (a 2 3).toNat).1 else (topF (fun c => paidTo a c (lapN a t c)) (-1) (a 2 3).toNat).1) else -1
def rOwes (a : zSt) (p n w : Int) : Int := if isSp a p ∧ (0 ≤ n ∧ n ≤ 99) ∧ (0 ≤ w ∧ w ≤ 1) then (if w = 0 then owesF a p.toNat n else paysF a p.toNat n) else -1
def rMore (a : zSt) (c n : Int) : Int := if isCh a c ∧ (0 ≤ n ∧ n ≤ 98) then wr (paidTo a c (n + 1) - paidTo a c n) else -1
def doneF (a : zSt) (c : Int) : Nat → Int
  | 0 => 0
  | k + 1 => if paidTo a c k = paidTo a c (k + 1 : Nat) then doneF a c k else (k + 1 : Nat)
def rDone (a : zSt) (c : Int) : Int := if isCh a c then doneF a c 99 else -1
def rLapOrSum (a : zSt) (p v : Int) : Int := if isSp a p ∧ (0 ≤ v ∧ v ≤ 9999) then fstF (fun n => v ≤ owesF a p.toNat n) 100 0 else -1
def rTop (a : zSt) (p : Int) : Int := if isSp a p then (if plainF a p.toNat 99 ≤ a 52 p.toNat then 0 else max 1 (a 52 p.toNat)) else -1
def rHowLong (a : zSt) (v : Int) : Int := if 0 ≤ v ∧ v ≤ 99999 then fstF (fun t => v ≤ paidAll a (lapN a t)) 1000 0 else -1
theorem sumN_congr {f g : Nat → Int} : ∀ k, (∀ c, c < k → f c = g c) → sumN f k = sumN g k
  | 0, _ => rfl
  | k + 1, h => by
    unfold sumN
    rw [sumN_congr k (fun c hc => h c (by omega)), h k (by omega)]
theorem topF_congr {f g : Nat → Int} {m : Int} : ∀ k, (∀ c, c < k → f c = g c) → topF f m k = topF g m k
  | 0, _ => rfl
  | k + 1, h => by
    unfold topF
    rw [topF_congr k (fun c hc => h c (by omega)), h k (by omega)]
theorem paidAll_congr {a : zSt} {f g : Nat → Int} (h : ∀ c : Nat, (c : Int) < a 2 3 → f c = g c) : paidAll a f = paidAll a g := by
  unfold paidAll
  rw [topF_congr (f := f) (g := g) _ (fun c hc => h c (by omega)), sumN_congr (f := fun c => paidTo a c (f c)) (g := fun c => paidTo a c (g c)) _ (fun c hc => by show paidTo a c (f c) = paidTo a c (g c); rw [h c (by omega)])]
section ZThink
variable {x : List Int} {d : Nat} {a s : zSt} {Q : zQ}
theorem c_lap {c km : Int} (hI : zFolk a) (hL : zLaw a) (hs : zSim a s) (h : ∀ s', zSim a s' → Q (some (.inl (rLap a c km))) s') : zE x (d + 5) 128 [.inr (.inl 0), .inl c, .inl km] s Q := by
  refine zE_ok (fun _ ht => ?_)
  have hkm : zR km := ht (.inl km) (List.mem_of_getElem? (i := 2) rfl)
  unfold zR at hkm
  refine N128 ?_
  repeat' (first | with_reducible refine B128_0 ?_ | with_reducible refine B128_8 ?_ | with_reducible refine B128_23 ?_ | with_reducible refine B128_26 ?_ | with_reducible refine B128_28 ?_ | with_reducible refine B128_46 ?_ | with_reducible refine ⟨fun _ => ?_, fun _ => ?_⟩ | (refine m40 hs ?_) | (refine m119 (by decide) ?_ (by decide)) | refine ⟨by omega, by omega, ?_⟩ | fail)
  · exact zQi (h s hs) (by unfold rLap; omega)
  · have h0 : 0 ≤ km ∧ km / 1000 ≤ 99 ∧ km % 1000 ≤ 999 := by omega
    rw [Int.tdiv_eq_ediv_of_nonneg h0.1, Int.tmod_eq_emod_of_nonneg h0.1, wr_id (by unfold zR; omega), wr_id (by unfold zR; omega)]
    refine m50 hI hL hs (by omega) (fun s' hs' => B128_46 (zQi (h s' (hs.tr (hs'.le _ rfl))) ?_))
    unfold rLap
    rw [if_pos ⟨by omega, h0⟩]
  · exact zQi (h s hs) (by unfold rLap; omega)
theorem c_laps {c t w : Int} (hI : zFolk a) (hL : zLaw a) (hs : zSim a s) (h : ∀ s', zSim a s' → Q (some (.inl (rLaps a c t w))) s') : zE x (d + 7) 129 [.inr (.inl 0), .inl c, .inl t, .inl w] s Q := by
  refine N129 ?_
  have bad : ¬ ((c = -1 ∨ isCh a c) ∧ (0 ≤ t ∧ t ≤ 999) ∧ (0 ≤ w ∧ w ≤ 2)) → Q (some (.inl (-1))) s := fun e => zQi (h s hs) (by unfold rLaps; rw [if_neg e])
  have good : (c = -1 ∨ isCh a c) ∧ (0 ≤ t ∧ t ≤ 999) ∧ (0 ≤ w ∧ w ≤ 2) → zJ x (d + 6) 129 38 [some (.inr (.inl 0)), some (.inl c), some (.inl t), some (.inl w), none] [] s Q := by
    intro hg
    have h : ∀ s', zSim a s' → Q (some (.inl (if c = -1 then (if w = 0 then sumN (lapN a t) (a 2 3).toNat else if w = 1 then sumN (fun c => owedTo a c (lapN a t c)) (a 2 3).toNat else paidAll a (lapN a t)) else (if w = 0 then (lapsBy a c.toNat t : Int) else if w = 1 then owedTo a c (lapsBy a c.toNat t) else paidTo a c (lapsBy a c.toNat t))))) s' := fun s' hs' => zQi (h s' hs') (if_pos hg)
    refine B129_38 ⟨fun h1 => B129_88 (m102 hI hL hs (by omega) (fun s' hs' => B129_97 ?_)), fun h1 => m103 hI hL hs (fun s' hs' hn => B129_51 ?_)⟩
    · have hs2 := hs.tr (hs'.le zScL rfl)
      rw [if_neg h1] at h
      refine ⟨fun h2 => B129_108 ⟨fun h3 => B129_126 (m57 hI hs2 (B129_136 (zQi (h s' hs2) ?_))), fun h3 => m56 hI hs2 (B129_123 (B129_136 (zQi (h s' hs2) ?_)))⟩, fun h2 => B129_136 (zQi (h s' hs2) ?_)⟩
      · rw [if_neg h2, if_neg h3]
      · rw [if_neg h2, if_pos (Decidable.not_not.mp h3)]
      · rw [if_pos (Decidable.not_not.mp h2)]
    · have hs2 := hs.tr (hs'.le zScL rfl)
      rw [if_pos (Decidable.not_not.mp h1)] at h
      refine ⟨fun h2 => B129_65 ⟨fun h3 => B129_80 (m114 hI hs2 hn (B129_87 (zQi (h s' hs2) ?_))), fun h3 => m113 hI hs2 hn (B129_77 (B129_87 (zQi (h s' hs2) ?_)))⟩, fun h2 => m112 hI hs2 hn (B129_62 (B129_87 (zQi (h s' hs2) ?_)))⟩
      · rw [if_neg h2, if_neg h3]; rfl
      · rw [if_neg h2, if_pos (Decidable.not_not.mp h3)]; rfl
      · rw [if_pos (Decidable.not_not.mp h2)]; rfl
  refine B129_0 ⟨fun h0 => B129_16 (m118 (B129_24 ⟨fun h1 => B129_36 (bad (by omega)), fun h1 => m118 (B129_33 ⟨fun h2 => good (by omega), fun h2 => B129_36 (bad (by omega))⟩)⟩)), fun h0 => m40 hs (B129_13 ⟨fun h3 => B129_36 (bad (by omega)), fun h3 => B129_16 (m118 (B129_24 ⟨fun h1 => B129_36 (bad (by omega)), fun h1 => m118 (B129_33 ⟨fun h2 => good (by omega), fun h2 => B129_36 (bad (by omega))⟩)⟩))⟩)⟩
theorem c_minutes {c n : Int} (hI : zFolk a) (hL : zLaw a) (hs : zSim a s) (h : ∀ s', zSim a s' → Q (some (.inl (rMinutes a c n))) s') : zE x (d + 6) 130 [.inr (.inl 0), .inl c, .inl n] s Q := by
  refine N130 ?_
  have bad : ¬ (isCh a c ∧ (0 ≤ n ∧ n ≤ 99)) → Q (some (.inl (-1))) s := fun e => zQi (h s hs) (by unfold rMinutes; rw [if_neg e])
  refine B130_0 (m40 hs (B130_8 ⟨fun h0 => B130_21 (bad (by omega)), fun h0 => m118 (B130_18 ⟨fun h1 => B130_23 (m46 hI hs (by unfold zOkN; omega) (B130_33 ?_)), fun h1 => B130_21 (bad (by omega))⟩)⟩))
  have hg : isCh a c ∧ (0 ≤ n ∧ n ≤ 99) := by omega
  have h : ∀ s', zSim a s' → Q (some (.inl (if a 45 c.toNat < n then -2 else endF a c.toNat n.toNat))) s' := fun s' hs' => zQi (h s' hs') (if_pos hg)
  refine ⟨fun h2 => B130_39 (m51 hI hL hs (by omega) (by omega) (fun s' hs' => B130_48 ⟨fun h3 => B130_61 (B130_62 (zQi (h s' (hs.tr (hs'.le _ rfl))) ?_)), fun h3 => ?_⟩)), fun h2 => zQi (h s hs) ?_⟩
  · have h4 : n ≤ a 45 c.toNat := h2
    rw [if_neg (by omega)]
  · have := endF_pos a c.toNat n.toNat
    exact absurd h3 (by omega)
  · have h4 : ¬ n ≤ a 45 c.toNat := h2
    rw [if_pos (by omega)]
theorem c_most {t w : Int} (hI : zFolk a) (hL : zLaw a) (hs : zSim a s) (h : ∀ s', zSim a s' → Q (some (.inl (rMost a t w))) s') : zE x (d + 7) 131 [.inr (.inl 0), .inl t, .inl w] s Q := by
  refine N131 ?_
  have bad : ¬ ((0 ≤ t ∧ t ≤ 999) ∧ (0 ≤ w ∧ w ≤ 2)) → Q (some (.inl (-1))) s := fun e => zQi (h s hs) (by unfold rMost; rw [if_neg e])
  refine B131_0 (m118 (B131_8 ⟨fun h0 => B131_20 (bad (by omega)), fun h0 => m118 (B131_17 ⟨fun h1 => B131_22 (m103 hI hL hs (fun s' hs' hn => B131_30 ?_)), fun h1 => B131_20 (bad (by omega))⟩)⟩))
  have hg : (0 ≤ t ∧ t ≤ 999) ∧ (0 ≤ w ∧ w ≤ 2) := by omega
  have hs2 := hs.tr (hs'.le zScL rfl)
  have h := zQi (h s' hs2) (if_pos hg)
  refine ⟨fun h2 => B131_44 ⟨fun h3 => B131_59 (m117 hI hs2 hn (B131_66 (zQi h ?_))), fun h3 => m116 hI hs2 hn (B131_56 (B131_66 (zQi h ?_)))⟩, fun h2 => m115 hI hs2 hn (B131_41 (B131_66 (zQi h ?_)))⟩
  · rw [if_neg h2, if_neg h3]; rfl
  · rw [if_neg h2, if_pos (Decidable.not_not.mp h3)]; rfl
  · rw [if_pos (Decidable.not_not.mp h2)]; rfl
theorem c_owes {p n w : Int} (hI : zFolk a) (hs : zSim a s) (h : ∀ s', zSim a s' → Q (some (.inl (rOwes a p n w))) s') : zE x (d + 5) 132 [.inr (.inl 0), .inl p, .inl n, .inl w] s Q := by
  refine N132 ?_
  have bad : ¬ (isSp a p ∧ (0 ≤ n ∧ n ≤ 99) ∧ (0 ≤ w ∧ w ≤ 1)) → Q (some (.inl (-1))) s := fun e => zQi (h s hs) (by unfold rOwes; rw [if_neg e])
  refine B132_0 (m41 hs (B132_8 ⟨fun h0 => B132_30 (bad (by omega)), fun h0 => m118 (B132_18 ⟨fun h1 => B132_30 (bad (by omega)), fun h1 => m118 (B132_27 ⟨fun h2 => B132_32 ?_, fun h2 => B132_30 (bad (by omega))⟩)⟩)⟩))
  have hg : isSp a p ∧ (0 ≤ n ∧ n ≤ 99) ∧ (0 ≤ w ∧ w ≤ 1) := by omega
  have h := zQi (h s hs) (if_pos hg)
  refine ⟨fun h3 => B132_48 (m54 hI hs (by omega) (B132_57 (zQi h ?_))), fun h3 => m53 hI hs (by omega) (B132_45 (B132_57 (zQi h ?_)))⟩
  · rw [if_neg h3]
  · rw [if_pos (Decidable.not_not.mp h3)]
theorem c_more {c n : Int} (hI : zFolk a) (hs : zSim a s) (h : ∀ s', zSim a s' → Q (some (.inl (rMore a c n))) s') : zE x (d + 6) 133 [.inr (.inl 0), .inl c, .inl n] s Q := by
  refine N133 ?_
  have bad : ¬ (isCh a c ∧ (0 ≤ n ∧ n ≤ 98)) → Q (some (.inl (-1))) s := fun e => zQi (h s hs) (by unfold rMore; rw [if_neg e])
  refine B133_0 (m40 hs (B133_8 ⟨fun h0 => B133_21 (bad (by omega)), fun h0 => m118 (B133_18 ⟨fun h1 => B133_23 (m57 hI hs (B133_34 (m57 hI hs (B133_43 (zQi (h s hs) ?_))))), fun h1 => B133_21 (bad (by omega))⟩)⟩))
  unfold rMore
  rw [if_pos (by omega), wr_id (x := n + 1) (by unfold zR; omega)]
theorem c_done_loop {c : Int} {R : Int} (hI : zFolk a) (hs : zSim a s) (h : Q (some (.inl R)) s) :
    ∀ (n : Nat), n ≤ 99 → doneF a c n = R → zJ x (d + 5) 134 16 [some (.inr (.inl 0)), some (.inl c), some (.inl (n : Int))] [] s Q := by
  intro n
  induction n with
  | zero => intro _ h1; exact B134_16 ⟨fun _ => B134_49 (zQi h h1.symm), fun h => absurd h (by omega)⟩
  | succ n ih =>
    intro hn h1
    have e1 : True → wr (((n + 1 : Nat) : Int) - 1) = (n : Int) := fun _ => by rw [wr_id (by unfold zR; omega)]; omega
    have e2 : True → wr (((n + 1 : Nat) : Int) + (-1)) = (n : Int) := fun _ => by rw [wr_id (by unfold zR; omega)]; omega
    unfold doneF at h1
    refine B134_16 ⟨fun h => absurd h (by omega), fun _ => ?_⟩
    rw [e1 trivial]
    refine m57 hI hs (B134_31 (m57 hI hs (B134_40 ⟨fun h2 => B134_49 (zQi h ?_), fun h2 => ?_⟩)))
    · rw [if_neg h2] at h1; exact h1.symm
    · rw [e2 trivial]
      rw [if_pos (Decidable.not_not.mp h2)] at h1
      exact ih (by omega) h1
theorem c_done {c : Int} (hI : zFolk a) (hs : zSim a s) (h : ∀ s', zSim a s' → Q (some (.inl (rDone a c))) s') : zE x (d + 6) 134 [.inr (.inl 0), .inl c] s Q := by
  refine N134 (B134_0 (m40 hs (B134_8 ⟨fun h0 => B134_13 ?_, fun h0 => zQi (h s hs) ?_⟩)))
  · exact c_done_loop hI hs (zQi (h s hs) (if_pos (by omega))) 99 (by omega) rfl
  · unfold rDone; rw [if_neg (by omega)]
theorem c_lapOrSum_loop {p v : Int} {R : Int} (hI : zFolk a) (hs : zSim a s) (hp : isSp a p) (h : Q (some (.inl R)) s) :
    ∀ (j i : Nat), i + j = 100 → fstF (fun n => v ≤ owesF a p.toNat n) j i = R → zJ x (d + 4) 135 26 [some (.inr (.inl 0)), some (.inl p), some (.inl v), some (.inl (i : Int))] [] s Q := by
  intro j
  induction j with
  | zero => intro i h1 h2; exact B135_26 ⟨fun _ => B135_53 (zQi h h2.symm), fun h => absurd h (by omega)⟩
  | succ j ih =>
    intro i h1 h2
    have e2 : True → wr ((i : Int) + 1) = ((i + 1 : Nat) : Int) := fun _ => by unfold wr; omega
    unfold fstF at h2
    refine B135_26 ⟨fun h => absurd h (by omega), fun _ => m53 hI hs hp (B135_41 ⟨fun h3 => B135_47 ?_, fun h3 => zQi h ?_⟩)⟩
    · rw [e2 trivial]
      rw [if_neg (by omega)] at h2
      exact ih (i + 1) (by omega) h2
    · rw [if_pos (by omega)] at h2
      exact h2.symm
theorem c_lapOrSum {p v : Int} (hI : zFolk a) (hs : zSim a s) (h : ∀ s', zSim a s' → Q (some (.inl (rLapOrSum a p v))) s') : zE x (d + 5) 135 [.inr (.inl 0), .inl p, .inl v] s Q := by
  have bad : ¬ (isSp a p ∧ (0 ≤ v ∧ v ≤ 9999)) → Q (some (.inl (-1))) s := fun e => zQi (h s hs) (by unfold rLapOrSum; rw [if_neg e])
  refine N135 (B135_0 (m41 hs (B135_8 ⟨fun h0 => B135_22 (bad (by omega)), fun h0 => m118 (B135_19 ⟨fun h1 => B135_24 ?_, fun h1 => B135_22 (bad (by omega))⟩)⟩)))
  exact c_lapOrSum_loop hI hs (by omega) (zQi (h s hs) (if_pos (by omega))) 100 0 (by omega) rfl
theorem c_top {p : Int} (hI : zFolk a) (hs : zSim a s) (h : ∀ s', zSim a s' → Q (some (.inl (rTop a p))) s') : zE x (d + 3) 136 [.inr (.inl 0), .inl p] s Q := by
  refine N136 (B136_0 (m41 hs (B136_8 ⟨fun h0 => B136_13 (m46 hI hs (by unfold zOkN; omega) (B136_23 (m52 hI hs (by omega) (B136_34 ⟨fun h1 => B136_42 (B136_47 (zQi (h s hs) ?_)), fun h1 => B136_47 (zQi (h s hs) ?_)⟩)))), fun h0 => zQi (h s hs) ?_⟩)))
  · have h2 : a 52 p.toNat < plainF a p.toNat 99 := h1
    unfold rTop
    rw [if_pos (by omega), if_neg (by omega)]
    rfl
  · have h2 : ¬ a 52 p.toNat < plainF a p.toNat 99 := h1
    unfold rTop
    rw [if_pos (by omega), if_pos (by omega)]
  · unfold rTop; rw [if_neg (by omega)]
theorem c_howLong_loop {v : Int} {R : Int} (hI : zFolk a) (hs : zSim a s) (he : zEnds a 999 s) (h : ∀ s', zFr [21] s s' → Q (some (.inl R)) s') :
    ∀ (j i : Nat), i + j = 1000 → fstF (fun t => v ≤ paidAll a (lapN a t)) j i = R → ∀ u, zFr [21] s u → zNow a (preF a i) u → ((i : Int) ≠ 0 → ¬ v ≤ paidAll a (lapN a ((i : Int) - 1))) → zJ x (d + 6) 137 24 [some (.inr (.inl 0)), some (.inl v), some (.inl (i : Int))] [] u Q := by
  intro j
  induction j with
  | zero => intro i h1 h2 u hu hn hp; exact B137_24 ⟨fun _ => B137_61 (zQi (h u hu) h2.symm), fun h => absurd h (by omega)⟩
  | succ j ih =>
    intro i h1 h2 u hu hn hp
    have e2 : True → wr ((i : Int) + 1) = ((i + 1 : Nat) : Int) := fun _ => by unfold wr; omega
    unfold fstF at h2
    have hsu : zSim a u := hs.tr (hu.le _ rfl)
    have next : ∀ u', zFr [21] u u' → zNow a (fun c => lapsBy a c i) u' → ¬ v ≤ paidAll a (lapN a i) → zJ x (d + 6) 137 55 [some (.inr (.inl 0)), some (.inl v), some (.inl (i : Int))] [] u' Q := by
      intro u' hu' hn' hp'
      refine B137_55 ?_
      rw [e2 trivial]
      rw [if_neg hp'] at h2
      refine ih (i + 1) (by omega) h2 u' (hu.tr hu') (fun c hc => ?_) (fun _ => ?_)
      · rw [hn' c hc]
        unfold preF
        rw [if_neg (by omega), show ((i + 1 : Nat) : Int) - 1 = i by omega]
      · rw [show ((i + 1 : Nat) : Int) - 1 = i by omega]; exact hp'
    refine B137_24 ⟨fun h => absurd h (by omega), fun _ => m109 hI hsu (he.fr hu rfl rfl) hn (by omega) (fun u' b hu' hn' hb => B137_39 ⟨fun h3 => next u' hu' hn' ?_, fun h3 => m114 hI (hsu.tr (hu'.le _ rfl)) hn' (B137_49 ⟨fun h4 => next u' hu' hn' ?_, fun h4 => zQi (h u' (hu.tr hu')) ?_⟩)⟩)⟩
    · rcases hb with hb | ⟨hb, hb0, hb2⟩
      · omega
      · rw [show paidAll a (lapN a i) = paidAll a (lapN a ((i : Int) - 1)) from paidAll_congr (fun c hc => hb2 c hc)]
        exact hp hb0
    · have h5 : paidAll a (lapN a i) < v := h4
      omega
    · have h5 : ¬ paidAll a (lapN a i) < v := h4
      rw [if_pos (by omega)] at h2
      exact h2.symm
theorem c_howLong {v : Int} (hI : zFolk a) (hL : zLaw a) (hs : zSim a s) (h : ∀ s', zSim a s' → Q (some (.inl (rHowLong a v))) s') : zE x (d + 7) 137 [.inr (.inl 0), .inl v] s Q := by
  refine N137 (B137_0 (m118 (B137_7 ⟨fun h0 => B137_12 (m108 hI hL hs (fun s' h1 h2 h3 => B137_22 ?_)), fun h0 => zQi (h s hs) ?_⟩)))
  · have hs2 := hs.tr (h1.le zScL rfl)
    refine c_howLong_loop hI hs2 h2 (fun u hu => zQi (h u (hs2.tr (hu.le _ rfl))) (if_pos (by omega))) 1000 0 (by omega) rfl s' zFr.rf (fun c hc => ?_) (fun e => absurd rfl e)
    rw [h3 c hc]; rfl
  · unfold rHowLong; rw [if_neg (by omega)]
end ZThink
