/-! the reference's calls, in thought -/
section ZMThink2
variable {x : List Int} {d : Nat} {a s : zSt} {Q : zQ}
theorem e_lap {c km : Int} (hI : zFolk a) (hL : zLaw a) (hs : zSim a s) (h : ∀ s', zSim a s' → Q (some (.inl (rLap a c km))) s') : zE x (d + 5) 206 [.inr (.inl 42), .inl c, .inl km] s Q := by
  refine zE_ok (fun _ ht => ?_)
  have hkm : zR km := ht (.inl km) (List.mem_of_getElem? (i := 2) rfl)
  unfold zR at hkm
  refine N206 (B206_0 (m171 hI hs (B206_5 ⟨fun h0 => B206_40 (B206_41 (zQi (h s hs) ?_)), fun h0 => ⟨fun h1 => B206_40 (B206_41 (zQi (h s hs) ?_)), fun h1 => ?_⟩⟩)))
  · unfold rLap; omega
  · unfold rLap; omega
  · have h0 : 0 ≤ km := by omega
    rw [Int.tdiv_eq_ediv_of_nonneg h0, Int.tmod_eq_emod_of_nonneg h0, wr_id (by unfold zR; omega), wr_id (by unfold zR; omega)]
    refine ⟨fun h2 => B206_40 (B206_41 (zQi (h s hs) ?_)), fun h2 => m205 hI hL hs (by omega) (fun s' hs' => B206_37 (B206_41 (zQi (h s' (hs.tr (hs'.le _ rfl))) ?_)))⟩
    · unfold rLap; omega
    · unfold rLap
      rw [if_pos ⟨by omega, by omega, by omega, by omega⟩]
theorem e_minutes {c n : Int} (hI : zFolk a) (hL : zLaw a) (hs : zSim a s) (h : ∀ s', zSim a s' → Q (some (.inl (rMinutes a c n))) s') : zE x (d + 6) 210 [.inr (.inl 42), .inl c, .inl n] s Q := by
  have i1 := hI.1.1
  have bad : ¬ (isCh a c ∧ (0 ≤ n ∧ n ≤ 99)) → Q (some (.inl (-1))) s := fun e => zQi (h s hs) (by unfold rMinutes; rw [if_neg e])
  refine N210 (B210_0 (m171 hI hs (B210_5 ⟨fun h0 => B210_18 (bad (by omega)), fun h0 => m170 (B210_15 ⟨fun h1 => B210_20 ?_, fun h1 => B210_18 (bad (by omega))⟩)⟩)))
  have hg : isCh a c ∧ (0 ≤ n ∧ n ≤ 99) := by omega
  have h : ∀ s', zSim a s' → Q (some (.inl (if a 45 c.toNat < n then -2 else endF a c.toNat n.toNat))) s' := fun s' hs' => zQi (h s' hs') (if_pos hg)
  rw [show s 45 = a 45 from hs 45 rfl]
  refine ⟨by omega, by omega, fun h2 => B210_35 (m209 hI hL hs (by omega) (by omega) (fun s' hs' => B210_41 (zQi (h s' (hs.tr (hs'.le _ rfl))) ?_))), fun h2 => B210_41 (zQi (h s hs) ?_)⟩
  · rw [if_neg (by omega)]
  · rw [if_pos (by omega)]
theorem e_owes {p n w : Int} (hI : zFolk a) (hs : zSim a s) (h : ∀ s', zSim a s' → Q (some (.inl (rOwes a p n w))) s') : zE x (d + 4) 214 [.inr (.inl 42), .inl p, .inl n, .inl w] s Q := by
  have bad : ¬ (isSp a p ∧ (0 ≤ n ∧ n ≤ 99) ∧ (0 ≤ w ∧ w ≤ 1)) → Q (some (.inl (-1))) s := fun e => zQi (h s hs) (by unfold rOwes; rw [if_neg e])
  refine N214 (B214_0 (m172 hI hs (B214_5 ⟨fun h0 => B214_27 (bad (by omega)), fun h0 => m170 (B214_15 ⟨fun h1 => B214_27 (bad (by omega)), fun h1 => m170 (B214_24 ⟨fun h2 => B214_29 ?_, fun h2 => B214_27 (bad (by omega))⟩)⟩)⟩)))
  have hg : isSp a p ∧ (0 ≤ n ∧ n ≤ 99) ∧ (0 ≤ w ∧ w ≤ 1) := by omega
  have h := zQi (h s hs) (if_pos hg)
  refine ⟨fun h3 => B214_42 (m213 hI hs (by omega) (B214_48 (zQi h ?_))), fun h3 => m212 hI hs (by omega) (B214_39 (B214_48 (zQi h ?_)))⟩
  · rw [if_neg h3]
  · rw [if_pos (Decidable.not_not.mp h3)]
theorem e_laps_loop {t : Int} (hI : zFolk a) (hs : zSim a s) (hn : zMow a (lapN a t) s) {x1 x2 x3 : Int} (h : Q (some (.inl (sumN (fun c => owedTo a c (lapN a t c)) (a 2 3).toNat))) s) :
    ∀ (j i : Nat), (i : Int) + j = a 2 3 → zJ x (d + 3) 221 110 [some (.inr (.inl 42)), some (.inl x1), some (.inl x2), some (.inl x3), some (.inl (sumN (fun c => owedTo a c (lapN a t c)) i)), some (.inl (i : Int))] [] s Q := by
  have i1 := hI.1.1
  have i3 := hI.1.2.2.1
  have e1 : s 42 1 = a 42 1 := z42 hs
  intro j
  induction j with
  | zero =>
    intro i h1
    refine B221_110 ⟨fun _ => B221_143 (zQi h ?_), fun h => absurd h (by omega)⟩
    rw [show (a 2 3).toNat = i by omega]
  | succ j ih =>
    intro i h1
    refine B221_110 ⟨fun h => absurd h (by omega), fun _ => ⟨by omega, by omega, m215 hI hs (B221_134 ?_)⟩⟩
    rw [show wr ((i : Int) + 1) = ((i + 1 : Nat) : Int) by unfold wr; omega, show ((i : Int)).toNat = i by omega, hn i (by omega)]
    exact ih (i + 1) (by omega)
theorem e_laps {c t w : Int} (hI : zFolk a) (hL : zLaw a) (hs : zSim a s) (h : ∀ s', zSim a s' → Q (some (.inl (rLaps a c t w))) s') : zE x (d + 7) 221 [.inr (.inl 42), .inl c, .inl t, .inl w] s Q := by
  have i1 := hI.1.1
  have i3 := hI.1.2.2.1
  have e1 : s 42 1 = a 42 1 := z42 hs
  have bad : ¬ ((c = -1 ∨ isCh a c) ∧ (0 ≤ t ∧ t ≤ 999) ∧ (0 ≤ w ∧ w ≤ 2)) → Q (some (.inl (-1))) s := fun e => zQi (h s hs) (by unfold rLaps; rw [if_neg e])
  refine N221 (B221_0 ?_)
  rw [wr_id (by unfold zR; omega)]
  refine m170 (B221_11 ⟨fun h0 => B221_30 (bad (by omega)), fun h0 => m207 (B221_18 ⟨fun h1 => B221_30 (bad (by omega)), fun h1 => m170 (B221_27 ⟨fun h2 => B221_32 (m217 hI hL hs (fun s' hs' hn => B221_37 ?_)), fun h2 => B221_30 (bad (by omega))⟩)⟩)⟩)
  have hg : (c = -1 ∨ isCh a c) ∧ (0 ≤ t ∧ t ≤ 999) ∧ (0 ≤ w ∧ w ≤ 2) := by omega
  have hs2 := hs.tr (hs'.le zScL rfl)
  have h := zQi (h s' hs2) (if_pos hg)
  refine ⟨fun h2 => B221_85 ?_, fun h2 => ?_⟩
  · rw [if_pos (show c = -1 by omega)] at h
    refine ⟨fun h3 => B221_94 ⟨fun h4 => B221_104 ?_, fun h4 => m220 hI hs2 hn (B221_103 (zQi h ?_))⟩, fun h3 => m218 hI hs2 hn (B221_93 (zQi h ?_))⟩
    · rw [if_neg h3, if_pos (show w = 1 by omega)] at h
      exact e_laps_loop (t := t) hI hs2 hn h (a 2 3).toNat 0 (by omega)
    · rw [if_neg h3, if_neg (by omega)]
    · rw [if_pos (Decidable.not_not.mp h3)]
  · rw [if_neg (show ¬ c = -1 by omega)] at h
    have hc : isCh a c := by omega
    have en := hn c.toNat (by omega)
    refine ⟨fun h3 => B221_54 ⟨fun h4 => B221_73 ⟨by omega, by omega, m216 hI hs2 (B221_84 (zQi h ?_))⟩, fun h4 => ⟨by omega, by omega, m215 hI hs2 (B221_70 (B221_84 (zQi h ?_)))⟩⟩, fun h3 => ⟨by omega, by omega, B221_84 (zQi h ?_)⟩⟩
    · rw [if_neg h3, if_neg h4, en]; rfl
    · rw [if_neg h3, if_pos (Decidable.not_not.mp h4), en]; rfl
    · rw [if_pos (Decidable.not_not.mp h3), en]; rfl
theorem e_most {t w : Int} (hI : zFolk a) (hL : zLaw a) (hs : zSim a s) (h : ∀ s', zSim a s' → Q (some (.inl (rMost a t w))) s') : zE x (d + 7) 224 [.inr (.inl 42), .inl t, .inl w] s Q := by
  have bad : ¬ ((0 ≤ t ∧ t ≤ 999) ∧ (0 ≤ w ∧ w ≤ 2)) → Q (some (.inl (-1))) s := fun e => zQi (h s hs) (by unfold rMost; rw [if_neg e])
  refine N224 (B224_0 (m207 (B224_4 ⟨fun h0 => B224_16 (bad (by omega)), fun h0 => m170 (B224_13 ⟨fun h1 => B224_18 (m217 hI hL hs (fun s' hs' hn => B224_23 ?_)), fun h1 => B224_16 (bad (by omega))⟩)⟩)))
  have hg : (0 ≤ t ∧ t ≤ 999) ∧ (0 ≤ w ∧ w ≤ 2) := by omega
  have hs2 := hs.tr (hs'.le zScL rfl)
  have h := zQi (h s' hs2) (if_pos hg)
  have hf : ∀ c : Nat, (c : Int) < a 2 3 → 0 ≤ lapN a t c ∧ lapN a t c ≤ 1000 := fun c hc => by
    have := lapsBy_99 hI hc t
    unfold lapN
    omega
  refine ⟨fun h2 => B224_34 ⟨fun h3 => B224_46 (m223 hI hs2 hn hf (B224_50 (zQi h ?_))), fun h3 => m219 hI hs2 hn (B224_43 (B224_50 (zQi h ?_)))⟩, fun h2 => m222 hI hs2 hn (B224_31 (B224_50 (zQi h ?_)))⟩
  · rw [if_neg h2, if_neg h3]
  · rw [if_neg h2, if_pos (Decidable.not_not.mp h3)]
  · rw [if_pos (Decidable.not_not.mp h2)]
theorem m225 {c n : Int} (hI : zFolk a) (hs : zSim a s) (h : Q (some (.inl (wr (paidTo a c (wr (n + 1)) - paidTo a c n)))) s) : zE x (d + 5) 225 [.inr (.inl 42), .inl c, .inl n] s Q :=
  N225 (B225_0 (m216 hI hs (B225_8 (m216 hI hs (B225_14 h)))))
theorem e_more {c n : Int} (hI : zFolk a) (hs : zSim a s) (h : ∀ s', zSim a s' → Q (some (.inl (rMore a c n))) s') : zE x (d + 6) 226 [.inr (.inl 42), .inl c, .inl n] s Q := by
  have bad : ¬ (isCh a c ∧ (0 ≤ n ∧ n ≤ 98)) → Q (some (.inl (-1))) s := fun e => zQi (h s hs) (by unfold rMore; rw [if_neg e])
  refine N226 (B226_0 (m171 hI hs (B226_5 ⟨fun h0 => B226_27 (B226_28 (bad (by omega))), fun h0 => m170 (B226_15 ⟨fun h1 => B226_27 (B226_28 (bad (by omega))), fun h1 => m225 hI hs (B226_24 (B226_28 (zQi (h s hs) ?_)))⟩)⟩)))
  unfold rMore
  rw [if_pos (by omega), wr_id (x := n + 1) (by unfold zR; omega)]
theorem e_done_loop {c : Int} {R : Int} (hI : zFolk a) (hs : zSim a s) (h : Q (some (.inl R)) s) :
    ∀ (n : Nat), n ≤ 99 → doneF a c n = R → zJ x (d + 5) 227 13 [some (.inr (.inl 42)), some (.inl c), some (.inl (n : Int))] [] s Q := by
  intro n
  induction n with
  | zero => intro _ h1; exact B227_13 ⟨fun _ => B227_34 (zQi h h1.symm), fun h => absurd h (by omega)⟩
  | succ n ih =>
    intro hn h1
    have e1 : True → wr (((n + 1 : Nat) : Int) - 1) = (n : Int) := fun _ => by rw [wr_id (by unfold zR; omega)]; omega
    have e2 : True → wr (((n + 1 : Nat) : Int) + (-1)) = (n : Int) := fun _ => by rw [wr_id (by unfold zR; omega)]; omega
    have e3 : True → wr ((n : Int) + 1) = ((n + 1 : Nat) : Int) := fun _ => by rw [wr_id (by unfold zR; omega)]; omega
    have p1 := paidTo_P hI c (n := (n : Int)) (by omega)
    have p2 := paidTo_P hI c (n := ((n + 1 : Nat) : Int)) (by omega)
    unfold doneF at h1
    refine B227_13 ⟨fun h => absurd h (by omega), fun _ => ?_⟩
    rw [e1 trivial]
    refine m225 hI hs (B227_25 ?_)
    rw [e3 trivial, wr_id (x := paidTo a c ((n + 1 : Nat) : Int) - paidTo a c n) (by unfold zR; omega)]
    refine ⟨fun h2 => B227_34 (zQi h ?_), fun h2 => ?_⟩
    · rw [if_neg (by omega)] at h1; exact h1.symm
    · rw [e2 trivial]
      rw [if_pos (by omega)] at h1
      exact ih (by omega) h1
theorem e_done {c : Int} (hI : zFolk a) (hs : zSim a s) (h : ∀ s', zSim a s' → Q (some (.inl (rDone a c))) s') : zE x (d + 6) 227 [.inr (.inl 42), .inl c] s Q := by
  refine N227 (B227_0 (m171 hI hs (B227_5 ⟨fun h0 => B227_10 ?_, fun h0 => zQi (h s hs) ?_⟩)))
  · exact e_done_loop hI hs (zQi (h s hs) (if_pos (by omega))) 99 (by omega) rfl
  · unfold rDone; rw [if_neg (by omega)]
theorem e_lapOrSum_loop {p v : Int} {R : Int} (hI : zFolk a) (hs : zSim a s) (hp : isSp a p) (h : Q (some (.inl R)) s) :
    ∀ (j i : Nat), i + j = 100 → fstF (fun n => v ≤ owesF a p.toNat n) j i = R → zJ x (d + 3) 228 23 [some (.inr (.inl 42)), some (.inl p), some (.inl v), some (.inl (i : Int))] [] s Q := by
  intro j
  induction j with
  | zero => intro i h1 h2; exact B228_23 ⟨fun _ => B228_47 (zQi h h2.symm), fun h => absurd h (by omega)⟩
  | succ j ih =>
    intro i h1 h2
    have e2 : True → wr ((i : Int) + 1) = ((i + 1 : Nat) : Int) := fun _ => by unfold wr; omega
    unfold fstF at h2
    refine B228_23 ⟨fun h => absurd h (by omega), fun _ => m212 hI hs hp (B228_35 ⟨fun h3 => B228_41 ?_, fun h3 => zQi h ?_⟩)⟩
    · rw [e2 trivial]
      rw [if_neg (by omega)] at h2
      exact ih (i + 1) (by omega) h2
    · rw [if_pos (by omega)] at h2
      exact h2.symm
theorem e_lapOrSum {p v : Int} (hI : zFolk a) (hs : zSim a s) (h : ∀ s', zSim a s' → Q (some (.inl (rLapOrSum a p v))) s') : zE x (d + 4) 228 [.inr (.inl 42), .inl p, .inl v] s Q := by
  have bad : ¬ (isSp a p ∧ (0 ≤ v ∧ v ≤ 9999)) → Q (some (.inl (-1))) s := fun e => zQi (h s hs) (by unfold rLapOrSum; rw [if_neg e])
  refine N228 (B228_0 (m172 hI hs (B228_5 ⟨fun h0 => B228_19 (bad (by omega)), fun h0 => m170 (B228_16 ⟨fun h1 => B228_21 ?_, fun h1 => B228_19 (bad (by omega))⟩)⟩)))
  exact e_lapOrSum_loop hI hs (by omega) (zQi (h s hs) (if_pos (by omega))) 100 0 (by omega) rfl
theorem plainF_mono {a : zSt} (hI : zFolk a) {p : Nat} (hp : (p : Int) < a 2 4) {n m : Int} (hn : 0 ≤ n) (hnm : n ≤ m) (hm : m ≤ 1000) : plainF a p n ≤ plainF a p m := by
  have h4 := zN4 hI (c := (p : Int)) (by omega)
  have h5 := zN5 hI (c := (p : Int)) (by omega)
  rw [Int.toNat_natCast] at h4 h5
  rw [(plainF_R hI hp (n := n) (by omega)).1, (plainF_R hI hp (n := m) (by omega)).1]
  have h1 : a 48 p * n ≤ a 48 p * m := Int.mul_le_mul_of_nonneg_left hnm h4.1
  omega
theorem e_top_loop {p : Int} (hI : zFolk a) (hs : zSim a s) (hp : isSp a p) (h : Q (some (.inl (rTop a p))) s) :
    ∀ (j i : Nat), i + j = 100 → ∀ (v : Int), v = (if i = 0 then 0 else plainF a p.toNat ((i : Int) - 1)) → zJ x (d + 1) 229 14 [some (.inr (.inl 42)), some (.inl p), some (.inl v), some (.inl (i : Int))] [] s Q := by
  have i2 := hI.1.2.1
  intro j
  induction j with
  | zero =>
    intro i h1 v hv
    rw [if_neg (by omega), show ((i : Int) - 1) = 99 by omega] at hv
    refine B229_14 ⟨fun _ => B229_43 ?_, fun h => absurd h (by omega)⟩
    rw [show s 52 = a 52 from hs 52 rfl]
    refine ⟨by omega, by omega, fun h3 => B229_55 ?_, fun h3 => zQi h ?_⟩
    · rw [show s 52 = a 52 from hs 52 rfl]
      refine ⟨by omega, by omega, fun h4 => B229_69 ?_, fun h4 => B229_75 (zQi h ?_)⟩
      · rw [show s 52 = a 52 from hs 52 rfl]
        refine ⟨by omega, by omega, B229_75 (zQi h ?_)⟩
        unfold rTop
        rw [if_pos hp, if_neg (by omega)]
        omega
      · unfold rTop
        rw [if_pos hp, if_neg (by omega)]
        omega
    · unfold rTop
      rw [if_pos hp, if_pos (by omega)]
  | succ j ih =>
    intro i h1 v hv
    have e2 : True → wr ((i : Int) + 1) = ((i + 1 : Nat) : Int) := fun _ => by unfold wr; omega
    have hpl := plainF_R hI (p := p.toNat) (by omega) (n := (i : Int)) (by omega)
    have hle : v ≤ plainF a p.toNat i := by
      rw [hv]
      split
      · exact hpl.2.1
      · exact plainF_mono hI (by omega) (by omega) (by omega) (by omega)
    have e5 : plainF a p.toNat (i : Int) = (if i + 1 = 0 then 0 else plainF a p.toNat (((i + 1 : Nat) : Int) - 1)) := by
      rw [if_neg (by omega), show (((i + 1 : Nat) : Int) - 1) = i by omega]
    refine B229_14 ⟨fun h => absurd h (by omega), fun _ => m211 hI hs hp (B229_26 ⟨fun h3 => B229_37 ?_, fun h3 => m211 hI hs hp (B229_36 (B229_37 ?_))⟩)⟩
    · rw [e2 trivial]
      exact ih (i + 1) (by omega) v (by rw [← e5]; omega)
    · rw [e2 trivial]
      exact ih (i + 1) (by omega) _ e5
theorem e_top {p : Int} (hI : zFolk a) (hs : zSim a s) (h : ∀ s', zSim a s' → Q (some (.inl (rTop a p))) s') : zE x (d + 3) 229 [.inr (.inl 42), .inl p] s Q := by
  refine N229 (B229_0 (m172 hI hs (B229_5 ⟨fun h0 => B229_10 ?_, fun h0 => zQi (h s hs) ?_⟩)))
  · exact e_top_loop hI hs (by omega) (h s hs) 100 0 (by omega) 0 rfl
  · unfold rTop; rw [if_neg (by omega)]
theorem e_howLong_loop {v : Int} {R : Int} (hI : zFolk a) (hL : zLaw a) (hs : zSim a s) (h : ∀ s', zFr [63, 64, 65] s s' → Q (some (.inl R)) s') :
    ∀ (j i : Nat), i + j = 1000 → fstF (fun t => v ≤ paidAll a (lapN a t)) j i = R → ∀ u, zFr [63, 64, 65] s u → zJ x (d + 6) 230 15 [some (.inr (.inl 42)), some (.inl v), some (.inl (i : Int))] [] u Q := by
  intro j
  induction j with
  | zero => intro i h1 h2 u hu; exact B230_15 ⟨fun _ => B230_43 (zQi (h u hu) h2.symm), fun h => absurd h (by omega)⟩
  | succ j ih =>
    intro i h1 h2 u hu
    have e2 : True → wr ((i : Int) + 1) = ((i + 1 : Nat) : Int) := fun _ => by unfold wr; omega
    unfold fstF at h2
    have hsu : zSim a u := hs.tr (hu.le _ rfl)
    refine B230_15 ⟨fun h => absurd h (by omega), fun _ => m217 hI hL hsu (fun u' hu' hn' => B230_27 (m220 hI (hsu.tr (hu'.le _ rfl)) hn' (B230_31 ⟨fun h4 => B230_37 ?_, fun h4 => zQi (h u' (hu.tr hu')) ?_⟩)))⟩
    · rw [e2 trivial]
      rw [if_neg (by omega)] at h2
      exact ih (i + 1) (by omega) h2 u' (hu.tr hu')
    · rw [if_pos (by omega)] at h2
      exact h2.symm
theorem e_howLong {v : Int} (hI : zFolk a) (hL : zLaw a) (hs : zSim a s) (h : ∀ s', zSim a s' → Q (some (.inl (rHowLong a v))) s') : zE x (d + 7) 230 [.inr (.inl 42), .inl v] s Q := by
  refine N230 (B230_0 (m170 (B230_8 ⟨fun h0 => B230_13 ?_, fun h0 => zQi (h s hs) ?_⟩)))
  · exact e_howLong_loop hI hL hs (fun u hu => zQi (h u (hs.tr (hu.le _ rfl))) (if_pos (by omega))) 1000 0 (by omega) rfl s zFr.rf
  · unfold rHowLong; rw [if_neg (by omega)]
end ZMThink2
