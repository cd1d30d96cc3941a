/-! sheets, oak, drawn: the class -/
def badP (a : zSt) (i : Nat) (f : Nat → Int) (k : Nat) : Prop := ¬ (((2 * k + 1 : Nat) : Int) < a 80 i ∧ isCh a (wr (a 81 (i * 60 + 2 * k))) ∧ paidTo a (wr (a 81 (i * 60 + 2 * k))) (f (wr (a 81 (i * 60 + 2 * k))).toNat) = wr (a 81 (i * 60 + (2 * k + 1))))
noncomputable def wshF (a : zSt) (i : Nat) (f : Nat → Int) : Nat → Nat → Int
  | 0, _ => -2
  | n + 1, k => @ite _ (a 80 i ≤ ((2 * k : Nat) : Int)) (Classical.propDecidable _) (-2) (@ite _ (badP a i f k) (Classical.propDecidable _) (k : Int) (wshF a i f n (k + 1)))
noncomputable def rJudge (a : zSt) (i t : Int) : Int := if isSh i ∧ (0 ≤ t ∧ t ≤ 999) then (if refF a i.toNat 1 = 0 then wshF a i.toNat (lapN a t) 31 0 else refF a i.toNat 1) else -1
noncomputable def rMinutesFor (a : zSt) (i : Int) : Int := if isSh i then (if refF a i.toNat 1 = 0 then fstF (fun t => wshF a i.toNat (lapN a t) 31 0 = -2) 1000 0 else refF a i.toNat 1) else -1
def cntF (a : zSt) (c v : Int) : Nat → Int
  | 0 => 0
  | k + 1 => if paidTo a c k = v then cntF a c v k + 1 else cntF a c v k
theorem cntF_R (a : zSt) (c v : Int) : ∀ k : Nat, 0 ≤ cntF a c v k ∧ cntF a c v k ≤ k
  | 0 => by simp [cntF]
  | k + 1 => by
    have := cntF_R a c v k
    unfold cntF
    split <;> omega
theorem fstF_hit {p : Nat → Prop} [DecidablePred p] {n k : Nat} (h : p k) : fstF p (n + 1) k = k := if_pos h
theorem fstF_miss {p : Nat → Prop} [DecidablePred p] {n k : Nat} (h : ¬ p k) : fstF p (n + 1) k = fstF p n (k + 1) := if_neg h
def rLapsFor (a : zSt) (c v w : Int) : Int := if isCh a c ∧ (0 ≤ v ∧ v ≤ 99999) ∧ (0 ≤ w ∧ w ≤ 1) then (if w = 0 then cntF a c v 100 else fstF (fun n => paidTo a c n = v) 100 0) else -1
def rWhose (a : zSt) (c t v : Int) : Int := if isCh a c ∧ (0 ≤ t ∧ t ≤ 999) ∧ (0 ≤ v ∧ v ≤ 99999) then fstF (fun p => wr (paidTo a c (lapsBy a c.toNat t) + min (wr ((p : Int) * lapsBy a c.toNat t)) 9999) = v) 201 0 else -1
def sadF (a : zSt) (i : Nat) (c : Nat) : Int := if (c : Int) < a 80 i then wr (a 81 (i * 60 + c)) else -1
def rOak (a : zSt) (i t c : Int) : Int := if isSh i ∧ (0 ≤ t ∧ t ≤ 999) ∧ (c = -1 ∨ isCh a c) then (if refF a i.toNat 0 = 0 then (if c = -1 then bitF (fun c => (lapsBy a c t : Int) < sadF a i.toNat c) (a 2 3).toNat else if (lapsBy a c.toNat t : Int) < sadF a i.toNat c.toNat then wr (t - endF a c.toNat (sadF a i.toNat c.toNat).toNat) else 0) else refF a i.toNat 0) else -1
def drZ (a : zSt) (t z : Int) : Nat → Int
  | 0 => z
  | n + 1 => drwZ a t (drZ a t z n) (a 2 3).toNat
def drS (a : zSt) (t z w : Int) : Nat → Int
  | 0 => 0
  | n + 1 => wr (drS a t z w n + (if w = 0 then sumN (drwN a t (drZ a t z n)) (a 2 3).toNat else paidAll a (drwN a t (drZ a t z n))))
def rDrawn (a : zSt) (z nt w : Int) : Int := if (0 ≤ nt ∧ 1 ≤ nt / 1000 ∧ nt / 1000 ≤ 30) ∧ (0 ≤ w ∧ w ≤ 1) then drS a (nt % 1000) z w (nt / 1000).toNat else -1
theorem badP_congr {a : zSt} {i : Nat} {f g : Nat → Int} (h : ∀ c : Nat, (c : Int) < a 2 3 → f c = g c) (k : Nat) : badP a i f k ↔ badP a i g k := by
  unfold badP
  by_cases hc : isCh a (wr (a 81 (i * 60 + 2 * k)))
  · rw [h (wr (a 81 (i * 60 + 2 * k))).toNat (by omega)]
  · constructor
    · intro _ e; exact hc e.2.1
    · intro _ e; exact hc e.2.1
theorem wshF_congr {a : zSt} {i : Nat} {f g : Nat → Int} (h : ∀ c : Nat, (c : Int) < a 2 3 → f c = g c) : ∀ n k, wshF a i f n k = wshF a i g n k
  | 0, _ => rfl
  | n + 1, k => by
    have e := wshF_congr (i := i) h n (k + 1)
    have hb := badP_congr (i := i) h k
    unfold wshF
    rw [e]
    by_cases h1 : a 80 i ≤ ((2 * k : Nat) : Int)
    · rw [if_pos h1, if_pos h1]
    · rw [if_neg h1, if_neg h1]
      by_cases h2 : badP a i f k
      · rw [if_pos h2, if_pos (hb.mp h2)]
      · rw [if_neg h2, if_neg (fun e => h2 (hb.mpr e))]
theorem wshF_in {a : zSt} {i : Nat} {f : Nat → Int} : ∀ n k, wshF a i f n k = -2 ∨ 0 ≤ wshF a i f n k
  | 0, _ => Or.inl rfl
  | n + 1, k => by
    have e := wshF_in (a := a) (i := i) (f := f) n (k + 1)
    unfold wshF
    split
    · exact Or.inl rfl
    · split
      · right; omega
      · exact e
section ZSheets
variable {x : List Int} {d : Nat} {a s : zSt} {Q : zQ} {f : Nat → Int}
theorem m144_loop {i : Int} (hI : zFolk a) (hV : zShv a) (hs : zSim a s) (hi : isSh i) (hr : a 38 i.toNat = 1) (hn : zNow a f s) {R : Int} (h : Q (some (.inl R)) s) :
    ∀ (j k : Nat) (o : Option zV), k + j = 31 → wshF a i.toNat f j k = R → zJ x (d + 5) 144 11 [some (.inr (.inl 0)), some (.inl i), some (.inl (a 80 i.toNat)), some (.inl ((2 * k : Nat) : Int)), o] [] s Q := by
  have hv := (hV.2 i.toNat (by omega)).2.2.2 (by omega)
  intro j
  induction j with
  | zero =>
    intro k o h1 h2
    refine B144_11 ⟨fun _ => B144_95 (zQi h ?_), fun h => absurd h (by omega)⟩
    rw [← h2]; rfl
  | succ j ih =>
    intro k o h1 h2
    unfold wshF at h2
    by_cases hk : a 80 i.toNat ≤ ((2 * k : Nat) : Int)
    · rw [if_pos hk] at h2
      exact B144_11 ⟨fun _ => B144_95 (zQi h h2.symm), fun h => absurd hk h⟩
    · rw [if_neg hk] at h2
      have q1 := hv.2.2.2.2 (2 * k) (by omega)
      have r1 := q1.2.2 hr
      have done : badP a i.toNat f k → Q (some (.inl (wr (((2 * k : Nat) : Int).tdiv 2)))) s := fun hb => by
        rw [if_pos hb] at h2
        refine zQi h ?_
        rw [← h2, Int.tdiv_eq_ediv_of_nonneg (by omega), wr_id (by unfold zR; omega)]
        omega
      refine B144_11 ⟨fun h => absurd h hk, fun _ => m97 hs hi (by omega) (by omega) (B144_25 ?_)⟩
      rw [show (((2 * k : Nat) : Int)).toNat = 2 * k by omega, q1.1, show wr (((2 * k : Nat) : Int) + 1) = ((2 * k + 1 : Nat) : Int) by rw [wr_id (by unfold zR; omega)]; omega]
      refine ⟨fun h3 => B144_47 (done ?_), fun h3 => m40 hs (B144_44 ⟨fun h4 => B144_51 ?_, fun h4 => B144_47 (done ?_)⟩)⟩
      · intro e; omega
      · have hc : isCh a (wr (a 81 (i.toNat * 60 + 2 * k))) := by omega
        refine m104 hI hs hn hc (B144_66 (m57 hI hs (B144_69 ?_)))
        rw [show wr (((2 * k : Nat) : Int) + 1) = ((2 * k + 1 : Nat) : Int) by rw [wr_id (by unfold zR; omega)]; omega]
        have q2 := hv.2.2.2.2 (2 * k + 1) (by omega)
        have r2 := q2.2.2 hr
        refine m97 hs hi (by omega) (by omega) (B144_81 ?_)
        rw [show (((2 * k + 1 : Nat) : Int)).toNat = 2 * k + 1 by omega, q2.1]
        have e9 : wr (a 81 (i.toNat * 60 + (2 * k + 1))) = a 81 (i.toNat * 60 + (2 * k + 1)) := wr_id (by unfold zR; omega)
        refine ⟨fun h5 => B144_89 ?_, fun h5 => done ?_⟩
        · rw [show wr (((2 * k : Nat) : Int) + 2) = ((2 * (k + 1) : Nat) : Int) by rw [wr_id (by unfold zR; omega)]; omega]
          rw [if_neg (fun hb : badP a i.toNat f k => hb ⟨by omega, hc, by omega⟩)] at h2
          exact ih (k + 1) _ (by omega) h2
        · intro e
          have e1 := e.2.2
          omega
      · intro e
        have e1 := e.2.1
        omega
theorem m144 {i : Int} (hI : zFolk a) (hV : zShv a) (hs : zSim a s) (hi : isSh i) (hr : a 38 i.toNat = 1) (hn : zNow a f s) (h : Q (some (.inl (wshF a i.toNat f 31 0))) s) : zE x (d + 6) 144 [.inr (.inl 0), .inl i] s Q := by
  have hv := (hV.2 i.toNat (by omega)).2.2.2 (by omega)
  refine N144 (B144_0 (m93 hs hi (by omega) (B144_8 ?_)))
  rw [hv.2.1]
  exact m144_loop hI hV hs hi hr hn h 31 0 none (by omega) rfl
theorem c_judge {i t : Int} (hI : zFolk a) (hL : zLaw a) (hV : zShv a) (hs : zSim a s) (h : ∀ s', zSim a s' → Q (some (.inl (rJudge a i t))) s') : zE x (d + 7) 143 [.inr (.inl 0), .inl i, .inl t] s Q := by
  have bad : ¬ (isSh i ∧ (0 ≤ t ∧ t ≤ 999)) → Q (some (.inl (-1))) s := fun e => zQi (h s hs) (by unfold rJudge; rw [if_neg e])
  refine N143 (B143_0 (m86 (B143_8 ⟨fun h0 => B143_22 (bad (by omega)), fun h0 => m118 (B143_19 ⟨fun h1 => B143_24 ?_, fun h1 => B143_22 (bad (by omega))⟩)⟩)))
  have hg : isSh i ∧ (0 ≤ t ∧ t ≤ 999) := by omega
  have h := fun s' hs' => zQi (h s' hs') (if_pos hg)
  refine m90 hs hg.1 (B143_33 ⟨fun h2 => B143_40 (m103 hI hL hs (fun s' hs' n1 => B143_48 ?_)), fun h2 => zQi (h s hs) ?_⟩)
  · have hs2 : zSim a s' := hs.tr (hs'.le _ rfl)
    have hr : a 38 i.toNat = 1 := by unfold refF at h2; omega
    refine m144 (f := lapN a t) hI hV hs2 hg.1 hr n1 (B143_53 (zQi (h s' hs2) ?_))
    rw [if_pos h2]
  · rw [if_neg h2]
theorem c_minutesFor_loop {i : Int} {R : Int} (hI : zFolk a) (hV : zShv a) (hs : zSim a s) (hi : isSh i) (hr : a 38 i.toNat = 1) (he : zEnds a 999 s) {x2 : Int} (h : ∀ s', zFr [21] s s' → Q (some (.inl R)) s') :
    ∀ (j k : Nat), k + j = 1000 → fstF (fun t => wshF a i.toNat (lapN a t) 31 0 = -2) j k = R → ∀ u, zFr [21] s u → zNow a (preF a k) u → ((k : Int) ≠ 0 → ¬ wshF a i.toNat (lapN a ((k : Int) - 1)) 31 0 = -2) → zJ x (d + 6) 146 41 [some (.inr (.inl 0)), some (.inl i), some (.inl x2), some (.inl (k : Int))] [] u Q := by
  intro j
  induction j with
  | zero => intro k h1 h2 u hu hn hp; exact B146_41 ⟨fun _ => B146_77 (zQi (h u hu) h2.symm), fun h => absurd h (by omega)⟩
  | succ j ih =>
    intro k h1 h2 u hu hn hp
    unfold fstF at h2
    have hsu : zSim a u := hs.tr (hu.le _ rfl)
    have next : ∀ u', zFr [21] u u' → zNow a (fun c => lapsBy a c k) u' → ¬ wshF a i.toNat (lapN a k) 31 0 = -2 → zJ x (d + 6) 146 71 [some (.inr (.inl 0)), some (.inl i), some (.inl x2), some (.inl (k : Int))] [] u' Q := by
      intro u' hu' hn' hp'
      refine B146_71 ?_
      rw [show wr ((k : Int) + 1) = ((k + 1 : Nat) : Int) by unfold wr; omega]
      rw [if_neg hp'] at h2
      refine ih (k + 1) (by omega) h2 u' (hu.tr hu') (fun c hc => ?_) (fun _ => ?_)
      · rw [hn' c hc]
        unfold preF
        rw [if_neg (by omega), show ((k + 1 : Nat) : Int) - 1 = k by omega]
      · rw [show ((k + 1 : Nat) : Int) - 1 = k by omega]; exact hp'
    refine B146_41 ⟨fun h => absurd h (by omega), fun _ => m109 hI hsu (he.fr hu rfl rfl) hn (by omega) (fun u' b hu' hn' hb => B146_56 ⟨fun h3 => next u' hu' hn' ?_, fun h3 => m144 (f := lapN a k) hI hV (hsu.tr (hu'.le _ rfl)) hi hr hn' (B146_64 ⟨fun h4 => next u' hu' hn' h4, fun h4 => zQi (h u' (hu.tr hu')) ?_⟩)⟩)⟩
    · rcases hb with hb | ⟨hb, hb0, hb2⟩
      · omega
      · rw [show wshF a i.toNat (lapN a k) 31 0 = wshF a i.toNat (lapN a ((k : Int) - 1)) 31 0 from wshF_congr (fun c hc => hb2 c hc) 31 0]
        exact hp hb0
    · rw [if_pos (Decidable.not_not.mp h4)] at h2
      exact h2.symm
theorem c_minutesFor {i : Int} (hI : zFolk a) (hL : zLaw a) (hV : zShv a) (hs : zSim a s) (h : ∀ s', zSim a s' → Q (some (.inl (rMinutesFor a i))) s') : zE x (d + 7) 146 [.inr (.inl 0), .inl i] s Q := by
  refine N146 (B146_0 (m86 (B146_8 ⟨fun h0 => B146_13 ?_, fun h0 => zQi (h s hs) ?_⟩)))
  · have hg : isSh i := by omega
    have h := fun s' hs' => zQi (h s' hs') (if_pos hg)
    refine m90 hs hg (B146_22 ⟨fun h2 => B146_29 (m108 hI hL hs (fun s' h1 h3 h4 => B146_39 ?_)), fun h2 => zQi (h s hs) ?_⟩)
    · have hs2 := hs.tr (h1.le zScL rfl)
      have hr : a 38 i.toNat = 1 := by unfold refF at h2; omega
      refine c_minutesFor_loop hI hV hs2 hg hr h3 (fun u hu => zQi (h u (hs2.tr (hu.le _ rfl))) (if_pos h2)) 1000 0 (by omega) rfl s' zFr.rf (fun c hc => ?_) (fun e => absurd rfl e)
      rw [h4 c hc]; rfl
    · rw [if_neg h2]
  · unfold rMinutesFor; rw [if_neg (by omega)]
theorem c_lapsFor_loop {c v w : Int} (hI : zFolk a) (hs : zSim a s) (hw : w = 0 ∨ w = 1) (h : Q (some (.inl (if w = 0 then cntF a c v 100 else fstF (fun n => paidTo a c n = v) 100 0))) s) :
    ∀ (j k : Nat) (z : Int), k + j = 100 → (w = 0 → z = cntF a c v k) → (w = 1 → fstF (fun n => paidTo a c n = v) j k = fstF (fun n => paidTo a c n = v) 100 0) → zJ x (d + 5) 145 38 [some (.inr (.inl 0)), some (.inl c), some (.inl v), some (.inl w), some (.inl z), some (.inl (k : Int))] [] s Q := by
  intro j
  induction j with
  | zero =>
    intro k z h1 h2 h3
    refine B145_38 ⟨fun _ => B145_76 ⟨fun h4 => B145_86 (B145_88 (zQi h ?_)), fun h4 => B145_88 (zQi h ?_)⟩, fun h => absurd h (by omega)⟩
    · rw [if_pos (by omega), h2 (by omega), show k = 100 by omega]
    · rw [if_neg (by omega), ← h3 (by omega)]; rfl
  | succ j ih =>
    intro k z h1 h2 h3
    have e2 : True → wr ((k : Int) + 1) = ((k + 1 : Nat) : Int) := fun _ => by unfold wr; omega
    have hcn := cntF_R a c v k
    refine B145_38 ⟨fun h => absurd h (by omega), fun _ => m57 hI hs (B145_55 ⟨fun h4 => B145_70 ?_, fun h4 => ⟨fun h5 => B145_67 (B145_70 ?_), fun h5 => zQi h ?_⟩⟩)⟩
    · rw [e2 trivial]
      refine ih (k + 1) z (by omega) (fun hw0 => ?_) (fun hw1 => ?_)
      · rw [h2 hw0]; exact (if_neg h4).symm
      · rw [← h3 hw1]; exact (fstF_miss (p := fun n => paidTo a c n = v) h4).symm
    · rw [e2 trivial]
      refine ih (k + 1) _ (by omega) (fun hw0 => ?_) (fun hw1 => absurd hw1 h5)
      rw [h2 hw0, wr_id (by unfold zR; omega)]
      exact (if_pos (Decidable.not_not.mp h4)).symm
    · rw [if_neg (by omega), ← h3 (by omega)]
      exact fstF_hit (p := fun n => paidTo a c n = v) (Decidable.not_not.mp h4)
theorem c_lapsFor {c v w : Int} (hI : zFolk a) (hs : zSim a s) (h : ∀ s', zSim a s' → Q (some (.inl (rLapsFor a c v w))) s') : zE x (d + 6) 145 [.inr (.inl 0), .inl c, .inl v, .inl w] s Q := by
  have bad : ¬ (isCh a c ∧ (0 ≤ v ∧ v ≤ 99999) ∧ (0 ≤ w ∧ w ≤ 1)) → Q (some (.inl (-1))) s := fun e => zQi (h s hs) (by unfold rLapsFor; rw [if_neg e])
  refine N145 (B145_0 (m40 hs (B145_8 ⟨fun h0 => B145_30 (bad (by omega)), fun h0 => m118 (B145_18 ⟨fun h1 => B145_30 (bad (by omega)), fun h1 => m118 (B145_27 ⟨fun h2 => B145_32 ?_, fun h2 => B145_30 (bad (by omega))⟩)⟩)⟩)))
  exact c_lapsFor_loop hI hs (by omega) (zQi (h s hs) (if_pos (by omega))) 100 0 0 (by omega) (fun _ => rfl) (fun _ => rfl)
theorem c_whose_loop {c t v : Int} {n : Int} {m R : Int} (h : Q (some (.inl R)) s) :
    ∀ (j k : Nat), k + j = 201 → fstF (fun p => wr (m + min (wr ((p : Int) * n)) 9999) = v) j k = R → zJ x d 147 60 [some (.inr (.inl 0)), some (.inl c), some (.inl t), some (.inl v), some (.inl n), some (.inl m), some (.inl (k : Int))] [] s Q := by
  intro j
  induction j with
  | zero => intro k h1 h2; exact B147_60 ⟨by omega, by omega, fun _ => B147_100 (zQi h h2.symm), fun h => absurd h (by omega)⟩
  | succ j ih =>
    intro k h1 h2
    unfold fstF at h2
    refine B147_60 ⟨by omega, by omega, fun h => absurd h (by omega), fun _ => ⟨by omega, by omega, fun h3 => B147_94 ?_, fun h3 => zQi h ?_⟩⟩
    · rw [show wr ((k : Int) + 1) = ((k + 1 : Nat) : Int) by unfold wr; omega]
      rw [if_neg h3] at h2
      exact ih (k + 1) (by omega) h2
    · rw [if_pos (Decidable.not_not.mp h3)] at h2
      exact h2.symm
theorem c_whose {c t v : Int} (hI : zFolk a) (hL : zLaw a) (hs : zSim a s) (h : ∀ s', zSim a s' → Q (some (.inl (rWhose a c t v))) s') : zE x (d + 6) 147 [.inr (.inl 0), .inl c, .inl t, .inl v] s Q := by
  have bad : ¬ (isCh a c ∧ (0 ≤ t ∧ t ≤ 999) ∧ (0 ≤ v ∧ v ≤ 99999)) → Q (some (.inl (-1))) s := fun e => zQi (h s hs) (by unfold rWhose; rw [if_neg e])
  refine N147 (B147_0 (m40 hs (B147_8 ⟨fun h0 => B147_32 (bad (by omega)), fun h0 => m118 (B147_19 ⟨fun h1 => B147_32 (bad (by omega)), fun h1 => m118 (B147_29 ⟨fun h2 => B147_34 ?_, fun h2 => B147_32 (bad (by omega))⟩)⟩)⟩)))
  refine m102 hI hL hs (by omega) (fun s' hs' => B147_43 (m57 hI (hs.tr (hs'.le _ rfl)) (B147_55 ?_)))
  exact c_whose_loop (zQi (h s' (hs.tr (hs'.le _ rfl))) (if_pos (by omega))) 201 0 (by omega) rfl
theorem m150 {i c : Int} (hV : zShv a) (hs : zSim a s) (hi : isSh i) (hr : a 38 i.toNat ≤ 4) (hc : 0 ≤ c ∧ c < 6) (h : Q (some (.inl (max 0 (sadF a i.toNat c.toNat)))) s) : zE x (d + 5) 150 [.inr (.inl 0), .inl i, .inl c] s Q := by
  have hv := (hV.2 i.toNat (by omega)).2.2.2 hr
  refine N150 (B150_0 (m93 hs hi hr (B150_9 ?_)))
  rw [hv.2.1]
  refine ⟨fun h0 => B150_29 (B150_30 (zQi h ?_)), fun h0 => m97 hs hi hr (by omega) (B150_22 (B150_30 (zQi h ?_)))⟩
  · unfold sadF; rw [if_neg (by omega)]; rfl
  · unfold sadF
    rw [if_pos (by omega), (hv.2.2.2.2 c.toNat (by omega)).1]
theorem m149 {i t c : Int} (hI : zFolk a) (hL : zLaw a) (hV : zShv a) (hs : zSim a s) (hi : isSh i) (hr : a 38 i.toNat ≤ 4) (hc : isCh a c) (hQ : ∀ s', zFr [14, 15] s s' → Q (some (.inl (if (lapsBy a c.toNat t : Int) < sadF a i.toNat c.toNat then 1 else 0))) s') : zE x (d + 6) 149 [.inr (.inl 0), .inl i, .inl t, .inl c] s Q := by
  have i1 := hI.1.1
  refine N149 (B149_0 (m150 hV hs hi hr (by omega) (B149_6 (m102 hI hL hs hc (fun s' hs' => B149_15 ⟨fun h0 => B149_22 (B149_23 ⟨by omega, zQi (hQ s' hs') ?_⟩), fun h0 => B149_23 ⟨by omega, zQi (hQ s' hs') ?_⟩⟩)))))
  · rw [if_neg (by omega)]
  · rw [if_pos (by omega)]
theorem c_oak_loop {i t x3 x4 : Int} (hI : zFolk a) (hL : zLaw a) (hV : zShv a) (hs : zSim a s) (hi : isSh i) (hr : a 38 i.toNat ≤ 4) (hQ : ∀ s', zFr [14, 15] s s' → Q (some (.inl (bitF (fun c => (lapsBy a c t : Int) < sadF a i.toNat c) (a 2 3).toNat))) s') :
    ∀ (j k : Nat), (k : Int) + j = a 2 3 → ∀ u, zFr [14, 15] s u → zJ x (d + 6) 148 101 [some (.inr (.inl 0)), some (.inl i), some (.inl t), some (.inl x3), some (.inl x4), some (.inl (bitF (fun c => (lapsBy a c t : Int) < sadF a i.toNat c) k)), some (.inl (k : Int))] [] u Q := by
  have i1 := hI.1.1
  intro j
  induction j with
  | zero =>
    intro k h1 u hu
    refine B148_101 (m38 (hs.tr (hu.le _ rfl)) (B148_110 ⟨fun _ => B148_143 (zQi (hQ u hu) ?_), fun h => absurd h (by omega)⟩))
    rw [show (a 2 3).toNat = k by omega]
  | succ j ih =>
    intro k h1 u hu
    have hsu : zSim a u := hs.tr (hu.le _ rfl)
    refine B148_101 (m38 hsu (B148_110 ⟨fun h => absurd h (by omega), fun _ => m149 hI hL hV hsu hi hr (by omega) (fun u' hu' => B148_123 ?_)⟩))
    have h2 := ih (k + 1) (by omega) u' (hu.tr hu')
    unfold bitF at h2
    rw [Int.toNat_natCast]
    refine ⟨fun h3 => B148_133 (B148_134 ?_), fun h3 => B148_134 ?_⟩
    · rw [if_neg (fun e => by rw [if_pos e] at h3; omega)] at h2
      rw [show wr ((k : Int) + 1) = ((k + 1 : Nat) : Int) by unfold wr; omega]
      exact h2
    · rw [if_pos (Decidable.byContradiction fun e => by rw [if_neg e] at h3; omega)] at h2
      rw [show wr ((k : Int) + 1) = ((k + 1 : Nat) : Int) by unfold wr; omega]
      exact h2
theorem sadF_R (hV : zShv a) {i : Int} (hi : isSh i) (hr : a 38 i.toNat = 0) (c : Nat) : sadF a i.toNat c ≤ 127 := by
  have hv := (hV.2 i.toNat (by omega)).2.2.2 (by omega)
  unfold sadF
  split
  · rename_i hc
    have h1 := (hv.2.2.2.2 c hc).2.1 hr
    rw [wr_id (by unfold zR; omega)]
    omega
  · omega
theorem c_oak {i t c : Int} (hI : zFolk a) (hL : zLaw a) (hV : zShv a) (hs : zSim a s) (h : ∀ s', zSim a s' → Q (some (.inl (rOak a i t c))) s') : zE x (d + 7) 148 [.inr (.inl 0), .inl i, .inl t, .inl c] s Q := by
  have i1 := hI.1.1
  have bad : ¬ (isSh i ∧ (0 ≤ t ∧ t ≤ 999) ∧ (c = -1 ∨ isCh a c)) → Q (some (.inl (-1))) s := fun e => zQi (h s hs) (by unfold rOak; rw [if_neg e])
  have good : isSh i ∧ (0 ≤ t ∧ t ≤ 999) ∧ (c = -1 ∨ isCh a c) → zJ x (d + 6) 148 40 [some (.inr (.inl 0)), some (.inl i), some (.inl t), some (.inl c), none, none, none] [] s Q := by
    intro hg
    have h := fun s' hs' => zQi (h s' hs') (if_pos hg)
    refine B148_40 (m90 hs hg.1 (B148_49 ⟨fun h2 => B148_59 ?_, fun h2 => zQi (h s hs) ?_⟩))
    · have hr : a 38 i.toNat = 0 := by unfold refF at h2; omega
      have h := fun s' hs' => zQi (h s' hs') (if_pos h2)
      refine ⟨fun h3 => B148_95 ?_, fun h3 => m149 hI hL hV hs hg.1 (by omega) (by omega) (fun s' hs' => B148_71 ?_)⟩
      · refine c_oak_loop hI hL hV hs hg.1 (by omega) (fun s' hs' => zQi (h s' (hs.tr (hs'.le _ rfl))) ?_) (a 2 3).toNat 0 (by omega) s zFr.rf
        rw [if_pos h3]
      · have hs2 : zSim a s' := hs.tr (hs'.le _ rfl)
        have h := fun s' hs' => zQi (h s' hs') (if_neg h3)
        have hsd := sadF_R hV hg.1 hr c.toNat
        refine ⟨fun h4 => B148_93 (B148_94 (zQi (h s' hs2) ?_)), fun h4 => m150 hV hs2 hg.1 (by omega) (by omega) (B148_86 (m51 hI hL hs2 (by omega) (by omega) (fun s3 h5 => B148_89 (B148_94 (zQi (h s3 (hs2.tr (h5.le _ rfl))) ?_)))))⟩
        · rw [if_neg (by omega)]
        · rw [if_pos (by omega), show max 0 (sadF a i.toNat c.toNat) = sadF a i.toNat c.toNat by omega]
    · rw [if_neg h2]
  refine N148 (B148_0 (m86 (B148_8 ⟨fun h0 => B148_38 (bad (by omega)), fun h0 => m118 (B148_19 ⟨fun h1 => B148_38 (bad (by omega)), fun h1 => ⟨fun h2 => good (by omega), fun h2 => m40 hs (B148_35 ⟨fun h3 => good (by omega), fun h3 => B148_38 (bad (by omega))⟩)⟩⟩)⟩)))
theorem c_drawn_loop {z nt w R : Int} (hI : zFolk a) (hL : zLaw a) (hs : zSim a s) (hw : w = 0 ∨ w = 1) {N : Nat} {t : Int} (hN : wr (nt.tdiv 1000) = N) (ht : wr (nt.tmod 1000) = t) (hN2 : N ≤ 30) (hR : drS a t z w N = R) (hQ : ∀ s', zSim a s' → Q (some (.inl R)) s') :
    ∀ (j n : Nat), n + j = N → ∀ u, zSim a u → zJ x (d + 6) 151 42 [some (.inr (.inl 0)), some (.inl z), some (.inl nt), some (.inl w), some (.inl (drZ a t z n)), some (.inl (drS a t z w n)), some (.inl (n : Int))] [] u Q := by
  intro j
  induction j with
  | zero =>
    intro n h1 u hu
    refine B151_42 ⟨fun _ => B151_100 (zQi (hQ u hu) ?_), fun h => absurd h (by rw [hN]; omega)⟩
    rw [← hR, show N = n by omega]
  | succ j ih =>
    intro n h1 u hu
    refine B151_42 ⟨fun h => absurd h (by rw [hN]; omega), fun _ => ?_⟩
    rw [ht]
    refine m110 hI hL hu (fun u' hu' n1 => B151_66 ?_)
    have hu2 : zSim a u' := hu.tr (hu'.le _ rfl)
    have h2 := ih (n + 1) (by omega) u' hu2
    unfold drS at h2
    refine ⟨fun h3 => B151_84 (m114 hI hu2 n1 (B151_91 ?_)), fun h3 => m112 hI hu2 n1 (B151_81 (B151_91 ?_))⟩
    · rw [if_neg h3] at h2
      rw [show wr ((n : Int) + 1) = ((n + 1 : Nat) : Int) by unfold wr; omega]
      exact h2
    · rw [if_pos (Decidable.not_not.mp h3)] at h2
      rw [show wr ((n : Int) + 1) = ((n + 1 : Nat) : Int) by unfold wr; omega]
      exact h2
theorem c_drawn {z nt w : Int} (hI : zFolk a) (hL : zLaw a) (hs : zSim a s) (h : ∀ s', zSim a s' → Q (some (.inl (rDrawn a z nt w))) s') : zE x (d + 7) 151 [.inr (.inl 0), .inl z, .inl nt, .inl w] s Q := by
  refine zE_ok (fun _ ht => ?_)
  have hkm : zR nt := ht (.inl nt) (List.mem_of_getElem? (i := 2) rfl)
  unfold zR at hkm
  have bad : ¬ ((0 ≤ nt ∧ 1 ≤ nt / 1000 ∧ nt / 1000 ≤ 30) ∧ (0 ≤ w ∧ w ≤ 1)) → Q (some (.inl (-1))) s := fun e => zQi (h s hs) (by unfold rDrawn; rw [if_neg e])
  refine N151 (B151_0 (m119 (by decide) (B151_12 ⟨fun h0 => B151_31 (bad (by omega)), fun h0 => ⟨fun h1 => B151_31 (bad (by omega)), fun h1 => m118 (B151_28 ⟨fun h2 => B151_33 ?_, fun h2 => B151_31 (bad (by omega))⟩)⟩⟩) (by decide)))
  have hg : (0 ≤ nt ∧ 1 ≤ nt / 1000 ∧ nt / 1000 ≤ 30) ∧ (0 ≤ w ∧ w ≤ 1) := by omega
  refine c_drawn_loop (N := (nt / 1000).toNat) (t := nt % 1000) hI hL hs (by omega) ?_ ?_ (by omega) rfl (fun s' hs' => zQi (h s' hs') (if_pos hg)) (nt / 1000).toNat 0 (by omega) s hs
  · rw [Int.tdiv_eq_ediv_of_nonneg hg.1.1, wr_id (by unfold zR; omega)]; omega
  · rw [Int.tmod_eq_emod_of_nonneg hg.1.1, wr_id (by unfold zR; omega)]
end ZSheets
