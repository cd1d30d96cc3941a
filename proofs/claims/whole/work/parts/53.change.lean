/-! mend, of, undo, redo, count: the class -/
noncomputable def rMend (a : zSt) (n w v : Int) : Int := @ite _ (okMend a n w v) (Classical.propDecidable _) (numF a w n) (-1)
noncomputable def uMend (a s : zSt) (n w v : Int) : zSt := @ite _ (okMend a n w v ∧ v ≠ numF a w n) (Classical.propDecidable _) (addC (drpC (zU s 16 (plF (a 2 3) (a 2 4) n w).toNat v)) (plF (a 2 3) (a 2 4) n w) (numF a w n) v) s
def rUndo (a : zSt) : Int := if 0 < a 42 17 then a 42 17 - 1 else -5
def uUndo (s : zSt) : zSt := if 0 < s 3 3 then zU (zU s 3 3 (s 3 3 - 1)) 16 (s 18 (s 3 3 - 1).toNat).toNat (s 19 (s 3 3 - 1).toNat) else s
def rRedo (a : zSt) : Int := if 0 < a 42 18 then a 42 18 - 1 else -5
def uRedo (s : zSt) : zSt := if s 3 3 < s 3 4 then zU (zU s 16 (s 18 (s 3 3).toNat).toNat (s 20 (s 3 3).toNat)) 3 3 (s 3 3 + 1) else s
noncomputable def rOf (a : zSt) (n w : Int) : Int := if 0 ≤ w ∧ w ≤ 12 then (@ite _ (zOkN (a 2 3) (a 2 4) w n) (Classical.propDecidable _) (numF a w n) (-1)) else if w = 13 then (if isSp a n then a 47 n.toNat else -1) else if w = 14 then (if isSp a n then a 72 n.toNat else -1) else if w = 15 then (if isCh a n then a 70 n.toNat else -1) else if w = 16 then (if isCh a n then a 71 n.toNat else -1) else -1
theorem plF_ok {ch sp n w : Int} (h1 : 0 ≤ ch ∧ ch ≤ 6) (h2 : 0 ≤ sp ∧ sp ≤ 16) : 0 ≤ plF ch sp n w ↔ zOkN ch sp w n := by
  unfold zOkN plF
  constructor
  · intro h
    omega
  · intro h
    omega
section ZMend
variable {x : List Int} {d : Nat} {a s : zSt} {Q : zQ}
theorem m14 {p b v : Int} (h3 : 0 ≤ s 3 3 ∧ s 3 3 ≤ 40) (h : Q none (addC (drpC s) p b v)) : zE x (d + 2) 14 [.inr (.inl 3), .inl p, .inl b, .inl v] s Q := by
  have go : ∀ t : zSt, 0 ≤ t 3 3 ∧ t 3 3 < 40 → Q none (addC t p b v) → zJ x (d + 1) 14 13 [some (.inr (.inl 3)), some (.inl p), some (.inl b), some (.inl v)] [] t Q := fun t ht hq => by
    refine B14_13 ⟨by omega, by omega, by omega, by omega, by omega, by omega, ?_⟩
    rw [wr_id (x := t 3 3 + 1) (by unfold zR; omega)]
    exact hq
  unfold drpC at h
  refine N14 (B14_0 ⟨fun h0 => go s (by omega) ?_, fun h0 => N15 (B15_0 ⟨by omega, by omega, by omega, by omega, by omega, by omega, by omega, by omega, by omega, by omega, by omega, by omega, by omega, by omega, by omega, go _ ?_ ?_⟩)⟩)
  · rw [if_pos h0] at h
    exact h
  · show (0 : Int) ≤ 39 ∧ (39 : Int) < 40
    exact ⟨by decide, by decide⟩
  · rw [if_neg h0] at h
    exact h
theorem c_mend {n w v : Int} (hI : zFolk a) (hC : zChg a) (hs : zSim a s) (h : Q (some (.inl (rMend a n w v))) (uMend a s n w v)) : zE x (d + 3) 124 [.inr (.inl 0), .inl n, .inl w, .inl v] s Q := by
  have e16 : s 16 = a 16 := hs 16 rfl
  have e33 : s 3 3 = a 3 3 := congrFun (hs 3 rfl) 3
  have pk := plF_ok (n := n) (w := w) hI.1.1 hI.1.2.1
  have c1 := hC.1
  unfold rMend uMend at h
  have bad : ¬ okMend a n w v → ∀ o : Option zV, zJ x (d + 2) 124 33 [some (.inr (.inl 0)), some (.inl n), some (.inl w), some (.inl v), some (.inl (plF (a 2 3) (a 2 4) n w)), none] [] s Q := fun e _ => by
    rw [if_neg e, if_neg (fun g => e g.1)] at h
    exact B124_33 h
  refine N124 (B124_0 (m43 hI.1 hs (B124_9 ⟨fun h0 => bad (fun e => by have := pk.mpr e.1; omega) none, fun h0 => ?_⟩)))
  have hw : zOkN (a 2 3) (a 2 4) w n := pk.mp (by omega)
  have hw2 : 0 ≤ w ∧ w ≤ 12 := by unfold zOkN at hw; omega
  have pr := plF_R hI.1.1 hI.1.2.1 hw
  have nm := hI.2.1 w n hw
  refine ⟨by omega, by omega, by omega, by omega, m118 (B124_30 ⟨fun h1 => B124_35 (m44 hs pr (B124_44 ?_)), fun h1 => bad (fun e => h1 (by rw [if_pos e.2]; omega)) none⟩)⟩
  have ho : okMend a n w v := ⟨hw, Decidable.not_not.mp (fun e => by rw [if_neg e] at h1; omega)⟩
  rw [nm.1]
  rw [if_pos ho] at h
  refine ⟨fun h2 => B124_74 ?_, fun h2 => m45 pr (B124_62 (m14 (by show 0 ≤ s 3 3 ∧ s 3 3 ≤ 40; omega) (B124_74 ?_)))⟩
  · rw [if_neg (fun g => g.2 h2)] at h
    exact h
  · rw [if_pos ⟨ho, h2⟩] at h
    exact h
theorem c_undo (hI : zFolk a) (hC : zChg a) (hs : zSim a s) (h : Q (some (.inl (rUndo a))) (uUndo s)) : zE x (d + 3) 158 [.inr (.inl 0)] s Q := by
  have e3 : ∀ k, s 3 k = a 3 k := fun k => congrFun (hs 3 rfl) k
  have e18 : s 18 = a 18 := hs 18 rfl
  have g3 := e3 3
  have c1 := hC.1
  unfold rUndo uUndo at h
  refine N158 (B158_0 (N16 (B16_0 ⟨fun h0 => B16_10 ?_, fun h0 => B158_11 ?_⟩)))
  · rw [if_pos (by omega), if_pos h0] at h
    rw [wr_id (x := s 3 3 - 1) (by unfold zR; omega)]
    have c2 := hC.2 (s 3 3 - 1).toNat (by omega)
    have pr := plF_R hI.1.1 hI.1.2.1 c2.1
    rw [← c2.2.1, ← e18] at pr
    refine ⟨by omega, by omega, by omega, by omega, m45 pr (B16_42 (B158_11 (zQi h ?_)))⟩
    show a 42 17 - 1 = s 3 3 - 1
    omega
  · rw [if_neg (by omega), if_neg (by omega)] at h
    exact h
theorem c_redo (hI : zFolk a) (hC : zChg a) (hs : zSim a s) (h : Q (some (.inl (rRedo a))) (uRedo s)) : zE x (d + 3) 159 [.inr (.inl 0)] s Q := by
  have e3 : ∀ k, s 3 k = a 3 k := fun k => congrFun (hs 3 rfl) k
  have e18 : s 18 = a 18 := hs 18 rfl
  have g3 := e3 3
  have g4 := e3 4
  have c1 := hC.1
  unfold rRedo uRedo at h
  refine N159 (B159_0 (N17 (B17_0 ⟨fun h0 => B17_20 (B159_11 ?_), fun h0 => ⟨fun h1 => B17_23 ?_, fun h1 => absurd (by omega) h1⟩⟩)))
  · rw [if_neg (by omega), if_neg (by omega)] at h
    exact h
  · rw [if_pos (by omega), if_pos (by omega)] at h
    have c2 := hC.2 (s 3 3).toNat (by omega)
    have pr := plF_R hI.1.1 hI.1.2.1 c2.1
    rw [← c2.2.1, ← e18] at pr
    refine ⟨by omega, by omega, by omega, by omega, m45 pr (B17_45 (B159_11 ?_))⟩
    show Q (some (.inl (wr (s 3 4 - wr (s 3 3 + 1))))) (zU (zU s 16 (s 18 (s 3 3).toNat).toNat (s 20 (s 3 3).toNat)) 3 3 (wr (s 3 3 + 1)))
    rw [wr_id (x := s 3 3 + 1) (by unfold zR; omega), wr_id (x := s 3 4 - (s 3 3 + 1)) (by unfold zR; omega)]
    exact zQi h (by omega)
theorem c_of {n w : Int} (hI : zFolk a) (hD : zDed a) (hs : zSim a s) (h : Q (some (.inl (rOf a n w))) s) : zE x (d + 3) 125 [.inr (.inl 0), .inl n, .inl w] s Q := by
  have e30 : s 30 = a 30 := hs 30 rfl
  have e31 : s 31 = a 31 := hs 31 rfl
  have e32 : s 32 = a 32 := hs 32 rfl
  have i1 := hI.1.1
  have i2 := hI.1.2.1
  have pk := plF_ok (n := n) (w := w) hI.1.1 hI.1.2.1
  unfold rOf at h
  refine N125 (B125_0 (m118 (B125_7 ⟨fun h0 => B125_37 ?_, fun h0 => m43 hI.1 hs (B125_19 ⟨fun h1 => B125_28 ?_, fun h1 => B125_36 ?_⟩)⟩)))
  · have h0 : ¬ (0 ≤ w ∧ w ≤ 12) := fun e => by rw [if_pos e] at h0; omega
    rw [if_neg h0] at h
    refine ⟨fun h1 => B125_54 (m40 hs (B125_62 ⟨fun h2 => B125_69 ⟨fun e => absurd e (by omega), fun _ => ⟨fun e => absurd e (by omega), fun _ => ⟨fun h3 => B125_118 (m25 (by omega) (B125_126 (zQi h ?_))), fun h3 => ⟨fun h4 => B125_127 (m26 (by omega) (B125_135 (zQi h ?_))), fun h4 => B125_136 (zQi h ?_)⟩⟩⟩⟩, fun h2 => zQi h ?_⟩)), fun h1 => m41 hs (B125_51 (B125_62 ⟨fun h2 => B125_69 ⟨fun h3 => B125_100 (m42 hI hs (by omega) (B125_108 (zQi h ?_))), fun h3 => ⟨fun h4 => B125_109 (m27 (by omega) (B125_117 (zQi h ?_))), fun h4 => ⟨fun e => absurd e (by omega), fun _ => ⟨fun e => absurd e (by omega), fun _ => B125_136 (zQi h ?_)⟩⟩⟩⟩, fun h2 => zQi h ?_⟩))⟩
    · rw [if_neg (by omega), if_neg (by omega), if_pos h3, if_pos (by omega), e30]
      exact (hD.1 n.toNat (by omega)).1.symm
    · rw [if_neg (by omega), if_neg (by omega), if_neg h3, if_pos h4, if_pos (by omega), e31]
      exact (hD.1 n.toNat (by omega)).2.symm
    · rw [if_neg (by omega), if_neg (by omega), if_neg h3, if_neg h4]
    · rw [if_neg (by omega), if_neg (by omega), if_neg (show ¬ isCh a n by omega), if_neg (show ¬ isCh a n by omega), ite_self, ite_self]
    · rw [if_pos h3, if_pos (by omega)]
    · rw [if_neg h3, if_pos h4, if_pos (by omega), e32]
      exact (hD.2.1 n.toNat (by omega)).symm
    · rw [if_neg h3, if_neg h4, if_neg (by omega), if_neg (by omega)]
    · rw [if_neg (show ¬ isSp a n by omega), if_neg (show ¬ isSp a n by omega), if_neg (show ¬ w = 15 by omega), if_neg (show ¬ w = 16 by omega), ite_self, ite_self]
  · have h0 : 0 ≤ w ∧ w ≤ 12 := Decidable.not_not.mp (fun e => by rw [if_neg e] at h0; omega)
    have hw := pk.mp h1
    rw [if_pos h0, if_pos hw] at h
    exact m44 hs (plF_R hI.1.1 hI.1.2.1 hw) (B125_36 (zQi h (hI.2.1 w n hw).1.symm))
  · have h0 : 0 ≤ w ∧ w ≤ 12 := Decidable.not_not.mp (fun e => by rw [if_neg e] at h0; omega)
    rw [if_pos h0, if_neg (fun e => h1 (pk.mpr e))] at h
    exact h
theorem c_count {w : Int} (hI : zFolk a) (hC : zChg a) (hB : zBod a) (hT : zTrc a) (h1 : a 1 1 = a 42 24) (hs : zSim a s) (h : Q (some (.inl (rCount a w))) s) : zE x (d + 2) 169 [.inr (.inl 0), .inl w] s Q := by
  have e1 : s 1 1 = a 1 1 := congrFun (hs 1 rfl) 1
  have e3 : s 3 3 = a 3 3 := congrFun (hs 3 rfl) 3
  have e9 : s 9 1 = a 9 1 := congrFun (hs 9 rfl) 1
  have e93 : s 9 3 = a 9 3 := congrFun (hs 9 rfl) 3
  have h := fun v (e : rCount a w = v) => zQi h e
  unfold rCount at h
  refine N169 (B169_0 ⟨fun h0 => B169_40 (m38 hs (B169_47 (h _ ?_))), fun h0 => ⟨fun h1 => B169_48 (m39 hs (B169_55 (h _ ?_))), fun h1 => ⟨fun h2 => B169_56 (N58 (B58_0 (B169_63 (h _ ?_)))), fun h2 => ⟨fun h3 => B169_64 (N13 (B13_0 (B169_71 (h _ ?_)))), fun h3 => ⟨fun h4 => B169_72 (N0 (B0_0 (B169_79 (h _ ?_)))), fun h4 => ⟨fun h5 => B169_80 (N1 (B1_0 (B169_87 (h _ ?_)))), fun h5 => B169_88 (h _ ?_)⟩⟩⟩⟩⟩⟩)
  · rw [if_pos h0]; exact hI.1.2.2.1
  · rw [if_neg h0, if_pos h1]; exact hI.1.2.2.2
  · rw [if_neg h0, if_neg h1, if_pos h2]; omega
  · rw [if_neg h0, if_neg h1, if_neg h2, if_pos h3, e3]; exact hC.1.1.symm
  · rw [if_neg h0, if_neg h1, if_neg h2, if_neg h3, if_pos h4, e9]; exact hB.1.symm
  · rw [if_neg h0, if_neg h1, if_neg h2, if_neg h3, if_neg h4, if_pos h5, e93]; exact hT.1.symm
  · rw [if_neg h0, if_neg h1, if_neg h2, if_neg h3, if_neg h4, if_neg h5]
end ZMend
