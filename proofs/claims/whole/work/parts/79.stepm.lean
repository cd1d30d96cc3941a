/-! mend, undo, redo: class and reference answer alike, what holds between calls stays -/
section ZStepM
variable {x : List Int} {s : zSt} {Q : zQ}
theorem numF_all {a b : zSt} (h : ∀ q, 43 ≤ q → q ≤ 52 → b q = a q) (h42 : ∀ k, k = 13 ∨ k = 14 ∨ k = 15 ∨ k = 16 → b 42 k = a 42 k) {w n : Int} : numF b w n = numF a w n := numF_cong (fun _ => by rw [h 43 (by omega) (by omega)]) (fun _ => by rw [h 44 (by omega) (by omega)]) (fun _ => by rw [h 45 (by omega) (by omega)]) (fun _ => by rw [h 46 (by omega) (by omega)]) (fun _ => by rw [h 48 (by omega) (by omega)]) (fun _ => by rw [h 49 (by omega) (by omega)]) (fun _ => by rw [h 50 (by omega) (by omega)]) (fun _ => by rw [h 51 (by omega) (by omega)]) (fun _ => by rw [h 52 (by omega) (by omega)]) (fun _ => h42 13 (by omega)) (fun _ => h42 14 (by omega)) (fun _ => h42 15 (by omega)) (fun _ => h42 16 (by omega))
theorem setF_K {L K : List Nat} {a t : zSt} {w n v : Int} (h : zFK L K a t) (hL : [43, 44, 45, 46, 47, 48, 49, 50, 51, 52].all (fun q => L.contains q) = true) (hK : [13, 14, 15, 16].all (fun k => K.contains k) = true) : zFK L K a (setF t w n v) := setF_P (P := fun u => zFK L K a u) (fun q j hq hj => by
  by_cases e : q = 42
  · rw [e]
    refine h.V (List.all_eq_true.mp hK j ?_) v
    have := hj e
    simp only [List.mem_cons, List.not_mem_nil, or_false]
    exact this
  · refine h.U e (List.all_eq_true.mp hL q ?_) j v
    simp only [List.mem_cons, List.not_mem_nil, or_false]
    omega)
theorem setF_47 {t : zSt} {w n v : Int} : setF t w n v 47 = t 47 := by
  unfold setF
  by_cases e0 : w = 0
  · rw [if_pos e0]
    rfl
  rw [if_neg e0]
  by_cases e1 : w = 1
  · rw [if_pos e1]
    rfl
  rw [if_neg e1]
  by_cases e2 : w = 2
  · rw [if_pos e2]
    rfl
  rw [if_neg e2]
  by_cases e3 : w = 3
  · rw [if_pos e3]
    rfl
  rw [if_neg e3]
  by_cases e4 : w = 4
  · rw [if_pos e4]
    rfl
  rw [if_neg e4]
  by_cases e5 : w = 5
  · rw [if_pos e5]
    rfl
  rw [if_neg e5]
  by_cases e6 : w = 6
  · rw [if_pos e6]
    rfl
  rw [if_neg e6]
  by_cases e7 : w = 7
  · rw [if_pos e7]
    rfl
  rw [if_neg e7]
  by_cases e8 : w = 8
  · rw [if_pos e8]
    rfl
  rw [if_neg e8]
  by_cases e9 : w = 9
  · rw [if_pos e9]
    rfl
  rw [if_neg e9]
  by_cases e10 : w = 10
  · rw [if_pos e10]
    rfl
  rw [if_neg e10]
  by_cases e11 : w = 11
  · rw [if_pos e11]
    rfl
  rw [if_neg e11]
  rfl
abbrev zMdL : List Nat := [2, 3, 16, 17, 18, 19, 20, 43, 44, 45, 46, 47, 48, 49, 50, 51, 52, 53, 54, 55, 56]
abbrev zMdK : List Nat := [1, 6, 13, 14, 15, 16, 17, 18]
theorem st_undo (hI : zInv s) (h : ∀ (ans : Int) s1, zAns x 180 [.inr (.inl 42)] (.inl ans) s1 → Q (some (.inl ans)) s1) : zE x 64 158 [.inr (.inl 0)] s Q := by
  have m1 : ∀ q, 42 ≤ q → uUndo s q = s q := fun q hq => by
    unfold uUndo
    split
    · rw [zU_ne (by omega), zU_ne (by omega)]
    · rfl
  refine c_undo hI.folk hI.chg zFr.rf (h _ _ (fun Q2 kk => e_undo (a := s) hI.folk hI.chg (zSimM_of m1) (kk _ ?_)))
  obtain ⟨⟨c1, c2, c3, c4, c5⟩, ce⟩ := hI.chg
  by_cases hc : 0 < s 3 3
  · have e1 : uUndo s = zU (zU s 3 3 (s 3 3 - 1)) 16 (s 18 (s 3 3 - 1).toNat).toNat (s 19 (s 3 3 - 1).toNat) := if_pos hc
    obtain ⟨k1, k2, k3, k4, k5, k6⟩ := ce (s 3 3 - 1).toNat (by omega)
    have e2 : vUndo (uUndo s) = setF (zU (zU (uUndo s) 42 17 (s 42 17 - 1)) 42 18 (s 42 18 + 1)) (s 53 (s 3 3 - 1).toNat) (s 54 (s 3 3 - 1).toNat) (s 55 (s 3 3 - 1).toNat) := by
      unfold vUndo
      rw [m1 42 (by decide), m1 53 (by decide), m1 54 (by decide), m1 55 (by decide), if_pos (by omega), ← c1]
    rw [e2]
    generalize hw : s 53 (s 3 3 - 1).toNat = w at *
    generalize hn : s 54 (s 3 3 - 1).toNat = n at *
    generalize hv : s 55 (s 3 3 - 1).toNat = v at *
    generalize hX : zU (zU (uUndo s) 42 17 (s 42 17 - 1)) 42 18 (s 42 18 + 1) = X
    have FX : zFK zMdL zMdK s X := by
      rw [← hX, e1]
      exact (((zFK.rf.U (by decide) rfl _ _).U (by decide) rfl _ _).V rfl _).V rfl _
    have F := setF_K (w := w) (n := n) (v := v) FX rfl rfl
    have xq : ∀ q, q ≠ 3 → q ≠ 16 → q ≠ 42 → X q = s q := fun q h3 h16 h42 => by rw [← hX, zU_ne h42, zU_ne h42, e1, zU_ne h16, zU_ne h3]
    have x42 : ∀ k, k ≠ 17 → k ≠ 18 → X 42 k = s 42 k := fun k h17 h18 => by
      rw [← hX, zU_at]
      show (if k = 18 then _ else (if k = 17 then _ else uUndo s 42 k)) = _
      rw [if_neg h18, if_neg h17, m1 42 (by decide)]
    have x16 : ∀ j, X 16 j = if j = (s 18 (s 3 3 - 1).toNat).toNat then s 19 (s 3 3 - 1).toNat else s 16 j := fun j => by
      rw [← hX, e1]
      rfl
    have x3 : ∀ j, X 3 j = if j = 3 then s 3 3 - 1 else s 3 j := fun j => by
      rw [← hX, e1]
      rfl
    have so : ∀ q, ¬ (42 ≤ q ∧ q ≤ 52) → setF X w n v q = X q := fun q hq => setF_o hq
    refine hI.folks F ?_ ?_ (by rw [so 2 (by omega), xq 2 (by decide) (by decide) (by decide)]; exact Int.le_refl _)
    · refine folk_set (w := w) (n := n) (v := v) hI.folk k1 k5 ?_ ?_ ?_ ?_ ?_ (fun j => ?_) (fun w' n' h' => ?_)
      · rw [so 2 (by omega), xq 2 (by decide) (by decide) (by decide)]
      · rw [so 17 (by omega), xq 17 (by decide) (by decide) (by decide)]
      · rw [setF_47, xq 47 (by decide) (by decide) (by decide)]
      · rw [setF_42 (by decide), x42 1 (by decide) (by decide)]
      · rw [setF_42 (by decide), x42 6 (by decide) (by decide)]
      · rw [so 16 (by omega), x16, k2, k3]
      · rw [setF_num k1 h', numF_all (a := s) (fun q h1 h2 => xq q (by omega) (by omega) (by omega)) (fun k hk => x42 k (by omega) (by omega))]
    · unfold zChg
      rw [so 2 (by omega), so 3 (by omega), so 18 (by omega), so 19 (by omega), so 20 (by omega), so 53 (by omega), so 54 (by omega), so 55 (by omega), so 56 (by omega), setF_42 (by decide), setF_42 (by decide), xq 2 (by decide) (by decide) (by decide), xq 18 (by decide) (by decide) (by decide), xq 19 (by decide) (by decide) (by decide), xq 20 (by decide) (by decide) (by decide), xq 53 (by decide) (by decide) (by decide), xq 54 (by decide) (by decide) (by decide), xq 55 (by decide) (by decide) (by decide), xq 56 (by decide) (by decide) (by decide)]
      have x17 : X 42 17 = s 42 17 - 1 := by rw [← hX]; rfl
      have x18 : X 42 18 = s 42 18 + 1 := by rw [← hX]; rfl
      have x33 : X 3 3 = s 3 3 - 1 := x3 3
      have x34 : X 3 4 = s 3 4 := x3 4
      rw [x17, x18, x33, x34]
      exact ⟨by omega, ce⟩
  · have e1 : uUndo s = s := if_neg hc
    have e2 : vUndo s = s := if_neg (by omega)
    rw [e1, e2]
    exact hI
theorem st_redo (hI : zInv s) (h : ∀ (ans : Int) s1, zAns x 181 [.inr (.inl 42)] (.inl ans) s1 → Q (some (.inl ans)) s1) : zE x 64 159 [.inr (.inl 0)] s Q := by
  have m1 : ∀ q, 42 ≤ q → uRedo s q = s q := fun q hq => by
    unfold uRedo
    split
    · rw [zU_ne (by omega), zU_ne (by omega)]
    · rfl
  refine c_redo hI.folk hI.chg zFr.rf (h _ _ (fun Q2 kk => e_redo (a := s) hI.folk hI.chg (zSimM_of m1) (kk _ ?_)))
  obtain ⟨⟨c1, c2, c3, c4, c5⟩, ce⟩ := hI.chg
  by_cases hc : s 3 3 < s 3 4
  · have e1 : uRedo s = zU (zU s 16 (s 18 (s 3 3).toNat).toNat (s 20 (s 3 3).toNat)) 3 3 (s 3 3 + 1) := if_pos hc
    obtain ⟨k1, k2, k3, k4, k5, k6⟩ := ce (s 3 3).toNat (by omega)
    have e2 : vRedo (uRedo s) = zU (zU (setF (uRedo s) (s 53 (s 3 3).toNat) (s 54 (s 3 3).toNat) (s 56 (s 3 3).toNat)) 42 17 (s 42 17 + 1)) 42 18 (s 42 18 - 1) := by
      unfold vRedo
      rw [m1 42 (by decide), m1 53 (by decide), m1 54 (by decide), m1 56 (by decide), if_pos (by omega), ← c1]
    rw [e2]
    generalize hw : s 53 (s 3 3).toNat = w at *
    generalize hn : s 54 (s 3 3).toNat = n at *
    generalize hv : s 56 (s 3 3).toNat = v at *
    generalize hX : uRedo s = X at *
    have FX : zFK zMdL zMdK s X := by
      rw [e1]
      exact (zFK.rf.U (by decide) rfl _ _).U (by decide) rfl _ _
    have F := ((setF_K (w := w) (n := n) (v := v) FX rfl rfl).V (by rfl : zMdK.contains 17 = true) (s 42 17 + 1)).V (by rfl : zMdK.contains 18 = true) (s 42 18 - 1)
    have xq : ∀ q, q ≠ 3 → q ≠ 16 → X q = s q := fun q h3 h16 => by rw [e1, zU_ne h3, zU_ne h16]
    have x16 : ∀ j, X 16 j = if j = (s 18 (s 3 3).toNat).toNat then s 20 (s 3 3).toNat else s 16 j := fun j => by
      rw [e1]
      rfl
    have x3 : ∀ j, X 3 j = if j = 3 then s 3 3 + 1 else s 3 j := fun j => by
      rw [e1]
      rfl
    generalize hY : zU (zU (setF X w n v) 42 17 (s 42 17 + 1)) 42 18 (s 42 18 - 1) = Y at *
    have yq : ∀ q, q ≠ 42 → Y q = setF X w n v q := fun q hq => by rw [← hY, zU_ne hq, zU_ne hq]
    have y42 : ∀ k, k ≠ 17 → k ≠ 18 → Y 42 k = setF X w n v 42 k := fun k h17 h18 => by
      rw [← hY]
      show (if k = 18 then _ else (if k = 17 then _ else setF X w n v 42 k)) = _
      rw [if_neg h18, if_neg h17]
    have so : ∀ q, ¬ (42 ≤ q ∧ q ≤ 52) → Y q = X q := fun q hq => (yq q (by omega)).trans (setF_o hq)
    have yn : ∀ w' n', numF Y w' n' = numF (setF X w n v) w' n' := fun w' n' => numF_all (fun q h1 _ => yq q (by omega)) (fun k hk => y42 k (by omega) (by omega))
    refine hI.folks F ?_ ?_ (by rw [so 2 (by omega), xq 2 (by decide) (by decide)]; exact Int.le_refl _)
    · refine folk_set (w := w) (n := n) (v := v) hI.folk k1 k6 ?_ ?_ ?_ ?_ ?_ (fun j => ?_) (fun w' n' h' => ?_)
      · rw [so 2 (by omega), xq 2 (by decide) (by decide)]
      · rw [so 17 (by omega), xq 17 (by decide) (by decide)]
      · rw [yq 47 (by decide), setF_47, xq 47 (by decide) (by decide)]
      · rw [y42 1 (by decide) (by decide), setF_42 (by decide), xq 42 (by decide) (by decide)]
      · rw [y42 6 (by decide) (by decide), setF_42 (by decide), xq 42 (by decide) (by decide)]
      · rw [so 16 (by omega), x16, k2, k4]
      · rw [yn, setF_num k1 h', numF_all (a := s) (fun q h1 h2 => xq q (by omega) (by omega)) (fun k hk => by rw [xq 42 (by decide) (by decide)])]
    · unfold zChg
      have x17 : Y 42 17 = s 42 17 + 1 := by rw [← hY]; rfl
      have x18 : Y 42 18 = s 42 18 - 1 := by rw [← hY]; rfl
      have x33 : X 3 3 = s 3 3 + 1 := x3 3
      have x34 : X 3 4 = s 3 4 := x3 4
      rw [so 2 (by omega), so 3 (by omega), so 18 (by omega), so 19 (by omega), so 20 (by omega), so 53 (by omega), so 54 (by omega), so 55 (by omega), so 56 (by omega), xq 2 (by decide) (by decide), xq 18 (by decide) (by decide), xq 19 (by decide) (by decide), xq 20 (by decide) (by decide), xq 53 (by decide) (by decide), xq 54 (by decide) (by decide), xq 55 (by decide) (by decide), xq 56 (by decide) (by decide), x17, x18, x33, x34]
      exact ⟨by omega, ce⟩
  · have e1 : uRedo s = s := if_neg hc
    have e2 : vRedo s = s := if_neg (by omega)
    rw [e1, e2]
    exact hI
/-- a mending, as both lay it by -/
theorem mend_chg {b : zSt} {w n v P old : Int} {j0 sh : Nat} (hC : zChg s) (hok : zOkN (s 2 3) (s 2 4) w n) (hP : P = plF (s 2 3) (s 2 4) n w) (hold : zLEAST.getD w.toNat 0 ≤ old ∧ old ≤ zMOST.getD w.toNat 0) (hv : zLEAST.getD w.toNat 0 ≤ v ∧ v ≤ zMOST.getD w.toNat 0) (hj : j0 < 40 ∧ ((j0 + sh : Nat) : Int) ≤ s 3 4) (b2 : b 2 = s 2) (b33 : b 3 3 = j0 + 1) (b34 : b 3 4 = j0 + 1) (b17 : b 42 17 = j0 + 1) (b18 : b 42 18 = 0)
    (o : ∀ k, k < j0 → b 18 k = s 18 (k + sh) ∧ b 19 k = s 19 (k + sh) ∧ b 20 k = s 20 (k + sh) ∧ b 53 k = s 53 (k + sh) ∧ b 54 k = s 54 (k + sh) ∧ b 55 k = s 55 (k + sh) ∧ b 56 k = s 56 (k + sh))
    (e : b 18 j0 = P ∧ b 19 j0 = old ∧ b 20 j0 = v ∧ b 53 j0 = w ∧ b 54 j0 = n ∧ b 55 j0 = old ∧ b 56 j0 = v) : zChg b := by
  refine ⟨by rw [b33, b34, b17, b18]; omega, fun k hk => ?_⟩
  rw [b34] at hk
  rw [b2]
  by_cases ek : k = j0
  · rw [ek, e.1, e.2.1, e.2.2.1, e.2.2.2.1, e.2.2.2.2.1, e.2.2.2.2.2.1, e.2.2.2.2.2.2]
    exact ⟨hok, hP, rfl, rfl, hold, hv⟩
  · obtain ⟨o1, o2, o3, o4, o5, o6, o7⟩ := o k (by omega)
    rw [o1, o2, o3, o4, o5, o6, o7]
    exact hC.2 (k + sh) (by omega)
theorem cpF_1 {f g : Nat → Int} {k : Nat} (h : k < 39) : zCpF f g 1 0 39 k = f (k + 1) := by
  unfold zCpF
  rw [if_pos (by omega), show 1 + (k - 0) = k + 1 by omega]
theorem st_mend {n w v : Int} (hI : zInv s) (h : ∀ (ans : Int) s1, zAns x 184 [.inr (.inl 42), .inl n, .inl w, .inl v] (.inl ans) s1 → Q (some (.inl ans)) s1) : zE x 64 124 [.inr (.inl 0), .inl n, .inl w, .inl v] s Q := by
  obtain ⟨⟨c1, c2, c3, c4, c5⟩, ce⟩ := hI.chg
  have m1 : ∀ q, 42 ≤ q → uMend s s n w v q = s q := fun q hq => by
    unfold uMend addC drpC
    split
    · rw [zU_ne (by omega), zU_ne (by omega), zU_ne (by omega), zU_ne (by omega), zU_ne (by omega)]
      split
      · rw [zU_ne (by omega)]
      · rw [zU_ne (by omega), zF_ne (by omega), zF_ne (by omega), zF_ne (by omega), zU_ne (by omega)]
    · rfl
  refine c_mend hI.folk hI.chg zFr.rf (h _ _ (fun Q2 kk => e_mend (a := s) hI.folk (by omega) (zSimM_of m1) (fun s2 hs2 => kk s2 ?_)))
  rcases hs2 with ⟨hok, hne, t, ht, hs2⟩ | ⟨hn, hs2⟩
  · have e1 : uMend s s n w v = addC (drpC (zU s 16 (plF (s 2 3) (s 2 4) n w).toNat v)) (plF (s 2 3) (s 2 4) n w) (numF s w n) v := if_pos ⟨hok, hne⟩
    have old := (hI.folk.2.1 w n hok.1).2
    generalize hP : plF (s 2 3) (s 2 4) n w = P at *
    generalize hO : numF s w n = O at *
    generalize hs1 : uMend s s n w v = s1 at *
    have s142 : s1 42 = s 42 := m1 42 (by decide)
    -- the class's rows
    have A : ∃ j0 sh : Nat, ((s 3 3 < 40 ∧ j0 = (s 3 3).toNat ∧ sh = 0) ∨ (¬ s 3 3 < 40 ∧ j0 = 39 ∧ sh = 1)) ∧ s1 3 3 = j0 + 1 ∧ s1 3 4 = j0 + 1 ∧ (∀ k, k < j0 → s1 18 k = s 18 (k + sh) ∧ s1 19 k = s 19 (k + sh) ∧ s1 20 k = s 20 (k + sh)) ∧ (s1 18 j0 = P ∧ s1 19 j0 = O ∧ s1 20 j0 = v) ∧ (∀ q, q ≠ 3 → q ≠ 16 → q ≠ 18 → q ≠ 19 → q ≠ 20 → s1 q = s q) ∧ (∀ j, s1 16 j = if j = P.toNat then v else s 16 j) ∧ zFK zMdL zMdK s s1 := by
      by_cases h40 : s 3 3 < 40
      · have ed : drpC (zU s 16 P.toNat v) = zU s 16 P.toNat v := if_pos h40
        rw [ed] at e1
        have e1 : s1 = zU (zU (zU (zU (zU (zU s 16 P.toNat v) 18 (s 3 3).toNat P) 19 (s 3 3).toNat O) 20 (s 3 3).toNat v) 3 3 (s 3 3 + 1)) 3 4 (s 3 3 + 1) := e1
        refine ⟨(s 3 3).toNat, 0, Or.inl ⟨h40, rfl, rfl⟩, ?_, ?_, fun k hk => ?_, ?_, fun q h3 h16 h18 h19 h20 => ?_, fun j => ?_, ?_⟩
        · rw [e1]
          show s 3 3 + 1 = _
          omega
        · rw [e1]
          show s 3 3 + 1 = _
          omega
        · rw [e1]
          show (if k = (s 3 3).toNat then _ else s 18 k) = _ ∧ (if k = (s 3 3).toNat then _ else s 19 k) = _ ∧ (if k = (s 3 3).toNat then _ else s 20 k) = _
          rw [if_neg (by omega), if_neg (by omega), if_neg (by omega)]
          exact ⟨rfl, rfl, rfl⟩
        · rw [e1]
          exact ⟨if_pos rfl, if_pos rfl, if_pos rfl⟩
        · rw [e1, zU_ne h3, zU_ne h3, zU_ne h20, zU_ne h19, zU_ne h18, zU_ne h16]
        · rw [e1]
          rfl
        · rw [e1]
          exact (((((zFK.rf.U (by decide) rfl _ _).U (by decide) rfl _ _).U (by decide) rfl _ _).U (by decide) rfl _ _).U (by decide) rfl _ _).U (by decide) rfl _ _
      · have ed : drpC (zU s 16 P.toNat v) = zU (zF (zF (zF (zU s 16 P.toNat v) 18 (zCpF (s 18) (s 18) 1 0 39)) 19 (zCpF (s 19) (s 19) 1 0 39)) 20 (zCpF (s 20) (s 20) 1 0 39)) 3 3 39 := if_neg h40
        rw [ed] at e1
        have e1 : s1 = zU (zU (zU (zU (zU (zU (zF (zF (zF (zU s 16 P.toNat v) 18 (zCpF (s 18) (s 18) 1 0 39)) 19 (zCpF (s 19) (s 19) 1 0 39)) 20 (zCpF (s 20) (s 20) 1 0 39)) 3 3 39) 18 39 P) 19 39 O) 20 39 v) 3 3 (39 + 1)) 3 4 (39 + 1) := e1
        refine ⟨39, 1, Or.inr ⟨h40, rfl, rfl⟩, ?_, ?_, fun k hk => ?_, ?_, fun q h3 h16 h18 h19 h20 => ?_, fun j => ?_, ?_⟩
        · rw [e1]
          rfl
        · rw [e1]
          rfl
        · rw [e1]
          show (if k = 39 then _ else zCpF (s 18) (s 18) 1 0 39 k) = _ ∧ (if k = 39 then _ else zCpF (s 19) (s 19) 1 0 39 k) = _ ∧ (if k = 39 then _ else zCpF (s 20) (s 20) 1 0 39 k) = _
          rw [if_neg (by omega), if_neg (by omega), if_neg (by omega), cpF_1 hk, cpF_1 hk, cpF_1 hk]
          exact ⟨rfl, rfl, rfl⟩
        · rw [e1]
          exact ⟨rfl, rfl, rfl⟩
        · rw [e1, zU_ne h3, zU_ne h3, zU_ne h20, zU_ne h19, zU_ne h18, zU_ne h3, zF_ne h20, zF_ne h19, zF_ne h18, zU_ne h16]
        · rw [e1]
          rfl
        · rw [e1]
          exact (((((((((zFK.rf.U (by decide) rfl _ _).F (by decide) rfl _).F (by decide) rfl _).F (by decide) rfl _).U (by decide) rfl _ _).U (by decide) rfl _ _).U (by decide) rfl _ _).U (by decide) rfl _ _).U (by decide) rfl _ _).U (by decide) rfl _ _
    obtain ⟨j0, sh, hj, a33, a34, ao, ae, aq, a16, F1⟩ := A
    -- the reference's rows
    have B : t 42 17 = j0 ∧ t 42 18 = 0 ∧ (∀ k, k ≠ 17 → k ≠ 18 → t 42 k = s 42 k) ∧ (∀ q, q ≠ 42 → ¬ (53 ≤ q ∧ q ≤ 56) → t q = s1 q) ∧ (∀ k, k < j0 → t 53 k = s 53 (k + sh) ∧ t 54 k = s 54 (k + sh) ∧ t 55 k = s 55 (k + sh) ∧ t 56 k = s 56 (k + sh)) ∧ zFK zMdL zMdK s1 t := by
      rcases ht with ⟨h40, rfl⟩ | ⟨h40, ft, sft⟩
      · rw [s142] at h40
        refine ⟨?_, rfl, fun k h17 h18 => ?_, fun q hq _ => zU_ne hq _ _ _, fun k hk => ?_, zFK.rf.V rfl _⟩
        · show s1 42 17 = _
          rw [s142]
          omega
        · show (if k = 18 then _ else s1 42 k) = _
          rw [if_neg h18, s142]
        · have e0 : sh = 0 := by omega
          rw [e0, zU_ne (by decide), zU_ne (by decide), zU_ne (by decide), zU_ne (by decide), m1 53 (by decide), m1 54 (by decide), m1 55 (by decide), m1 56 (by decide)]
          exact ⟨rfl, rfl, rfl, rfl⟩
      · rw [s142] at h40
        have e39 : j0 = 39 := by omega
        refine ⟨?_, ?_, fun k h17 h18 => ?_, fun q hq h53 => ?_, fun k hk => ?_, ((zFK.rf.V (by rfl : zMdK.contains 18 = true) 0).V (by rfl : zMdK.contains 17 = true) 39).tr ((zFr.K ft rfl).le _ _ rfl rfl)⟩
        · rw [ft 42 rfl, e39]
          rfl
        · rw [ft 42 rfl]
          rfl
        · rw [ft 42 rfl]
          show (if k = 17 then _ else (if k = 18 then _ else s1 42 k)) = _
          rw [if_neg h17, if_neg h18, s142]
        · rw [ft q (by
            simp only [List.contains_cons, List.contains_nil, Bool.or_false, Bool.or_eq_false_iff, beq_eq_false_iff_ne]
            omega), zU_ne hq, zU_ne hq]
        · have e0 : sh = 1 := by omega
          rw [e0, ← m1 53 (by decide), ← m1 54 (by decide), ← m1 55 (by decide), ← m1 56 (by decide)]
          exact sft k (by omega)
    obtain ⟨b17, b18, b42, bq, bo, F2⟩ := B
    have eX : addM t w n O v = zU (zU (zU (zU (zU t 53 j0 w) 54 j0 n) 55 j0 O) 56 j0 v) 42 17 (j0 + 1) := by
      unfold addM
      rw [b17, Int.toNat_natCast]
    rw [eX] at hs2
    generalize hX : zU (zU (zU (zU (zU t 53 j0 w) 54 j0 n) 55 j0 O) 56 j0 v) 42 17 ((j0 : Int) + 1) = X at *
    have FX : zFK zMdL zMdK s X := (F1.tr F2).tr (by
      rw [← hX]
      exact ((((zFK.rf.U (by decide) rfl _ _).U (by decide) rfl _ _).U (by decide) rfl _ _).U (by decide) rfl _ _).V rfl _)
    have F := setF_K (w := w) (n := n) (v := v) FX rfl rfl
    rw [← hs2] at F
    have xq : ∀ q, q ≠ 42 → ¬ (53 ≤ q ∧ q ≤ 56) → X q = s1 q := fun q h42 h53 => by
      rw [← hX, zU_ne h42, zU_ne (by omega), zU_ne (by omega), zU_ne (by omega), zU_ne (by omega)]
      exact bq q h42 h53
    have x42 : ∀ k, k ≠ 17 → k ≠ 18 → X 42 k = s 42 k := fun k h17 h18 => by
      rw [← hX]
      show (if k = 17 then _ else t 42 k) = _
      rw [if_neg h17]
      exact b42 k h17 h18
    have so : ∀ q, ¬ (42 ≤ q ∧ q ≤ 52) → s2 q = X q := fun q hq => by
      rw [hs2]
      exact setF_o hq
    have sq : ∀ q, q ≠ 42 → ¬ (53 ≤ q ∧ q ≤ 56) → q ≠ 3 → q ≠ 16 → q ≠ 18 → q ≠ 19 → q ≠ 20 → X q = s q := fun q h1 h2 h3 h4 h5 h6 h7 => (xq q h1 h2).trans (aq q h3 h4 h5 h6 h7)
    refine hI.folks F ?_ ?_ (by rw [so 2 (by omega), sq 2 (by decide) (by decide) (by decide) (by decide) (by decide) (by decide) (by decide)]; exact Int.le_refl _)
    · refine folk_set (w := w) (n := n) (v := v) hI.folk hok.1 hok.2 ?_ ?_ ?_ ?_ ?_ (fun j => ?_) (fun w' n' h' => ?_)
      · rw [so 2 (by omega), sq 2 (by decide) (by decide) (by decide) (by decide) (by decide) (by decide) (by decide)]
      · rw [so 17 (by omega), sq 17 (by decide) (by decide) (by decide) (by decide) (by decide) (by decide) (by decide)]
      · rw [hs2, setF_47, sq 47 (by decide) (by decide) (by decide) (by decide) (by decide) (by decide) (by decide)]
      · rw [hs2, setF_42 (by decide), x42 1 (by decide) (by decide)]
      · rw [hs2, setF_42 (by decide), x42 6 (by decide) (by decide)]
      · rw [so 16 (by omega), xq 16 (by decide) (by decide), a16, hP]
      · rw [hs2, setF_num hok.1 h', numF_all (a := s) (fun q h1 h2 => sq q (by omega) (by omega) (by omega) (by omega) (by omega) (by omega) (by omega)) (fun k hk => x42 k (by omega) (by omega))]
    · have x5 : ∀ q k, (q = 53 ∨ q = 54 ∨ q = 55 ∨ q = 56) → k ≠ j0 → X q k = t q k := fun q k hq hk => by
        rw [← hX]
        rcases hq with rfl | rfl | rfl | rfl
        · exact if_neg hk
        · exact if_neg hk
        · exact if_neg hk
        · exact if_neg hk
      refine mend_chg (w := w) (n := n) (v := v) (P := P) (old := O) (j0 := j0) (sh := sh) hI.chg hok.1 hP.symm old hok.2 (by omega) ?_ ?_ ?_ ?_ ?_ (fun k hk => ?_) ?_
      · rw [so 2 (by omega), sq 2 (by decide) (by decide) (by decide) (by decide) (by decide) (by decide) (by decide)]
      · rw [so 3 (by omega), xq 3 (by decide) (by decide)]
        exact a33
      · rw [so 3 (by omega), xq 3 (by decide) (by decide)]
        exact a34
      · rw [hs2, setF_42 (by decide), ← hX]
        rfl
      · rw [hs2, setF_42 (by decide), ← hX]
        exact b18
      · rw [so 18 (by omega), so 19 (by omega), so 20 (by omega), so 53 (by omega), so 54 (by omega), so 55 (by omega), so 56 (by omega), xq 18 (by decide) (by decide), xq 19 (by decide) (by decide), xq 20 (by decide) (by decide), x5 53 k (by omega) (by omega), x5 54 k (by omega) (by omega), x5 55 k (by omega) (by omega), x5 56 k (by omega) (by omega)]
        have a := ao k hk
        have b := bo k hk
        exact ⟨a.1, a.2.1, a.2.2, b.1, b.2.1, b.2.2.1, b.2.2.2⟩
      · rw [so 18 (by omega), so 19 (by omega), so 20 (by omega), so 53 (by omega), so 54 (by omega), so 55 (by omega), so 56 (by omega), xq 18 (by decide) (by decide), xq 19 (by decide) (by decide), xq 20 (by decide) (by decide)]
        refine ⟨ae.1, ae.2.1, ae.2.2, ?_, ?_, ?_, ?_⟩
        · rw [← hX]; exact if_pos rfl
        · rw [← hX]; exact if_pos rfl
        · rw [← hX]; exact if_pos rfl
        · rw [← hX]; exact if_pos rfl
  · have e1 : uMend s s n w v = s := if_neg hn
    rw [hs2, e1]
    exact hI
end ZStepM
