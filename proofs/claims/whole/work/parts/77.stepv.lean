/-! calls that change what is kept: a new field, the image, bodies, shelves -/
theorem actL_len {κ w : Int} (h1 : 0 ≤ κ ∧ κ ≤ 7) (h2 : 0 ≤ w ∧ w ≤ 3) : (actL κ w).length ≤ 40 := by
  have a : κ = 0 ∨ κ = 1 ∨ κ = 2 ∨ κ = 3 ∨ κ = 4 ∨ κ = 5 ∨ κ = 6 ∨ κ = 7 := by omega
  have b : w = 0 ∨ w = 1 ∨ w = 2 ∨ w = 3 := by omega
  rcases a with rfl | rfl | rfl | rfl | rfl | rfl | rfl | rfl <;> rcases b with rfl | rfl | rfl | rfl <;> decide
section ZStepV
variable {x : List Int} {s : zSt} {Q : zQ}
theorem st_anew (hI : zInv s) (h : ∀ (ans : Int) s1, zAns x 254 [.inr (.inl 42)] (.inl ans) s1 → Q (some (.inl ans)) s1) : zE x 64 154 [.inr (.inl 0)] s Q := by
  refine c_anew hI.ded zFr.rf (fun s1 f1 a1 a2 a3 => h _ s1 (fun Q2 k => ?_))
  have m1 : ∀ q, 42 ≤ q → s1 q = s q := fun q hq => f1 q (by
    simp only [List.contains_cons, List.contains_nil, Bool.or_false, Bool.or_eq_false_iff, beq_eq_false_iff_ne]
    omega)
  refine e_anew (a := s) (zSimM_of m1) (fun s2 f2 b1 b2 b3 => k s2 ?_)
  have F : zFK [7, 30, 31, 32, 70, 71, 72, 73] [] s s2 := ((zFr.K f1 rfl).le _ _ rfl rfl).tr ((zFr.K f2 rfl).le _ _ rfl rfl)
  refine ⟨hI.folk.k F rfl rfl, hI.law.k F rfl rfl, hI.shv.k F rfl rfl, hI.bod.k F rfl rfl, hI.trc.k F rfl rfl, ?_, hI.img.k F rfl rfl, hI.chg.k F rfl rfl, hI.tap.k F rfl rfl, hI.row.k F rfl⟩
  obtain ⟨d1, d2, d3, d4, d5, d6, d7⟩ := hI.ded
  have r7 : s2 7 = s1 7 := f2 7 rfl
  have r73 : s1 73 = s 73 := m1 73 (by decide)
  refine ⟨fun c hc => ?_, fun p hp => ?_, ?_, ?_, ?_, ?_, ?_⟩
  · rw [f2 30 rfl, f2 31 rfl, (a1 c hc).1, (a1 c hc).2, (b1 c hc).1, (b1 c hc).2]
    exact ⟨rfl, rfl⟩
  · rw [f2 32 rfl, a2 p hp, b2 p hp]
  · rw [r7, a3, b3, if_neg (by decide), if_neg (by decide), r73, d3]
  · rw [r7, a3, b3, if_neg (by decide), if_neg (by decide), r73, d4]
  · rw [r7, a3, b3, if_pos rfl, if_pos rfl, r73, d5]
  · rw [r7, a3, b3, if_neg (by decide), if_neg (by decide), r73, d6]
  · rw [r7, a3, b3, if_neg (by decide), if_neg (by decide), r73, d7]
theorem cpF_in {f g : Nat → Int} {n k : Nat} (h : k < n) : zCpF f g 0 0 n k = f k := by
  unfold zCpF
  rw [if_pos (by omega), show 0 + (k - 0) = k by omega]
theorem st_image (hI : zInv s) (h : ∀ (ans : Int) s1, zAns x 256 [.inr (.inl 42)] (.inl ans) s1 → Q (some (.inl ans)) s1) : zE x 64 156 [.inr (.inl 0)] s Q := by
  refine c_image hI.ded zFr.rf (h _ _ (fun Q2 k => ?_))
  have u1 : zFK [0, 8, 33, 34, 35] [] s (uImage s) := ((((((((zFK.rf.F (by decide) rfl _).F (by decide) rfl _).F (by decide) rfl _).U (by decide) rfl _ _).U (by decide) rfl _ _).U (by decide) rfl _ _).U (by decide) rfl _ _).U (by decide) rfl _ _).U (by decide) rfl _ _
  have m1 : ∀ q, 42 ≤ q → uImage s q = s q := fun q hq => by
    unfold uImage
    rw [zU_ne (by omega), zU_ne (by omega), zU_ne (by omega), zU_ne (by omega), zU_ne (by omega), zU_ne (by omega), zF_ne (by omega), zF_ne (by omega), zF_ne (by omega)]
  refine e_image (a := s) (zSimM_of m1) (fun s2 f2 b1 b2 b3 => k s2 ?_)
  have F : zFK [0, 8, 33, 34, 35, 74, 75, 76] [47] s s2 := ((u1.le _ _ rfl rfl).V (by rfl) 1).tr ((zFr.K f2 rfl).le _ _ rfl rfl)
  refine ⟨hI.folk.k F rfl rfl, hI.law.k F rfl rfl, hI.shv.k F rfl rfl, hI.bod.k F rfl rfl, hI.trc.k F rfl rfl, hI.ded.k F rfl, ?_, hI.chg.k F rfl rfl, hI.tap.k F rfl rfl, hI.row.k F rfl⟩
  obtain ⟨d1, d2, d3, d4, d5, d6, d7⟩ := hI.ded
  have r33 : s2 33 = zCpF (s 30) (s 33) 0 0 6 := f2 33 rfl
  have r34 : s2 34 = zCpF (s 31) (s 34) 0 0 6 := f2 34 rfl
  have r35 : s2 35 = zCpF (s 32) (s 35) 0 0 16 := f2 35 rfl
  have r8 : ∀ j, j = 3 ∨ j = 4 ∨ j = 5 ∨ j = 6 ∨ j = 7 → s2 8 j = s 7 j := fun j hj => by
    rw [f2 8 rfl]
    rcases hj with rfl | rfl | rfl | rfl | rfl <;> rfl
  refine ⟨fun c hc => ?_, fun p hp => ?_, ⟨?_, ?_, ?_, ?_, ?_⟩, ?_⟩
  · rw [r33, r34, cpF_in hc, cpF_in hc, (b1 c hc).1, (b1 c hc).2, m1 70 (by decide), m1 71 (by decide)]
    exact d1 c hc
  · rw [r35, cpF_in hp, b2 p hp, m1 72 (by decide)]
    exact d2 p hp
  · rw [r8 3 (by omega), b3 0 (by decide), m1 73 (by decide)]
    exact d3
  · rw [r8 4 (by omega), b3 1 (by decide), m1 73 (by decide)]
    exact d4
  · rw [r8 6 (by omega), b3 2 (by decide), m1 73 (by decide)]
    exact d5
  · rw [r8 5 (by omega), b3 3 (by decide), m1 73 (by decide)]
    exact d6
  · rw [r8 7 (by omega), b3 4 (by decide), m1 73 (by decide)]
    exact d7
  · rw [f2 0 rfl, f2 42 rfl]
    rfl
theorem st_back (hI : zInv s) (h : ∀ (ans : Int) s1, zAns x 257 [.inr (.inl 42)] (.inl ans) s1 → Q (some (.inl ans)) s1) : zE x 64 157 [.inr (.inl 0)] s Q := by
  refine c_back hI.img zFr.rf (h _ _ (fun Q2 k => ?_))
  by_cases e0 : s 42 47 = 0
  · rw [if_pos e0] at k ⊢
    exact e_back (a := s) (zSim.M zFr.rf) (fun _ => k s hI) (fun e => absurd e0 e)
  · rw [if_neg e0] at k ⊢
    have u1 : zFK [7, 30, 31, 32] [] s (uBack s) := (((((((zFK.rf.F (by decide) rfl _).F (by decide) rfl _).F (by decide) rfl _).U (by decide) rfl _ _).U (by decide) rfl _ _).U (by decide) rfl _ _).U (by decide) rfl _ _).U (by decide) rfl _ _
    have m1 : ∀ q, 42 ≤ q → uBack s q = s q := fun q hq => by
      unfold uBack
      rw [zU_ne (by omega), zU_ne (by omega), zU_ne (by omega), zU_ne (by omega), zU_ne (by omega), zF_ne (by omega), zF_ne (by omega), zF_ne (by omega)]
    refine e_back (a := s) (zSimM_of m1) (fun e => absurd e e0) (fun _ s2 f2 b1 b2 b3 => k s2 ?_)
    have F : zFK [7, 30, 31, 32, 70, 71, 72, 73] [] s s2 := (u1.le _ _ rfl rfl).tr ((zFr.K f2 rfl).le _ _ rfl rfl)
    refine ⟨hI.folk.k F rfl rfl, hI.law.k F rfl rfl, hI.shv.k F rfl rfl, hI.bod.k F rfl rfl, hI.trc.k F rfl rfl, ?_, hI.img.k F rfl rfl, hI.chg.k F rfl rfl, hI.tap.k F rfl rfl, hI.row.k F rfl⟩
    obtain ⟨i1, i2, ⟨i3, i4, i5, i6, i7⟩, i8⟩ := hI.img
    have r30 : s2 30 = zCpF (s 33) (s 30) 0 0 6 := f2 30 rfl
    have r31 : s2 31 = zCpF (s 34) (s 31) 0 0 6 := f2 31 rfl
    have r32 : s2 32 = zCpF (s 35) (s 32) 0 0 16 := f2 32 rfl
    have r7 : ∀ j, j = 3 ∨ j = 4 ∨ j = 5 ∨ j = 6 ∨ j = 7 → s2 7 j = s 8 j := fun j hj => by
      rw [f2 7 rfl]
      rcases hj with rfl | rfl | rfl | rfl | rfl <;> rfl
    refine ⟨fun c hc => ?_, fun p hp => ?_, ?_, ?_, ?_, ?_, ?_⟩
    · rw [r30, r31, cpF_in hc, cpF_in hc, (b1 c hc).1, (b1 c hc).2, m1 74 (by decide)]
      exact i1 c hc
    · rw [r32, cpF_in hp, b2 p hp, m1 75 (by decide)]
      exact i2 p hp
    · rw [r7 3 (by omega), b3 0 (by decide), m1 76 (by decide)]
      exact i3
    · rw [r7 4 (by omega), b3 1 (by decide), m1 76 (by decide)]
      exact i4
    · rw [r7 6 (by omega), b3 2 (by decide), m1 76 (by decide)]
      exact i5
    · rw [r7 5 (by omega), b3 3 (by decide), m1 76 (by decide)]
      exact i6
    · rw [r7 7 (by omega), b3 4 (by decide), m1 76 (by decide)]
      exact i7
theorem st_body {k : Int} (hI : zInv s) (h : ∀ (ans : Int) s1, zAns x 261 [.inr (.inl 42), .inl k] (.inl ans) s1 → Q (some (.inl ans)) s1) : zE x 64 160 [.inr (.inl 0), .inl k] s Q := by
  refine c_body hI.bod zFr.rf (h _ _ (fun Q2 kk => ?_))
  obtain ⟨b1, b2, b3⟩ := hI.bod
  have e42 : uBody s s k 42 = s 42 := by
    unfold uBody
    split <;> rfl
  have an : rBody (uBody s s k) k = rBody s k := by
    unfold rBody
    rw [e42]
  refine e_body (a := uBody s s k) (by rw [e42]; omega) zFr.rf ?_
  rw [an]
  refine kk _ ?_
  by_cases hc : 0 ≤ k ∧ k < 8 ∧ s 42 51 < 50
  · have e1 : uBody s s k = zU (zU s 36 (s 42 51).toNat k) 9 1 (s 42 51 + 1) := if_pos hc
    have e2 : vBody (uBody s s k) (uBody s s k) k = zU (zU (zU (zU s 36 (s 42 51).toNat k) 9 1 (s 42 51 + 1)) 77 (s 42 51).toNat k) 42 51 (s 42 51 + 1) := by
      unfold vBody
      rw [e42, if_pos hc, e1]
    rw [e2]
    have F : zFK [9, 36, 77] [51] s (zU (zU (zU (zU s 36 (s 42 51).toNat k) 9 1 (s 42 51 + 1)) 77 (s 42 51).toNat k) 42 51 (s 42 51 + 1)) := (((zFK.rf.U (by decide) rfl _ _).U (by decide) rfl _ _).U (by decide) rfl _ _).V rfl _
    refine ⟨hI.folk.k F rfl rfl, hI.law.k F rfl rfl, ⟨rfl, fun i hi => ?_⟩, ⟨rfl, ⟨?_, ?_⟩, fun j hj => ?_⟩, hI.trc.eq rfl rfl rfl rfl, hI.ded.k F rfl, hI.img.k F rfl rfl, hI.chg.k F rfl rfl, hI.tap.k F rfl rfl, hI.row.k F rfl⟩
    · have v := hI.shv.2 i hi
      refine ⟨v.1, v.2.1, fun e => ?_, v.2.2.2⟩
      have w := v.2.2.1 e
      refine ⟨w.1, ?_, w.2.2⟩
      show s 40 i < s 42 51 + 1
      omega
    · show 0 ≤ s 42 51 + 1
      omega
    · show s 42 51 + 1 ≤ 50
      omega
    · have hj : (j : Int) < s 42 51 + 1 := hj
      show (if j = (s 42 51).toNat then k else s 36 j) = (if j = (s 42 51).toNat then k else s 77 j) ∧ 0 ≤ (if j = (s 42 51).toNat then k else s 36 j) ∧ (if j = (s 42 51).toNat then k else s 36 j) ≤ 7
      by_cases e : j = (s 42 51).toNat
      · rw [if_pos e, if_pos e]
        exact ⟨rfl, by omega, by omega⟩
      · rw [if_neg e, if_neg e]
        exact b3 j (by omega)
  · have e1 : uBody s s k = s := if_neg hc
    rw [e1]
    have e2 : vBody s s k = s := if_neg hc
    rw [e2]
    exact hI
theorem st_act {i w n : Int} (hI : zInv s) (h : ∀ (ans : Int) s1, zAns x 274 [.inr (.inl 42), .inl i, .inl w, .inl n] (.inl ans) s1 → Q (some (.inl ans)) s1) : zE x 64 161 [.inr (.inl 0), .inl i, .inl w, .inl n] s Q := by
  refine c_act hI.bod zFr.rf (h _ _ (fun Q2 kk => ?_))
  obtain ⟨b1, b2, b3⟩ := hI.bod
  have hl : (lAct s i w).length ≤ 40 := by
    unfold lAct
    split
    · rename_i hc
      have q := b3 i.toNat (by omega)
      exact actL_len (by omega) hc.2
    · exact Nat.zero_le _
  have u1 : zFK [9, 37] [] s (recL (zU s 9 3 0) (lAct s i w)) := ⟨fun q h0 hq => by
    simp only [List.contains_cons, List.contains_nil, Bool.or_false, Bool.or_eq_false_iff, beq_eq_false_iff_ne] at hq
    rw [recL_o _ hq, zU_ne hq.1], fun k _ => by
    rw [recL_o _ (by decide), zU_ne (by decide)]⟩
  have m1 : ∀ q, 42 ≤ q → recL (zU s 9 3 0) (lAct s i w) q = s q := fun q hq => by rw [recL_o _ (by omega), zU_ne (by omega)]
  have r91 : recL (zU s 9 3 0) (lAct s i w) 9 1 = s 9 1 := by rw [recL_9 _ (by decide)]; rfl
  have r93 : recL (zU s 9 3 0) (lAct s i w) 9 3 = (lAct s i w).length := by
    have k := recL_n (lAct s i w) (s := zU s 9 3 0) ⟨Int.le_refl _, by show (0 : Int) + _ ≤ 1000; omega⟩
    rw [k]
    show (0 : Int) + _ = _
    omega
  have r37 : ∀ k : Nat, k < 24 → k < (lAct s i w).length → recL (zU s 9 3 0) (lAct s i w) 37 k = (lAct s i w).getD k 0 := fun k h1 h2 => (recL_37 (lAct s i w) (s := zU s 9 3 0) (k := k) ⟨Int.le_refl _, by show (0 : Int) + _ ≤ 1000; omega⟩ h1).2 (by show (0 : Int) ≤ k; omega) (by show (k : Int) < 0 + _; omega)
  generalize hs1 : recL (zU s 9 3 0) (lAct s i w) = s1 at *
  have an : rAct s1 i w n = rAct s i w n := by
    unfold rAct
    rw [m1 42 (by decide), m1 77 (by decide)]
  have al : lAct s1 i w = lAct s i w := by
    unfold lAct
    rw [m1 42 (by decide), m1 77 (by decide)]
  refine e_act (a := s1) (by rw [m1 42 (by decide)]; omega) (fun k hk => ?_) zFr.rf ?_
  · rw [m1 42 (by decide)] at hk
    rw [m1 77 (by decide)]
    have q := b3 k (by omega)
    rw [q.1] at q
    exact q.2
  rw [an, al]
  refine kk _ ?_
  have F : zFK [9, 37, 78] [53] s (mecL (zU s1 42 53 0) (lAct s i w)) := (u1.le [9, 37, 78] [53] rfl rfl).tr ⟨fun q h0 hq => by
    simp only [List.contains_cons, List.contains_nil, Bool.or_false, Bool.or_eq_false_iff, beq_eq_false_iff_ne] at hq
    rw [mecL_o _ ⟨h0, hq.2.2⟩, zU_ne h0], fun k hk => by
    simp only [List.contains_cons, List.contains_nil, Bool.or_false, beq_eq_false_iff_ne] at hk
    rw [mecL_42 _ hk, zU_at]
    exact if_neg hk⟩
  have q9 : mecL (zU s1 42 53 0) (lAct s i w) 9 = s1 9 := by rw [mecL_o _ (by decide)]; rfl
  have q36 : mecL (zU s1 42 53 0) (lAct s i w) 36 = s 36 := F.1 36 (by decide) rfl
  have q77 : mecL (zU s1 42 53 0) (lAct s i w) 77 = s 77 := F.1 77 (by decide) rfl
  have q51 : mecL (zU s1 42 53 0) (lAct s i w) 42 51 = s 42 51 := F.2 51 rfl
  have q53 : mecL (zU s1 42 53 0) (lAct s i w) 42 53 = (lAct s i w).length := by
    have k := mecL_n (lAct s i w) (s := zU s1 42 53 0) ⟨Int.le_refl _, by show (0 : Int) + _ ≤ 1000; omega⟩
    rw [k]
    show (0 : Int) + _ = _
    omega
  refine ⟨hI.folk.k F rfl rfl, hI.law.k F rfl rfl, hI.shv.eq (by rw [q9, r91]) q51 (F.1 38 (by decide) rfl) (F.1 39 (by decide) rfl) (F.1 40 (by decide) rfl) (F.1 41 (by decide) rfl) (F.1 79 (by decide) rfl) (F.1 80 (by decide) rfl) (F.1 81 (by decide) rfl), hI.bod.eq (by rw [q9, r91]) q51 q36 q77, ⟨by rw [q9, r93, q53], by rw [q9, r93]; omega, fun k hk hk2 => ?_⟩, hI.ded.k F rfl, hI.img.k F rfl rfl, hI.chg.k F rfl rfl, hI.tap.k F rfl rfl, hI.row.k F rfl⟩
  rw [q9, r93] at hk
  rw [mecL_o _ (by decide), zU_ne (by decide), r37 k hk2 (by omega)]
  exact ((mecL_78 (lAct s i w) (s := zU s1 42 53 0) (k := k) ⟨Int.le_refl _, by show (0 : Int) + _ ≤ 1000; omega⟩ hk2).2 (by show (0 : Int) ≤ k; omega) (by show (k : Int) < 0 + _; omega)).symm
theorem zInv.shvs {s s2 : zSt} (hI : zInv s) (F : zFK [38, 39, 40, 41, 79, 80, 81, 82] [] s s2) (h : zShv s2) : zInv s2 := ⟨hI.folk.k F rfl rfl, hI.law.k F rfl rfl, h, hI.bod.k F rfl rfl, hI.trc.k F rfl rfl, hI.ded.k F rfl, hI.img.k F rfl rfl, hI.chg.k F rfl rfl, hI.tap.k F rfl rfl, hI.row.k F rfl⟩
theorem st_keep {i b : Int} (hI : zInv s) (h : ∀ (ans : Int) s1, zAns x 277 [.inr (.inl 42), .inl i, .inl b] (.inl ans) s1 → Q (some (.inl ans)) s1) : zE x 64 163 [.inr (.inl 0), .inl i, .inl b] s Q := by
  obtain ⟨b1, b2, b3⟩ := hI.bod
  have m1 : ∀ q, 42 ≤ q → uKeep s s i b q = s q := fun q hq => by
    unfold uKeep
    split
    · rw [zU_ne (by omega), zU_ne (by omega)]
    · rfl
  refine c_keep hI.shv zFr.rf (h _ _ (fun Q2 kk => e_keep (a := s) (by omega) (zSimM_of m1) (kk _ ?_)))
  by_cases hc : okKeep s i b
  · have e1 : uKeep s s i b = zU (zU s 38 i.toNat (if b = -1 then 6 else 5)) 40 i.toNat b := if_pos hc
    have e2 : vKeep s (uKeep s s i b) i b = zU (zU (zU s 38 i.toNat (if b = -1 then 6 else 5)) 40 i.toNat b) 79 i.toNat b := by
      unfold vKeep
      rw [if_pos hc, e1]
    rw [e2]
    refine hI.shvs (((zFK.rf.U (by decide) rfl _ _).U (by decide) rfl _ _).U (by decide) rfl _ _) ⟨hI.shv.1, fun j hj => ?_⟩
    have v := hI.shv.2 j hj
    by_cases e : j = i.toNat
    · have g38 : (zU (zU (zU s 38 i.toNat (if b = -1 then 6 else 5)) 40 i.toNat b) 79 i.toNat b) 38 j = if b = -1 then 6 else 5 := if_pos e
      have g40 : (zU (zU (zU s 38 i.toNat (if b = -1 then 6 else 5)) 40 i.toNat b) 79 i.toNat b) 40 j = b := if_pos e
      have g79 : (zU (zU (zU s 38 i.toNat (if b = -1 then 6 else 5)) 40 i.toNat b) 79 i.toNat b) 79 j = b := if_pos e
      rw [g38, g40, g79]
      refine ⟨by split <;> omega, fun e6 => ?_, fun e5 => ⟨?_, ?_, rfl⟩, fun e4 => ?_⟩
      · split at e6
        · assumption
        · omega
      · split at e5
        · omega
        · have := hc.2
          omega
      · show b < s 9 1
        split at e5
        · omega
        · have := hc.2
          omega
      · split at e4 <;> omega
    · have g38 : (zU (zU (zU s 38 i.toNat (if b = -1 then 6 else 5)) 40 i.toNat b) 79 i.toNat b) 38 j = s 38 j := if_neg e
      have g40 : (zU (zU (zU s 38 i.toNat (if b = -1 then 6 else 5)) 40 i.toNat b) 79 i.toNat b) 40 j = s 40 j := if_neg e
      have g79 : (zU (zU (zU s 38 i.toNat (if b = -1 then 6 else 5)) 40 i.toNat b) 79 i.toNat b) 79 j = s 79 j := if_neg e
      rw [g38, g40, g79]
      exact v
  · have e1 : uKeep s s i b = s := if_neg hc
    have e2 : vKeep s s i b = s := if_neg hc
    rw [e1, e2]
    exact hI
theorem st_row {i w n : Int} (hI : zInv s) (h : ∀ (ans : Int) s1, zAns x 278 [.inr (.inl 42), .inl i, .inl w, .inl n] (.inl ans) s1 → Q (some (.inl ans)) s1) : zE x 64 164 [.inr (.inl 0), .inl i, .inl w, .inl n] s Q := by
  refine c_row (h _ _ (fun Q2 kk => e_row (kk _ ?_)))
  by_cases hc : okRow i w n ∧ 0 ≤ n
  · have e1 : uRow s i w n = zF (zU (zU s 38 i.toNat w) 39 i.toNat n) 41 (clrF (s 41) (i.toNat * 60) n.toNat) := if_pos hc
    have e2 : vRow (uRow s i w n) i w n = zF (zU (zU (zF (zU (zU s 38 i.toNat w) 39 i.toNat n) 41 (clrF (s 41) (i.toNat * 60) n.toNat)) 79 i.toNat (-2 - w)) 80 i.toNat n) 81 (clrF (s 81) (i.toNat * 60) 60) := by
      unfold vRow
      rw [if_pos hc, e1]
      rfl
    rw [e2]
    refine hI.shvs ((((((zFK.rf.U (by decide) rfl _ _).U (by decide) rfl _ _).F (by decide) rfl _).U (by decide) rfl _ _).U (by decide) rfl _ _).F (by decide) rfl _) ⟨hI.shv.1, fun j hj => ?_⟩
    have v := hI.shv.2 j hj
    have g38 : (zF (zU (zU (zF (zU (zU s 38 i.toNat w) 39 i.toNat n) 41 (clrF (s 41) (i.toNat * 60) n.toNat)) 79 i.toNat (-2 - w)) 80 i.toNat n) 81 (clrF (s 81) (i.toNat * 60) 60)) 38 j = if j = i.toNat then w else s 38 j := rfl
    have g39 : (zF (zU (zU (zF (zU (zU s 38 i.toNat w) 39 i.toNat n) 41 (clrF (s 41) (i.toNat * 60) n.toNat)) 79 i.toNat (-2 - w)) 80 i.toNat n) 81 (clrF (s 81) (i.toNat * 60) 60)) 39 j = if j = i.toNat then n else s 39 j := rfl
    have g40 : (zF (zU (zU (zF (zU (zU s 38 i.toNat w) 39 i.toNat n) 41 (clrF (s 41) (i.toNat * 60) n.toNat)) 79 i.toNat (-2 - w)) 80 i.toNat n) 81 (clrF (s 81) (i.toNat * 60) 60)) 40 j = s 40 j := rfl
    have g79 : (zF (zU (zU (zF (zU (zU s 38 i.toNat w) 39 i.toNat n) 41 (clrF (s 41) (i.toNat * 60) n.toNat)) 79 i.toNat (-2 - w)) 80 i.toNat n) 81 (clrF (s 81) (i.toNat * 60) 60)) 79 j = if j = i.toNat then -2 - w else s 79 j := rfl
    have g80 : (zF (zU (zU (zF (zU (zU s 38 i.toNat w) 39 i.toNat n) 41 (clrF (s 41) (i.toNat * 60) n.toNat)) 79 i.toNat (-2 - w)) 80 i.toNat n) 81 (clrF (s 81) (i.toNat * 60) 60)) 80 j = if j = i.toNat then n else s 80 j := rfl
    have g41 : ∀ k, (zF (zU (zU (zF (zU (zU s 38 i.toNat w) 39 i.toNat n) 41 (clrF (s 41) (i.toNat * 60) n.toNat)) 79 i.toNat (-2 - w)) 80 i.toNat n) 81 (clrF (s 81) (i.toNat * 60) 60)) 41 k = if i.toNat * 60 ≤ k ∧ k < i.toNat * 60 + n.toNat then 0 else s 41 k := fun k => rfl
    have g81 : ∀ k, (zF (zU (zU (zF (zU (zU s 38 i.toNat w) 39 i.toNat n) 41 (clrF (s 41) (i.toNat * 60) n.toNat)) 79 i.toNat (-2 - w)) 80 i.toNat n) 81 (clrF (s 81) (i.toNat * 60) 60)) 81 k = if i.toNat * 60 ≤ k ∧ k < i.toNat * 60 + 60 then 0 else s 81 k := fun k => rfl
    have g91 : (zF (zU (zU (zF (zU (zU s 38 i.toNat w) 39 i.toNat n) 41 (clrF (s 41) (i.toNat * 60) n.toNat)) 79 i.toNat (-2 - w)) 80 i.toNat n) 81 (clrF (s 81) (i.toNat * 60) 60)) 9 1 = s 9 1 := rfl
    rw [g38, g39, g40, g79, g80, g91]
    by_cases e : j = i.toNat
    · rw [if_pos e, if_pos e, if_pos e, if_pos e]
      refine ⟨by omega, fun e6 => by omega, fun e5 => by omega, fun _ => ⟨rfl, rfl, hc.2, hc.1.2.2, fun k hk => ?_⟩⟩
      rw [g41, g81, if_pos (by omega), if_pos (by omega)]
      exact ⟨rfl, fun _ => by omega, fun _ => by omega⟩
    · rw [if_neg e, if_neg e, if_neg e, if_neg e]
      refine ⟨v.1, v.2.1, v.2.2.1, fun e4 => ?_⟩
      have r := v.2.2.2 e4
      refine ⟨r.1, r.2.1, r.2.2.1, r.2.2.2.1, fun k hk => ?_⟩
      rw [g41, g81, if_neg (by omega), if_neg (by omega)]
      exact r.2.2.2.2 k hk
  · have e1 : uRow s i w n = s := if_neg hc
    have e2 : vRow s i w n = s := if_neg hc
    rw [e1, e2]
    exact hI
theorem plcF_z {a : zSt} {i k : Int} (h : plcF a i k = 0) : isSh i ∧ a 38 i.toNat ≤ 4 ∧ 0 ≤ k ∧ k < a 80 i.toNat := by
  unfold plcF at h
  repeat' split at h
  all_goals first | omega | (refine ⟨by assumption, by omega, by omega, by omega⟩)
theorem st_put {i k v : Int} (hI : zInv s) (h : ∀ (ans : Int) s1, zAns x 280 [.inr (.inl 42), .inl i, .inl k, .inr (.inr v)] (.inl ans) s1 → Q (some (.inl ans)) s1) : zE x 64 165 [.inr (.inl 0), .inl i, .inl k, .inr (.inr v)] s Q := by
  have m1 : ∀ q, 42 ≤ q → uPut s s i k v q = s q := fun q hq => by
    unfold uPut
    split
    · rw [zU_ne (by omega)]
    · rfl
  refine c_put hI.shv zFr.rf (h _ _ (fun Q2 kk => e_put (a := s) hI.shv (zSimM_of m1) (kk _ ?_)))
  by_cases hc : plcF s i k = 0
  · have p := plcF_z hc
    have e1 : uPut s s i k v = zU s 41 (i.toNat * 60 + k.toNat) (cutF (s 38 i.toNat) v) := if_pos hc
    have e2 : vPut s (uPut s s i k v) i k v = zU (zU s 41 (i.toNat * 60 + k.toNat) (cutF (s 38 i.toNat) v)) 81 (i.toNat * 60 + k.toNat) (cutF (s 38 i.toNat) v) := by
      unfold vPut
      rw [if_pos hc, e1]
    rw [e2]
    refine hI.shvs ((zFK.rf.U (by decide) rfl _ _).U (by decide) rfl _ _) ⟨hI.shv.1, fun j hj => ?_⟩
    have r := hI.shv.2 j hj
    refine ⟨r.1, r.2.1, r.2.2.1, fun e4 => ?_⟩
    have q := r.2.2.2 e4
    refine ⟨q.1, q.2.1, q.2.2.1, q.2.2.2.1, fun l hl => ?_⟩
    have hl : (l : Int) < s 80 j := hl
    have o := q.2.2.2.2 l hl
    show (if j * 60 + l = i.toNat * 60 + k.toNat then cutF (s 38 i.toNat) v else s 41 (j * 60 + l)) = (if j * 60 + l = i.toNat * 60 + k.toNat then cutF (s 38 i.toNat) v else s 81 (j * 60 + l)) ∧ (s 38 j = 0 → -128 ≤ (if j * 60 + l = i.toNat * 60 + k.toNat then cutF (s 38 i.toNat) v else s 81 (j * 60 + l)) ∧ (if j * 60 + l = i.toNat * 60 + k.toNat then cutF (s 38 i.toNat) v else s 81 (j * 60 + l)) ≤ 127) ∧ (s 38 j = 1 → -32768 ≤ (if j * 60 + l = i.toNat * 60 + k.toNat then cutF (s 38 i.toNat) v else s 81 (j * 60 + l)) ∧ (if j * 60 + l = i.toNat * 60 + k.toNat then cutF (s 38 i.toNat) v else s 81 (j * 60 + l)) ≤ 32767)
    by_cases e : j * 60 + l = i.toNat * 60 + k.toNat
    · rw [if_pos e, if_pos e]
      have i80 := (hI.shv.2 i.toNat (by omega)).2.2.2 p.2.1
      have ej : j = i.toNat := by omega
      rw [← ej]
      refine ⟨rfl, fun e0 => ?_, fun e0 => ?_⟩
      · unfold cutF
        rw [if_pos e0]
        unfold w8
        omega
      · unfold cutF
        rw [if_neg (by omega), if_pos e0]
        unfold w16
        omega
    · rw [if_neg e, if_neg e]
      exact o
  · have e1 : uPut s s i k v = s := if_neg hc
    have e2 : vPut s s i k v = s := if_neg hc
    rw [e1, e2]
    exact hI
theorem st_shift {i k j l n : Int} (hI : zInv s) (h : ∀ (ans : Int) s1, zAns x 282 [.inr (.inl 42), .inl i, .inl k, .inl j, .inl l, .inl n] (.inl ans) s1 → Q (some (.inl ans)) s1) : zE x 64 167 [.inr (.inl 0), .inl i, .inl k, .inl j, .inl l, .inl n] s Q := by
  have m1 : ∀ q, 42 ≤ q → uShift s s i k j l n q = s q := fun q hq => by
    unfold uShift
    split
    · rw [zF_ne (by omega)]
    · rfl
  refine c_shift hI.shv zFr.rf (h _ _ (fun Q2 kk => e_shift (a := s) hI.shv (zSimM_of m1) (fun s2 f2 => kk s2 ?_)))
  by_cases hc : whyShift s i k j l n = 0
  · have p : (isSh i ∧ isSh j) ∧ (s 38 i.toNat ≤ 4 ∧ s 38 j.toNat = s 38 i.toNat) ∧ okShift s i k j l n := by
      unfold whyShift at hc
      repeat' split at hc
      all_goals first | omega | exact ⟨by assumption, by assumption, by assumption⟩
    have e1 : uShift s s i k j l n = zF s 41 (zCpF (s 41) (s 41) (i.toNat * 60 + k.toNat) (j.toNat * 60 + l.toNat) n.toNat) := if_pos hc
    have e2 : vShift s (uShift s s i k j l n) i k j l n = zF (zF s 41 (zCpF (s 41) (s 41) (i.toNat * 60 + k.toNat) (j.toNat * 60 + l.toNat) n.toNat)) 81 (zCpF (s 81) (s 81) (i.toNat * 60 + k.toNat) (j.toNat * 60 + l.toNat) n.toNat) := by
      unfold vShift
      rw [if_pos hc, e1]
      rfl
    rw [e2] at f2
    have F : zFK [38, 39, 40, 41, 79, 80, 81, 82] [] s s2 := ((zFK.rf.F (by decide) rfl _).F (by decide) rfl _).tr ((zFr.K f2 rfl).le _ _ rfl rfl)
    have a41 : s2 41 = zCpF (s 41) (s 41) (i.toNat * 60 + k.toNat) (j.toNat * 60 + l.toNat) n.toNat := f2 41 rfl
    have a81 : s2 81 = zCpF (s 81) (s 81) (i.toNat * 60 + k.toNat) (j.toNat * 60 + l.toNat) n.toNat := f2 81 rfl
    have a38 : s2 38 = s 38 := f2 38 rfl
    have a39 : s2 39 = s 39 := f2 39 rfl
    have a40 : s2 40 = s 40 := f2 40 rfl
    have a79 : s2 79 = s 79 := f2 79 rfl
    have a80 : s2 80 = s 80 := f2 80 rfl
    have a9 : s2 9 = s 9 := f2 9 rfl
    have a42 : s2 42 = s 42 := f2 42 rfl
    refine hI.shvs F ?_
    unfold zShv
    rw [a38, a39, a40, a79, a80, a9, a42, a41, a81]
    refine ⟨hI.shv.1, fun m hm => ?_⟩
    have r := hI.shv.2 m hm
    refine ⟨r.1, r.2.1, r.2.2.1, fun e4 => ?_⟩
    have q := r.2.2.2 e4
    refine ⟨q.1, q.2.1, q.2.2.1, q.2.2.2.1, fun o ho => ?_⟩
    have si := (hI.shv.2 i.toNat (by omega)).2.2.2 p.2.1.1
    have sj := (hI.shv.2 j.toNat (by omega)).2.2.2 (by omega)
    unfold zCpF
    by_cases e : j.toNat * 60 + l.toNat ≤ m * 60 + o ∧ m * 60 + o < j.toNat * 60 + l.toNat + n.toNat
    · rw [if_pos e, if_pos e]
      have ok := p.2.2
      have em : m = j.toNat := by omega
      have t := si.2.2.2.2 (k.toNat + (o - l.toNat)) (by omega)
      rw [show i.toNat * 60 + k.toNat + (m * 60 + o - (j.toNat * 60 + l.toNat)) = i.toNat * 60 + (k.toNat + (o - l.toNat)) by omega, em, p.2.1.2]
      exact t
    · rw [if_neg e, if_neg e]
      exact q.2.2.2.2 o ho
  · have e1 : uShift s s i k j l n = s := if_neg hc
    have e2 : vShift s s i k j l n = s := if_neg hc
    rw [e1, e2] at f2
    exact hI.sc ((zFr.K f2 rfl).le _ _ rfl rfl)
end ZStepV
