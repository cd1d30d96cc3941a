/-! the law's text read by the reference: lines, the whole text, law -/
theorem endsL_app {te le : Nat → Int} : ∀ (ls : List zLn) (l : zLn) (i k : Nat), endsL te le i k ls → te (i + ls.length) = ((k + (opsL ls).length + l.1.length : Nat) : Int) → le (i + ls.length) = ((k + (opsL ls).length + l.1.length + l.2.length : Nat) : Int) → endsL te le i k (ls ++ [l])
  | [], l, i, k, _, h1, h2 => ⟨h1, h2, trivial⟩
  | m :: ls, l, i, k, h, h1, h2 => by
    have e : (opsL (m :: ls)).length = m.1.length + m.2.length + (opsL ls).length := by
      simp only [opsL, List.length_append]
      omega
    have e2 : i + (m :: ls).length = i + 1 + ls.length := by
      rw [List.length_cons]
      omega
    rw [e2, e] at h1 h2
    refine ⟨h.1, h.2.1, endsL_app ls l (i + 1) _ h.2.2 (h1.trans (congrArg _ ?_)) (h2.trans (congrArg _ ?_))⟩
    · omega
    · omega
theorem endsL_eq {te le te' le' : Nat → Int} : ∀ (ls : List zLn) (i k : Nat), (∀ j, i ≤ j → j < i + ls.length → te' j = te j ∧ le' j = le j) → endsL te le i k ls → endsL te' le' i k ls
  | [], _, _, _, _ => trivial
  | m :: ls, i, k, h, e => by
    have h0 := h i (Nat.le_refl _) (by rw [List.length_cons]; omega)
    refine ⟨h0.1.trans e.1, h0.2.trans e.2.1, endsL_eq ls (i + 1) _ (fun j h1 h2 => h j (by omega) (by rw [List.length_cons]; omega)) e.2.2⟩
theorem opsL_app : ∀ (ls : List zLn) (l : zLn), opsL (ls ++ [l]) = opsL ls ++ (l.1 ++ l.2)
  | [], l => by simp [opsL]
  | m :: ls, l => by
    show m.1 ++ (m.2 ++ opsL (ls ++ [l])) = (m.1 ++ (m.2 ++ opsL ls)) ++ _
    rw [opsL_app ls l]
    simp
abbrev rlL : List Nat := [42, 58, 59, 60, 61, 62]
abbrev rlF (a s : zSt) : Prop := zFr rlL a s ∧ (∀ k, k < 25 ∨ 28 < k → s 42 k = a 42 k) ∧ (∀ k, k < 130 → s 58 k = a 58 k ∧ s 59 k = a 59 k) ∧ s 60 0 = a 60 0 ∧ ∀ k, k < 61 → s 61 k = a 61 k ∧ s 62 k = a 62 k
abbrev rlG (a s : zSt) (q : Nat) (ls : List zLn) : Prop := rlF a s ∧ s 42 25 = q ∧ s 42 26 = -1 ∧ s 42 27 = 0 ∧ rfD s (opsL ls) ∧ s 60 1 = ls.length ∧ endsL (fun i => s 61 (61 + i)) (fun i => s 62 (61 + i)) 0 0 ls
section ZRead3
variable {x : List Int} {d : Nat} {a s : zSt} {Q : zQ}
theorem rlF.tr {s' : zSt} (h : rlF a s) (f : rfF s s') : rlF a s' := by
  refine ⟨h.1.tr (f.1.le _ rfl), fun k hk => (f.2.1 k hk).trans (h.2.1 k hk), fun k hk => ⟨(f.2.2 k hk).1.trans (h.2.2.1 k hk).1, (f.2.2 k hk).2.trans (h.2.2.1 k hk).2⟩, ?_, ?_⟩
  · rw [f.1 60 rfl]
    exact h.2.2.2.1
  · rw [f.1 61 rfl, f.1 62 rfl]
    exact h.2.2.2.2
theorem w1616_id {c : Int} (hc : 0 ≤ c ∧ c ≤ 1000) : w16 (w16 c) = c := by unfold w16; omega
/-- a line ends: its end, and that it is there -/
theorem m199_end {k n : Nat} (hk : k = 61 + n) (hn : n ≤ 60) (hs : rlF a s) (h6 : s 60 1 = n) (h : ∀ s', rlF a s' → (∀ j, s' 42 j = s 42 j) → s' 58 = s 58 → s' 59 = s 59 → s' 61 = s 61 → s' 60 1 = n + 1 → (∀ j, s' 62 j = if j = k then w16 (w16 (s 42 28)) else s 62 j) → Q none s') : zJ x d 199 66 [some (.inr (.inl 42)), some (.inl (k : Int))] [] s Q := by
  obtain ⟨f1, f2, f3, f4, f5⟩ := hs
  refine B199_66 ⟨by omega, by omega, by omega, by omega, by omega, by omega, ?_⟩
  rw [h6, wr_id (x := (n : Int) + 1) (by unfold zR; omega), Int.toNat_natCast]
  refine h _ ⟨(f1.U rfl _ _).U rfl _ _, f2, f3, f4, fun j hj => ⟨(f5 j hj).1, ?_⟩⟩ (fun _ => rfl) rfl rfl rfl rfl (fun j => rfl)
  show (if j = k then _ else s 62 j) = _
  rw [if_neg (by omega)]
  exact (f5 j hj).2
theorem m199 {p : Nat} {ls : List zLn} (h24 : 0 ≤ a 42 24 ∧ a 42 24 ≤ 120) (hs : rlG a s p ls) (hl : (opsL ls).length ≤ p) (hn : 2 * ls.length ≤ p) (hp : p ≤ (a 42 24).toNat)
    (h1 : (pLine (tpF a) p).1 = true → ∀ s', rlG a s' (pLine (tpF a) p).2.1 (ls ++ [(pLine (tpF a) p).2.2]) → Q none s')
    (h0 : (pLine (tpF a) p).1 = false → ∀ s', rlF a s' → s' 42 26 = ((pLine (tpF a) p).2.1 : Nat) → Q none s') : zE x (d + 60) 199 [.inr (.inl 42)] s Q := by
  obtain ⟨f, g1, g2, g3, g4, g5, g6⟩ := hs
  have hN : (a 42 24).toNat ≤ 120 := by omega
  have gs := pOpnd_good (tpF_end a) 6
  have gp := pSum_good (tpF_end a) p hp
  have either : ∀ (b : zSt), b 57 = a 57 → b 42 24 = a 42 24 → eOK x (d + 59) 198 b (pSum (tpF a)) 0 := fun b h57 hb => by
    have e := tpF_eq h57 hb
    have k := m198_all (x := x) (d := d + 52) (dep := 0) (a := b) (f := pOpnd (tpF b) 6) (by omega) (by rw [e, hb]; exact gs) (m193 (by omega) 6 (d + 54) 0 (by omega) (by omega) (by omega))
    rw [e] at k
    exact k
  refine N199 (B199_0 ⟨by omega, by omega, ?_⟩)
  rw [g5, wr_id (x := 61 + (ls.length : Int)) (by unfold zR; omega), show (61 + (ls.length : Int)).toNat = 61 + ls.length by omega, g4.1, w1616_id (by omega)]
  refine ⟨by omega, by omega, ?_⟩
  have F1 : rlF a (zU s 61 (61 + ls.length) ((opsL ls).length : Int)) := by
    refine ⟨f.1.U rfl _ _, f.2.1, f.2.2.1, f.2.2.2.1, fun j hj => ⟨?_, (f.2.2.2.2 j hj).2⟩⟩
    show (if j = 61 + ls.length then _ else s 61 j) = _
    rw [if_neg (by omega)]
    exact (f.2.2.2.2 j hj).1
  have T1 : (zU s 61 (61 + ls.length) ((opsL ls).length : Int)) 57 = a 57 := F1.1 57 rfl
  have T2 : (zU s 61 (61 + ls.length) ((opsL ls).length : Int)) 42 24 = a 42 24 := F1.2.1 24 (by omega)
  generalize hS : zU s 61 (61 + ls.length) ((opsL ls).length : Int) = S at *
  have S42 : S 42 = s 42 := by rw [← hS]; rfl
  have S58 : S 58 = s 58 := by rw [← hS]; rfl
  have S59 : S 59 = s 59 := by rw [← hS]; rfl
  have S60 : S 60 = s 60 := by rw [← hS]; rfl
  have S62 : S 62 = s 62 := by rw [← hS]; rfl
  have S61 : ∀ j, S 61 j = if j = 61 + ls.length then ((opsL ls).length : Int) else s 61 j := fun j => by rw [← hS]; rfl
  clear hS
  have G1 : rfG S S p 0 (opsL ls) := ⟨⟨zFr.rf, fun _ _ => rfl, fun _ _ => ⟨rfl, rfl⟩⟩, by rw [S42]; exact g1, by rw [S42]; exact g2, by rw [S42]; exact g3, by rw [S42]; exact g4.1, by rw [S58, S59]; exact g4.2⟩
  unfold pLine at h1 h0
  -- behind the first: u is S but for its cells
  have six : ∀ (u : zSt), rfF S u → u 60 = s 60 ∧ u 61 = S 61 ∧ u 62 = s 62 := fun u k => ⟨(k.1 60 rfl).trans S60, k.1 61 rfl, (k.1 62 rfl).trans S62⟩
  rw [show (61 : Int) + (ls.length : Int) = ((61 + ls.length : Nat) : Int) by omega]
  refine either S T1 T2 S p (opsL ls) _ G1 hl (by rw [T2]; exact hp) (fun e u k => ?_) (fun e u k => ?_)
  · rw [if_pos e] at h1 h0
    have gp3 := gp.2.2 e
    have e26 := k.2.2.1
    obtain ⟨u60, u61, u62⟩ := six u k.1
    have lk : u 42 25 = ((pSum (tpF a) p).2.1 : Nat) := k.2.1
    have FU : rlF a u := F1.tr k.1
    have look : ∀ {Q' : zQ}, Q' (some (.inl (tpF a (pSum (tpF a) p).2.1))) u → zE x (d + 59) 187 [.inr (.inl 42)] u Q' := fun {Q'} hq => by
      refine m187 (a := S) (d := d + 58) (by omega) k.1 lk ?_
      rw [tpF_eq T1 T2]
      exact hq
    refine B199_25 ⟨fun c => absurd c (by omega), fun _ => look (B199_36 ⟨fun c => ?_, fun c => ⟨by omega, by omega, ?_⟩⟩)⟩
    · rw [if_neg c] at h1
      refine m199_end (n := ls.length) rfl (by omega) FU (by rw [u60]; exact g5) (fun s' r1 r2 r3 r4 r5 r6 r7 => h1 rfl s' ⟨r1, ?_, ?_, ?_, ⟨?_, ?_⟩, ?_, ?_⟩)
      · rw [r2]; exact lk
      · rw [r2]; exact e26
      · rw [r2]; exact k.2.2.2.1
      · rw [r2, opsL_app]; exact k.2.2.2.2.1
      · rw [r3, r4, opsL_app]; exact k.2.2.2.2.2
      · rw [r6, List.length_append]
        simp only [List.length_cons, List.length_nil]
        omega
      · refine endsL_app ls _ 0 0 (endsL_eq ls 0 0 (fun j h1 h2 => ?_) g6) ?_ ?_
        · show s' 61 (61 + j) = s 61 (61 + j) ∧ s' 62 (61 + j) = s 62 (61 + j)
          rw [r5, u61, S61, if_neg (by omega), r7, if_neg (by omega), u62]
          exact ⟨rfl, rfl⟩
        · show s' 61 (61 + (0 + ls.length)) = ((0 + (opsL ls).length + 0 : Nat) : Int)
          rw [r5, u61, S61, if_pos (by omega)]
          omega
        · show s' 62 (61 + (0 + ls.length)) = ((0 + (opsL ls).length + 0 + (pSum (tpF a) p).2.2.length : Nat) : Int)
          have k28 := k.2.2.2.2.1
          rw [List.length_append] at k28
          rw [r7, if_pos (by omega), k28, w1616_id (by omega)]
          omega
    · have c := Decidable.not_not.mp c
      rw [if_pos c] at h1 h0
      have k28 := k.2.2.2.2.1
      have hp2 : (pSum (tpF a) p).2.1 + 1 ≤ (a 42 24).toNat := by
        refine Nat.lt_of_not_le (fun e => ?_)
        have := tpF_end a _ e
        omega
      have gq := pSum_good (tpF_end a) _ hp2
      have k28' : u 42 28 = (((opsL ls).length + (pSum (tpF a) p).2.2.length : Nat) : Int) := by rw [k28, List.length_append]
      rw [Int.toNat_natCast, k28', w1616_id (by omega)]
      have F2 : rlF a (zU (zU u 42 25 (wr (u 42 25 + 1))) 61 (61 + ls.length) (((opsL ls).length + (pSum (tpF a) p).2.2.length : Nat) : Int)) := by
        refine ⟨(FU.1.U rfl _ _).U rfl _ _, fun j hj => ?_, FU.2.2.1, FU.2.2.2.1, fun j hj => ⟨?_, (FU.2.2.2.2 j hj).2⟩⟩
        · show (if j = 25 then _ else u 42 j) = _
          rw [if_neg (by omega)]
          exact FU.2.1 j hj
        · show (if j = 61 + ls.length then _ else u 61 j) = _
          rw [if_neg (by omega)]
          exact (FU.2.2.2.2 j hj).1
      have G2 : rfG (zU (zU u 42 25 (wr (u 42 25 + 1))) 61 (61 + ls.length) (((opsL ls).length + (pSum (tpF a) p).2.2.length : Nat) : Int)) (zU (zU u 42 25 (wr (u 42 25 + 1))) 61 (61 + ls.length) (((opsL ls).length + (pSum (tpF a) p).2.2.length : Nat) : Int)) ((pSum (tpF a) p).2.1 + 1) 0 (opsL ls ++ (pSum (tpF a) p).2.2) := by
        refine ⟨⟨zFr.rf, fun _ _ => rfl, fun _ _ => ⟨rfl, rfl⟩⟩, ?_, e26, k.2.2.2.1, k.2.2.2.2⟩
        show wr (u 42 25 + 1) = (((pSum (tpF a) p).2.1 + 1 : Nat) : Int)
        rw [lk, wr_id (by unfold zR; omega)]
        omega
      have V61 : ∀ j, (zU (zU u 42 25 (wr (u 42 25 + 1))) 61 (61 + ls.length) (((opsL ls).length + (pSum (tpF a) p).2.2.length : Nat) : Int)) 61 j = if j = 61 + ls.length then (((opsL ls).length + (pSum (tpF a) p).2.2.length : Nat) : Int) else u 61 j := fun j => rfl
      have V60 : (zU (zU u 42 25 (wr (u 42 25 + 1))) 61 (61 + ls.length) (((opsL ls).length + (pSum (tpF a) p).2.2.length : Nat) : Int)) 60 = u 60 := rfl
      have V62 : (zU (zU u 42 25 (wr (u 42 25 + 1))) 61 (61 + ls.length) (((opsL ls).length + (pSum (tpF a) p).2.2.length : Nat) : Int)) 62 = u 62 := rfl
      have U1 := F2.1 57 rfl
      have U2 := F2.2.1 24 (by omega)
      generalize (zU (zU u 42 25 (wr (u 42 25 + 1))) 61 (61 + ls.length) (((opsL ls).length + (pSum (tpF a) p).2.2.length : Nat) : Int)) = V at *
      refine either V U1 U2 V _ _ _ G2 (by rw [List.length_append]; omega) (by rw [U2]; exact hp2) (fun e2 w t => ?_) (fun e2 w t => ?_)
      · rw [if_pos e2] at h1
        have gq3 := gq.2.2 e2
        have w60 : w 60 = s 60 := (t.1.1 60 rfl).trans (V60.trans u60)
        have w61 : w 61 = V 61 := t.1.1 61 rfl
        have w62 : w 62 = s 62 := (t.1.1 62 rfl).trans (V62.trans u62)
        refine m199_end (n := ls.length) rfl (by omega) (F2.tr t.1) (by rw [w60]; exact g5) (fun s' r1 r2 r3 r4 r5 r6 r7 => h1 rfl s' ⟨r1, ?_, ?_, ?_, ⟨?_, ?_⟩, ?_, ?_⟩)
        · rw [r2]; exact t.2.1
        · rw [r2]; exact t.2.2.1
        · rw [r2]; exact t.2.2.2.1
        · rw [r2, opsL_app, ← List.append_assoc]; exact t.2.2.2.2.1
        · rw [r3, r4, opsL_app, ← List.append_assoc]; exact t.2.2.2.2.2
        · rw [r6, List.length_append]
          simp only [List.length_cons, List.length_nil]
          omega
        · refine endsL_app ls _ 0 0 (endsL_eq ls 0 0 (fun j h1 h2 => ?_) g6) ?_ ?_
          · show s' 61 (61 + j) = s 61 (61 + j) ∧ s' 62 (61 + j) = s 62 (61 + j)
            rw [r5, w61, V61, if_neg (by omega), u61, S61, if_neg (by omega), r7, if_neg (by omega), w62]
            exact ⟨rfl, rfl⟩
          · show s' 61 (61 + (0 + ls.length)) = ((0 + (opsL ls).length + (pSum (tpF a) p).2.2.length : Nat) : Int)
            rw [r5, w61, V61, if_pos (by omega)]
            omega
          · show s' 62 (61 + (0 + ls.length)) = ((0 + (opsL ls).length + (pSum (tpF a) p).2.2.length + (pSum (tpF a) ((pSum (tpF a) p).2.1 + 1)).2.2.length : Nat) : Int)
            have t28 := t.2.2.2.2.1
            rw [List.length_append, List.length_append] at t28
            rw [r7, if_pos (by omega), t28, w1616_id (by omega)]
            omega
      · rw [if_neg (by rw [e2]; decide)] at h0
        have w60 : w 60 = s 60 := (t.1.1 60 rfl).trans (V60.trans u60)
        exact m199_end (n := ls.length) rfl (by omega) (F2.tr t.1) (by rw [w60]; exact g5) (fun s' r1 r2 r3 r4 r5 r6 r7 => h0 rfl s' r1 (by rw [r2]; exact t.2.2.1))
  · rw [if_neg (by rw [e]; decide)] at h0
    obtain ⟨u60, u61, u62⟩ := six u k.1
    exact B199_25 ⟨fun _ => m199_end (n := ls.length) rfl (by omega) (F1.tr k.1) (by rw [u60]; exact g5) (fun s' r1 r2 r3 r4 r5 r6 r7 => h0 rfl s' r1 (by rw [r2]; exact k.2.2.1)), fun c => absurd k.2.2.1 (by omega)⟩
end ZRead3
