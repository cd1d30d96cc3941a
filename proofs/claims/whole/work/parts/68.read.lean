/-! the law's text read by the reference: the whole text, law -/
/-- what follows on a line that ends at q -/
def pRest (T : Nat → Int) (N j q : Nat) (ls : List zLn) : Bool × Nat × List zLn := if N ≤ q then (true, q, ls) else if T q = 59 then pLines T N j (q + 1) ls else (false, q, [])
theorem pLines_s (T : Nat → Int) (N j p : Nat) (ls : List zLn) : pLines T N (j + 1) p ls = if (pLine T p).1 then pRest T N j (pLine T p).2.1 (ls ++ [(pLine T p).2.2]) else (false, (pLine T p).2.1, []) := rfl
section ZRead4
variable {x : List Int} {d : Nat} {a s : zSt} {Q : zQ}
theorem m200_loop (h24 : 0 ≤ a 42 24 ∧ a 42 24 ≤ 120) : ∀ (j q : Nat) (ls : List zLn) (s : zSt), 121 ≤ j + q → rlG a s q ls → (opsL ls).length ≤ q → 2 * ls.length ≤ q + 1 → q ≤ (a 42 24).toNat →
    ((pRest (tpF a) (a 42 24).toNat j q ls).1 = true → ∀ s' q', rlG a s' q' (pRest (tpF a) (a 42 24).toNat j q ls).2.2 → a 42 24 ≤ q' → zJ x (d + 60) 200 64 [some (.inr (.inl 42)), some (.inl 0), none] [] s' Q) →
    ((pRest (tpF a) (a 42 24).toNat j q ls).1 = false → ∀ s', rlF a s' → s' 42 26 = ((pRest (tpF a) (a 42 24).toNat j q ls).2.1 : Nat) → zJ x (d + 60) 200 86 [some (.inr (.inl 42)), some (.inl 0), none] [] s' Q) → zJ x (d + 60) 200 31 [some (.inr (.inl 42)), some (.inl 0), none] [] s Q := by
  intro j
  induction j with
  | zero =>
    intro q ls s hj hs hl hn hq h1 h0
    exact absurd hj (by omega)
  | succ j ih =>
    intro q ls s hj hs hl hn hq h1 h0
    have hN : (a 42 24).toNat ≤ 120 := by omega
    obtain ⟨f, g1, g2, g3, g4, g5, g6⟩ := hs
    have T1 : s 57 = a 57 := f.1 57 rfl
    have T2 : s 42 24 = a 42 24 := f.2.1 24 (by omega)
    have look : ∀ {Q' : zQ}, Q' (some (.inl (tpF a q))) s → zE x (d + 60) 187 [.inr (.inl 42)] s Q' := fun {Q'} hq => by
      refine m187 (a := s) (d := d + 59) (by omega) ⟨zFr.rf, fun _ _ => rfl, fun _ _ => ⟨rfl, rfl⟩⟩ g1 ?_
      rw [tpF_eq T1 T2]
      exact hq
    refine B200_31 ⟨fun c => absurd c (by omega), fun _ => look (B200_42 ⟨fun c => ?_, fun c => ?_⟩)⟩
    · by_cases hN2 : (a 42 24).toNat ≤ q
      · have e : pRest (tpF a) (a 42 24).toNat (j + 1) q ls = (true, q, ls) := if_pos hN2
        rw [e] at h1
        exact h1 rfl s q ⟨f, g1, g2, g3, g4, g5, g6⟩ (by omega)
      · have e : pRest (tpF a) (a 42 24).toNat (j + 1) q ls = (false, q, []) := by
          unfold pRest
          rw [if_neg hN2, if_neg c]
        rw [e] at h0
        have h0 := h0 rfl
        refine B200_64 ⟨fun c => absurd c (by omega), fun _ => ⟨fun c => absurd c (by omega), fun _ => m188 (a := s) (q := q) (dep := 0) (D := opsL ls) ⟨⟨zFr.rf, fun _ _ => rfl, fun _ _ => ⟨rfl, rfl⟩⟩, g1, g2, g3, g4⟩ (fun s1 k => h0 s1 (f.tr k.1) k.2.2.1)⟩⟩
    · have c := Decidable.not_not.mp c
      have hq2 : q + 1 ≤ (a 42 24).toNat := by
        refine Nat.lt_of_not_le (fun e => ?_)
        have := tpF_end a _ e
        omega
      have e : pRest (tpF a) (a 42 24).toNat (j + 1) q ls = pLines (tpF a) (a 42 24).toNat (j + 1) (q + 1) ls := by
        unfold pRest
        rw [if_neg (by omega), if_pos c]
      rw [e, pLines_s] at h1 h0
      have gl := pLine_good (tpF_end a) hq2
      have G : rlG a (zU s 42 25 (wr (s 42 25 + 1))) (q + 1) ls := by
        refine ⟨⟨f.1.U rfl _ _, fun k hk => ?_, f.2.2.1, f.2.2.2.1, f.2.2.2.2⟩, ?_, g2, g3, g4, g5, g6⟩
        · show (if k = 25 then _ else s 42 k) = _
          rw [if_neg (by omega)]
          exact f.2.1 k hk
        · show wr (s 42 25 + 1) = ((q + 1 : Nat) : Int)
          rw [g1, wr_id (by unfold zR; omega)]
          omega
      refine m199 (d := d) h24 G (by omega) (by omega) hq2 (fun e1 s1 k => B200_61 ?_) (fun e1 s1 k1 k2 => B200_61 (B200_31 ⟨fun _ => B200_64 ⟨fun _ => ?_, fun c => absurd k2 (by omega)⟩, fun c => absurd k2 (by omega)⟩))
      · rw [if_pos e1] at h1 h0
        have gl3 := gl.2.2 e1
        have hlen : (encL (pLine (tpF a) (q + 1)).2.2).length = (pLine (tpF a) (q + 1)).2.2.1.length + (pLine (tpF a) (q + 1)).2.2.2.length + 1 := by
          simp only [encL, List.length_append, List.length_map, List.length_cons, List.length_nil]
          omega
        refine ih _ _ s1 (by omega) k ?_ ?_ gl.2.1 h1 h0
        · rw [opsL_app, List.length_append, List.length_append]
          omega
        · rw [List.length_append]
          simp only [List.length_cons, List.length_nil]
          omega
      · rw [if_neg (by rw [e1]; decide)] at h0
        exact h0 rfl s1 k1 k2
/-- what is read is copied -/
theorem m200_copy {L : Nat} (hL : L ≤ 130) {n : Nat} (hn : n ≤ 61) (s0 : zSt) (ho : ∀ k, k < L → -128 ≤ s0 58 (130 + k) ∧ s0 58 (130 + k) ≤ 127) (he : ∀ k, k < n → (-30000 ≤ s0 61 (61 + k) ∧ s0 61 (61 + k) ≤ 30000) ∧ (-30000 ≤ s0 62 (61 + k) ∧ s0 62 (61 + k) ≤ 30000)) (h28 : s0 42 28 = L) (h60 : s0 60 1 = n)
    (h : ∀ s', zFr [58, 59, 60, 61, 62] s0 s' → (∀ k, k < L → s' 58 k = s0 58 (130 + k) ∧ s' 59 k = s0 59 (130 + k)) → s' 60 0 = n → (∀ k, k < n → s' 61 k = s0 61 (61 + k) ∧ s' 62 k = s0 62 (61 + k)) → Q (some (.inl (-1))) s') : zJ x d 200 103 [some (.inr (.inl 42)), some (.inl 0), none] [] s0 Q := by
  have second : ∀ (j i : Nat) (s : zSt), i + j = n → zFr [58, 59, 60, 61, 62] s0 s → (∀ k, k < L → s 58 k = s0 58 (130 + k) ∧ s 59 k = s0 59 (130 + k)) → s 60 0 = n → (∀ k, 61 ≤ k → s 61 k = s0 61 k ∧ s 62 k = s0 62 k) → (∀ k, k < i → s 61 k = s0 61 (61 + k) ∧ s 62 k = s0 62 (61 + k)) → zJ x d 200 177 [some (.inr (.inl 42)), some (.inl 0), some (.inl (i : Int))] [] s Q := by
    intro j
    induction j with
    | zero =>
      intro i s hi f h1 h2 h3 h4
      refine B200_177 ⟨by omega, by omega, fun _ => B200_233 (h s f h1 h2 (fun k hk => h4 k (by omega))), fun c => absurd c (by rw [show (0 : Int).toNat = 0 from rfl, h2]; omega)⟩
    | succ j ih =>
      intro i s hi f h1 h2 h3 h4
      refine B200_177 ⟨by omega, by omega, fun c => absurd c (by rw [show (0 : Int).toNat = 0 from rfl, h2]; omega), fun _ => ?_⟩
      have e3 := h3 (61 + i) (by omega)
      have e4 := he i (by omega)
      rw [show wr (61 + (i : Int)) = ((61 + i : Nat) : Int) by rw [wr_id (by unfold zR; omega)]; omega, show wr (wr (61 * 0) + (i : Int)) = (i : Int) by rw [show wr (61 * 0) = 0 from by decide, wr_id (by unfold zR; omega)]; omega, show wr ((i : Int) + 1) = ((i + 1 : Nat) : Int) by rw [wr_id (by unfold zR; omega)]; omega, Int.toNat_natCast, Int.toNat_natCast, e3.1, e3.2, show w16 (s0 61 (61 + i)) = s0 61 (61 + i) by unfold w16; omega, show w16 (s0 62 (61 + i)) = s0 62 (61 + i) by unfold w16; omega]
      refine ⟨by omega, by omega, by omega, by omega, by omega, by omega, by omega, by omega, ih (i + 1) _ (by omega) ((f.U rfl _ _).U rfl _ _) h1 h2 (fun k hk => ?_) (fun k hk => ?_)⟩
      · show (if k = i then _ else s 61 k) = _ ∧ (if k = i then _ else s 62 k) = _
        rw [if_neg (by omega), if_neg (by omega)]
        exact h3 k hk
      · show (if k = i then _ else s 61 k) = _ ∧ (if k = i then _ else s 62 k) = _
        by_cases e : k = i
        · rw [if_pos e, if_pos e, e]
          exact ⟨rfl, rfl⟩
        · rw [if_neg e, if_neg e]
          exact h4 k (by omega)
  have first : ∀ (j i : Nat) (s : zSt), i + j = L → zFr [58, 59] s0 s → (∀ k, 130 ≤ k → s 58 k = s0 58 k ∧ s 59 k = s0 59 k) → (∀ k, k < i → s 58 k = s0 58 (130 + k) ∧ s 59 k = s0 59 (130 + k)) → zJ x d 200 105 [some (.inr (.inl 42)), some (.inl 0), some (.inl (i : Int))] [] s Q := by
    intro j
    induction j with
    | zero =>
      intro i s hi f h3 h4
      have e28 : s 42 28 = L := (congrFun (f 42 rfl) 28).trans h28
      have e60 : s 60 = s0 60 := f 60 rfl
      refine B200_105 ⟨fun _ => B200_163 ⟨by omega, by omega, by omega, by omega, ?_⟩, fun c => absurd c (by omega)⟩
      rw [e60, h60]
      refine second n 0 _ (by omega) ((f.le [58, 59, 60, 61, 62] rfl).U rfl _ _) (fun k hk => h4 k (by omega)) rfl (fun k hk => ?_) (fun k hk => absurd hk (by omega))
      have e61 : s 61 = s0 61 := f 61 rfl
      have e62 : s 62 = s0 62 := f 62 rfl
      exact ⟨congrFun e61 k, congrFun e62 k⟩
    | succ j ih =>
      intro i s hi f h3 h4
      have e28 : s 42 28 = L := (congrFun (f 42 rfl) 28).trans h28
      refine B200_105 ⟨fun c => absurd c (by omega), fun _ => ?_⟩
      have e3 := h3 (130 + i) (by omega)
      have e4 := ho i (by omega)
      rw [show wr (130 + (i : Int)) = ((130 + i : Nat) : Int) by rw [wr_id (by unfold zR; omega)]; omega, show wr (wr (130 * 0) + (i : Int)) = (i : Int) by rw [show wr (130 * 0) = 0 from by decide, wr_id (by unfold zR; omega)]; omega, show wr ((i : Int) + 1) = ((i + 1 : Nat) : Int) by rw [wr_id (by unfold zR; omega)]; omega, Int.toNat_natCast, Int.toNat_natCast, e3.1, e3.2, show w8 (s0 58 (130 + i)) = s0 58 (130 + i) by unfold w8; omega]
      refine ⟨by omega, by omega, by omega, by omega, by omega, by omega, by omega, by omega, ih (i + 1) _ (by omega) ((f.U rfl _ _).U rfl _ _) (fun k hk => ?_) (fun k hk => ?_)⟩
      · show (if k = i then _ else s 58 k) = _ ∧ (if k = i then _ else s 59 k) = _
        rw [if_neg (by omega), if_neg (by omega)]
        exact h3 k hk
      · show (if k = i then _ else s 58 k) = _ ∧ (if k = i then _ else s 59 k) = _
        by_cases e : k = i
        · rw [if_pos e, if_pos e, e]
          exact ⟨rfl, rfl⟩
        · rw [if_neg e, if_neg e]
          exact h4 k (by omega)
  exact B200_103 (first L 0 s0 (by omega) zFr.rf (fun k _ => ⟨rfl, rfl⟩) (fun k hk => absurd hk (by omega)))
theorem endsL_R {te le : Nat → Int} : ∀ (ls : List zLn) (i k : Nat), endsL te le i k ls → ∀ j, i ≤ j → j < i + ls.length → (0 ≤ te j ∧ te j ≤ (k + (opsL ls).length : Nat)) ∧ (0 ≤ le j ∧ le j ≤ (k + (opsL ls).length : Nat))
  | [], i, k, _, j, h1, h2 => by
    simp only [List.length_nil] at h2
    omega
  | m :: ls, i, k, h, j, h1, h2 => by
    have e : (opsL (m :: ls)).length = m.1.length + m.2.length + (opsL ls).length := by
      simp only [opsL, List.length_append]
      omega
    rw [List.length_cons] at h2
    rw [e]
    by_cases hj : j = i
    · rw [hj, h.1, h.2.1]
      omega
    · have g := endsL_R ls (i + 1) _ h.2.2 j (by omega) (by omega)
      omega
theorem okO_8 {o : Int × Int} (h : okO o) : -128 ≤ o.1 ∧ o.1 ≤ 127 := by
  unfold okO at h
  omega
theorem opsL_ok : ∀ {ls : List zLn}, (∀ l ∈ ls, (l.1 = [] ∨ wfO l.1) ∧ wfO l.2) → ∀ o ∈ opsL ls, okO o
  | [], _, o, ho => by cases ho
  | l :: r, h, o, ho => by
    simp only [opsL, List.mem_append] at ho
    have hl := h l List.mem_cons_self
    rcases ho with ho | ho | ho
    · rcases hl.1 with e | e
      · rw [e] at ho
        cases ho
      · exact e.1 o ho
    · exact hl.2.1 o ho
    · exact opsL_ok (fun m hm => h m (List.mem_cons_of_mem _ hm)) o ho
theorem e_law (h24 : 0 ≤ s 42 24 ∧ s 42 24 ≤ 120)
    (h1 : (pText s).1 = true → ∀ s', zFr rlL s s' → (∀ k, k < 24 ∨ 28 < k ∧ k ≠ 36 → s' 42 k = s 42 k) → s' 42 24 = 0 → s' 42 36 = 1 → s' 60 0 = (pText s).2.2.length → (∀ k o, (opsL (pText s).2.2)[k]? = some o → s' 58 k = o.1 ∧ s' 59 k = o.2) → endsL (s' 61) (s' 62) 0 0 (pText s).2.2 → Q (some (.inl 1)) s')
    (h0 : (pText s).1 = false → ∀ s', zFr rlL s s' → (∀ k, k < 24 ∨ 28 < k → s' 42 k = s 42 k) → s' 42 24 = 0 → (∀ k, k < 130 → s' 58 k = s 58 k ∧ s' 59 k = s 59 k) → s' 60 0 = s 60 0 → (∀ k, k < 61 → s' 61 k = s 61 k ∧ s' 62 k = s 62 k) → Q (some (.inl (-100 - ((pText s).2.1 : Nat)))) s') : zE x (d + 62) 204 [.inr (.inl 42)] s Q := by
  have hN : (s 42 24).toNat ≤ 120 := by omega
  have gp := pLines_good (tpF_end s) 121 0 [] (by omega)
  have bad : (pText s).1 = false → ∀ u, rlF s u → u 42 26 = ((pText s).2.1 : Nat) → zJ x (d + 60) 200 86 [some (.inr (.inl 42)), some (.inl 0), none] [] u (fun r s1 => zJ x (d + 61) 204 5 [some (.inr (.inl 42)), none] (zAp r []) s1 Q) := fun e u k1 k2 => by
    have hq : (pText s).2.1 ≤ 120 := Nat.le_trans gp hN
    refine B200_86 ⟨fun c => absurd c (by omega), fun _ => ?_⟩
    rw [k2]
    refine B204_5 ⟨fun c => absurd c (by omega), fun _ => ?_⟩
    rw [wr_id (x := -100 - ((pText s).2.1 : Int)) (by unfold zR; omega)]
    refine h0 e _ (k1.1.U rfl _ _) (fun k hk => ?_) rfl k1.2.2.1 k1.2.2.2.1 k1.2.2.2.2
    show (if k = 24 then _ else u 42 k) = _
    rw [if_neg (by omega)]
    exact k1.2.1 k (by omega)
  refine N204 (B204_0 (N200 (B200_0 ⟨by omega, by omega, ?_⟩)))
  have eT : pText s = if (pLine (tpF s) 0).1 then pRest (tpF s) (s 42 24).toNat 120 (pLine (tpF s) 0).2.1 ([] ++ [(pLine (tpF s) 0).2.2]) else (false, (pLine (tpF s) 0).2.1, []) := rfl
  have gl := pLine_good (tpF_end s) (Nat.zero_le _)
  refine m199 (d := d) (a := s) (p := 0) (ls := []) h24 ⟨⟨((((((zFr.rf.U rfl _ _).U rfl _ _).U rfl _ _).U rfl _ _).U rfl _ _)), fun k hk => ?_, fun _ _ => ⟨rfl, rfl⟩, rfl, fun _ _ => ⟨rfl, rfl⟩⟩, rfl, rfl, rfl, ⟨rfl, fun k o hk => by cases hk⟩, rfl, trivial⟩ (Nat.le_refl _) (Nat.le_refl _) (Nat.zero_le _) (fun e s1 k => ?_) (fun e s1 k1 k2 => B200_31 ⟨fun _ => B200_64 ⟨fun _ => ?_, fun c => absurd k2 (by omega)⟩, fun c => absurd k2 (by omega)⟩)
  · show (if k = 28 then _ else if k = 27 then _ else if k = 26 then _ else if k = 25 then _ else s 42 k) = _
    rw [if_neg (by omega), if_neg (by omega), if_neg (by omega), if_neg (by omega)]
  · rw [if_pos e] at eT
    have gl3 := gl.2.2 e
    have hlen : (encL (pLine (tpF s) 0).2.2).length = (pLine (tpF s) 0).2.2.1.length + (pLine (tpF s) 0).2.2.2.length + 1 := by
      simp only [encL, List.length_append, List.length_map, List.length_cons, List.length_nil]
      omega
    refine m200_loop (d := d) h24 120 _ _ s1 (by omega) k ?_ ?_ gl.2.1 (fun e2 u q' k hq => ?_) (fun e2 u k1 k2 => ?_)
    · simp only [List.nil_append, opsL, List.length_append, List.length_nil]
      omega
    · simp only [List.nil_append, List.length_cons, List.length_nil]
      omega
    · rw [← eT] at e2 k
      obtain ⟨f, g1, g2, g3, g4, g5, g6⟩ := k
      have T2 : u 42 24 = s 42 24 := f.2.1 24 (by omega)
      have wf := pLines_wf (T := tpF s) (N := (s 42 24).toNat) 121 0 [] (fun l hl => by cases hl) e2
      have len := pLines_len (tpF_end s) 121 0 [] (Nat.zero_le _) (Nat.le_refl _) (Nat.le_refl _) e2
      have ol := opsL_len (pText s).2.2
      have len : (encC (pText s).2.2).length ≤ (s 42 24).toNat + 1 ∧ 2 * (pText s).2.2.length ≤ (s 42 24).toNat + 2 := len
      have wf : (pText s).2.2 ≠ [] ∧ ∀ l ∈ (pText s).2.2, (l.1 = [] ∨ wfO l.1) ∧ wfO l.2 := wf
      have eR := endsL_R _ 0 0 g6
      refine B200_64 ⟨fun c => absurd c (by omega), fun _ => ⟨fun _ => B200_86 ⟨fun _ => ?_, fun c => absurd c (by omega)⟩, fun c => absurd c (by omega)⟩⟩
      refine m200_copy (L := (opsL (pText s).2.2).length) (n := (pText s).2.2.length) (by omega) (by omega) _ (fun k hk => ?_) (fun k hk => ?_) g4.1 g5 (fun s' k1 k2 k3 k4 => B204_5 ⟨fun _ => B204_15 ⟨Or.inr rfl, h1 e2 _ ?_ ?_ ?_ rfl k3 ?_ ?_⟩, fun c => absurd (by decide) c⟩)
      · have hk2 := g4.2 k _ (List.getElem?_eq_getElem hk)
        have ok := okO_8 (opsL_ok wf.2 _ (List.getElem_mem hk))
        show -128 ≤ u 58 (130 + k) ∧ u 58 (130 + k) ≤ 127
        rw [hk2.1]
        exact ok
      · have r := eR k (Nat.zero_le _) (by omega)
        show (-30000 ≤ u 61 (61 + k) ∧ u 61 (61 + k) ≤ 30000) ∧ (-30000 ≤ u 62 (61 + k) ∧ u 62 (61 + k) ≤ 30000)
        generalize u 61 (61 + k) = z1 at *
        generalize u 62 (61 + k) = z2 at *
        omega
      · exact ((((f.1.U rfl _ _)).tr (k1.le _ rfl)).U rfl _ _)
      · intro k hk
        have e42 : s' 42 = (zU u 42 24 0) 42 := k1 42 rfl
        show (if k = 36 then _ else s' 42 k) = _
        rw [if_neg (by omega), e42]
        show (if k = 24 then _ else u 42 k) = _
        rw [if_neg (by omega)]
        exact f.2.1 k (by omega)
      · have e42 : s' 42 = (zU u 42 24 0) 42 := k1 42 rfl
        show s' 42 24 = 0
        rw [e42]
        rfl
      · intro k o hk
        have hlt := (List.getElem?_eq_some_iff.mp hk).1
        have a1 := k2 k hlt
        have a2 := g4.2 k o hk
        exact ⟨a1.1.trans a2.1, a1.2.trans a2.2⟩
      · refine endsL_eq _ 0 0 (fun j h1 h2 => ?_) g6
        exact k4 j (by omega)
    · rw [← eT] at e2 k2
      exact bad e2 u k1 k2
  · rw [if_neg (by rw [e]; decide)] at eT
    refine bad (by rw [eT]) s1 k1 ?_
    rw [eT]
    exact k2
end ZRead4
