/-! bodies, what they run: the reference -/
def mec1 (s : zSt) (b : Int) : zSt := zU (if 24 ≤ s 42 53 then s else zU s 78 (s 42 53).toNat b) 42 53 (wr ((if 24 ≤ s 42 53 then s else zU s 78 (s 42 53).toNat b) 42 53 + 1))
def mecL : zSt → List Int → zSt
  | s, [] => s
  | s, b :: l => mecL (mec1 s b) l
theorem mec1_n {s : zSt} {b : Int} (h : 0 ≤ s 42 53 ∧ s 42 53 ≤ 1000) : mec1 s b 42 53 = s 42 53 + 1 := by
  unfold mec1
  rw [zU_at]
  show wr _ = _
  split
  · rw [wr_id (by unfold zR; omega)]
  · rw [zU_ne (by decide), wr_id (by unfold zR; omega)]
theorem mec1_o {s : zSt} {b : Int} {q : Nat} (h : q ≠ 42 ∧ q ≠ 78) : mec1 s b q = s q := by
  unfold mec1
  rw [zU_ne h.1]
  split
  · rfl
  · rw [zU_ne h.2]
theorem mec1_42 {s : zSt} {b : Int} {k : Nat} (h : k ≠ 53) : mec1 s b 42 k = s 42 k := by
  unfold mec1
  rw [zU_at]
  show (if k = 53 then _ else _) = _
  rw [if_neg h]
  split
  · rfl
  · rw [zU_ne (by decide)]
theorem mec1_78 {s : zSt} {b : Int} {k : Nat} (h0 : 0 ≤ s 42 53) (h : k < 24) : mec1 s b 78 k = if (k : Int) = s 42 53 then b else s 78 k := by
  unfold mec1
  rw [zU_ne (by decide)]
  split
  · rw [if_neg (by omega)]
  · rw [zU_at]
    show (if k = (s 42 53).toNat then b else _) = _
    by_cases e : (k : Int) = s 42 53
    · rw [if_pos e, if_pos (by omega)]
    · rw [if_neg e, if_neg (by omega)]
theorem mecL_cons (s : zSt) (b : Int) (l : List Int) : mecL s (b :: l) = mecL (mec1 s b) l := rfl
theorem mecL_app : ∀ (s : zSt) (l m : List Int), mecL (mecL s l) m = mecL s (l ++ m)
  | _, [], _ => rfl
  | s, b :: l, m => mecL_app (mec1 s b) l m
theorem mecL_n : ∀ (l : List Int) {s : zSt}, 0 ≤ s 42 53 ∧ s 42 53 + l.length ≤ 1000 → mecL s l 42 53 = s 42 53 + l.length
  | [], s, _ => by simp [mecL]
  | b :: l, s, h => by
    simp only [List.length_cons] at *
    have e := mec1_n (b := b) (s := s) (by omega)
    show mecL (mec1 s b) l 42 53 = _
    rw [mecL_n l (by omega), e]
    omega
theorem mecL_78 : ∀ (l : List Int) {s : zSt} {k : Nat}, 0 ≤ s 42 53 ∧ s 42 53 + l.length ≤ 1000 → k < 24 → ((k : Int) < s 42 53 → mecL s l 78 k = s 78 k) ∧ (s 42 53 ≤ k → (k : Int) < s 42 53 + l.length → mecL s l 78 k = l.getD (k - (s 42 53).toNat) 0)
  | [], s, k, _, _ => ⟨fun _ => rfl, fun h1 h2 => by simp at h2; omega⟩
  | b :: l, s, k, h, hk => by
    simp only [List.length_cons] at *
    have e := mec1_n (b := b) (s := s) (by omega)
    have q := mecL_78 l (s := mec1 s b) (k := k) (by omega) hk
    have r := mec1_78 (s := s) (b := b) h.1 hk
    rw [e] at q
    constructor
    · intro h1
      show mecL (mec1 s b) l 78 k = _
      rw [q.1 (by omega), r, if_neg (by omega)]
    · intro h1 h2
      show mecL (mec1 s b) l 78 k = _
      by_cases e2 : (k : Int) = s 42 53
      · rw [q.1 (by omega), r, if_pos e2, show k - (s 42 53).toNat = 0 by omega]
        rfl
      · rw [q.2 (by omega) (by omega), show k - (s 42 53).toNat = (k - (s 42 53 + 1).toNat) + 1 by omega]
        rfl
theorem mecL_o : ∀ (l : List Int) {s : zSt} {q : Nat}, q ≠ 42 ∧ q ≠ 78 → mecL s l q = s q
  | [], _, _, _ => rfl
  | _ :: l, _, _, h => (mecL_o l h).trans (mec1_o h)
theorem mecL_42 : ∀ (l : List Int) {s : zSt} {k : Nat}, k ≠ 53 → mecL s l 42 k = s 42 k
  | [], _, _, _ => rfl
  | _ :: l, _, _, h => (mecL_42 l h).trans (mec1_42 h)
theorem mecL_R {l : List Int} {s : zSt} {B : Int} (h : 0 ≤ s 42 53 ∧ s 42 53 ≤ B) (hl : (l.length : Int) ≤ 20 ∧ B ≤ 900) : 0 ≤ mecL s l 42 53 ∧ mecL s l 42 53 ≤ B + 20 := by
  rw [mecL_n l (by omega)]
  omega
abbrev subF (k w : Int) : Prop := w = 0 ∨ k = w ∨ (w = 1 ∧ k = 4) ∨ (w = 2 ∧ (k = 3 ∨ k = 5)) ∨ (w = 3 ∧ k = 5) ∨ (w = 6 ∧ k = 7)
abbrev isMd (s : zSt) (κ i : Int) : Prop := (0 ≤ i ∧ i < 50) ∧ s 77 i.toNat = κ ∧ 0 ≤ κ ∧ κ ≤ 7
theorem isMd.L {s : zSt} {κ i : Int} (h : isMd s κ i) (l : List Int) : isMd (mecL s l) κ i := by
  unfold isMd
  rw [mecL_o l (by decide)]
  exact h
theorem isMd.M {s : zSt} {κ i : Int} (h : isMd s κ i) (b : Int) : isMd (mec1 s b) κ i := isMd.L h [b]
section ZMActs
variable {x : List Int} {d : Nat} {a s t : zSt} {Q : zQ} {V : Int}
theorem m259 {b : Int} (hR : 0 ≤ s 42 53) (h : Q none (mec1 s b)) : zE x (d + 1) 259 [.inr (.inl 42), .inl b] s Q := by
  unfold mec1 at h
  refine N259 (B259_0 ⟨fun h0 => B259_19 ?_, fun h0 => ⟨hR, by omega, B259_19 ?_⟩⟩)
  · rw [if_pos h0] at h
    exact h
  · rw [if_neg h0] at h
    exact h
theorem m262 {k w : Int} (h : Q (some (.inl (if subF k w then 1 else 0))) s) : zE x (d + 1) 262 [.inl k, .inl w] s Q := by
  refine N262 ?_
  repeat' (first | with_reducible refine B262_0 ?_ | with_reducible refine B262_19 ?_ | with_reducible refine B262_34 ?_ | with_reducible refine B262_44 ?_ | with_reducible refine B262_56 ?_ | with_reducible refine B262_60 ?_ | with_reducible refine B262_61 ?_ | with_reducible refine ⟨fun _ => ?_, fun _ => ?_⟩ | (refine ⟨by omega, ?_⟩) | refine ⟨by omega, by omega, ?_⟩ | fail)
  all_goals refine zQi h ?_
  all_goals unfold subF
  all_goals omega
theorem r_pr {i n : Int} (hR : 0 ≤ s 42 53) : zRun x (d + 2) 263 [.inr (.inl 42), .inl i, .inl n] s (prV i n) (mecL s [1]) := fun _ hQ => N263 (B263_0 (m259 hR (B263_5 hQ)))
theorem r_pz {i n : Int} (hR : 0 ≤ s 42 53 ∧ s 42 53 ≤ 900) : zRun x (d + 3) 264 [.inr (.inl 42), .inl i, .inl n] s (pzV i n) (mecL s [70, 1]) := fun _ hQ =>
  N264 (B264_0 (m259 hR.1 (B264_6 (r_pr (by rw [mec1_n (by omega)]; omega) _ (B264_12 hQ)))))
theorem r_xo {i n : Int} (hR : 0 ≤ s 42 53) : zRun x (d + 2) 269 [.inr (.inl 42), .inl i, .inl n] s (xoV i n) (mecL s [11]) := fun _ hQ => N269 (B269_0 (m259 hR (B269_6 hQ)))
theorem r_oa {i n : Int} (hR : 0 ≤ s 42 53 ∧ s 42 53 ≤ 900) : zRun x (d + 3) 270 [.inr (.inl 42), .inl i, .inl n] s (oaV i n) (mecL s [40, 11]) := fun _ hQ =>
  N270 (B270_0 (m259 hR.1 (B270_6 (r_xo (by rw [mec1_n (by omega)]; omega) _ (B270_12 hQ)))))
theorem r_ru {κ i n : Int} (hb : isMd s κ i) (hR : 0 ≤ s 42 53 ∧ s 42 53 ≤ 800) : zRun x (d + 5) 265 [.inr (.inl 42), .inl i, .inl n] s (ruV κ i n) (mecL s (ruL κ)) := by
  intro Q hQ
  have hb' := hb
  obtain ⟨b1, b2, b3⟩ := hb
  have e1 := fun b => mec1_n (s := s) (b := b) (by omega)
  have hκ : κ = 0 ∨ κ = 1 ∨ κ = 2 ∨ κ = 3 ∨ κ = 4 ∨ κ = 5 ∨ κ = 6 ∨ κ = 7 := by omega
  refine N265 (B265_0 ⟨b1.1, b1.2, m262 (B265_10 ⟨fun h0 => B265_28 ⟨b1.1, b1.2, fun h1 => B265_54 ⟨b1.1, b1.2, fun h2 => B265_74 ?_, fun h2 => ?_⟩, fun h1 => ?_⟩, fun h0 => ?_⟩)⟩)
  all_goals rw [b2] at *
  · rcases hκ with rfl | rfl | rfl | rfl | rfl | rfl | rfl | rfl
    all_goals first | exact absurd h0 (by decide) | exact absurd h1 (by decide) | exact absurd h2 (by decide) | exact r_pr hR.1 _ (B265_80 hQ)
  · rcases hκ with rfl | rfl | rfl | rfl | rfl | rfl | rfl | rfl
    all_goals first | exact absurd h0 (by decide) | exact absurd h1 (by decide) | exact absurd h2 (by decide) | exact r_pz (by omega) _ (B265_71 (B265_80 hQ))
  · rcases hκ with rfl | rfl | rfl | rfl | rfl | rfl | rfl | rfl
    all_goals first | exact absurd h0 (by decide) | exact absurd h1 (by decide) | exact m259 hR.1 (B265_45 (r_pz (by show 0 ≤ mec1 s 81 42 53 ∧ mec1 s 81 42 53 ≤ 900; rw [e1]; omega) _ (B265_51 hQ)))
  · rcases hκ with rfl | rfl | rfl | rfl | rfl | rfl | rfl | rfl
    all_goals first | exact absurd h0 (by decide) | exact m259 hR.1 (B265_19 (r_pr (by show 0 ≤ mec1 s 20 42 53; rw [e1]; omega) _ (B265_25 hQ)))
theorem r_po {κ i n : Int} (hb : isMd s κ i) (hR : 0 ≤ s 42 53 ∧ s 42 53 ≤ 700) : zRun x (d + 6) 266 [.inr (.inl 42), .inl i, .inl n] s (poV κ i n) (mecL s (poL κ)) := fun _ hQ =>
  N266 (B266_0 (m259 hR.1 (B266_6 (r_ru (hb.M 10) (by rw [mec1_n (by omega)]; omega) _ (B266_12 hQ)))))
theorem r_so {κ i n : Int} (hb : isMd s κ i) (hR : 0 ≤ s 42 53 ∧ s 42 53 ≤ 600) : zRun x (d + 7) 267 [.inr (.inl 42), .inl i, .inl n] s (soV κ i n) (mecL s (30 :: poL κ)) := fun _ hQ =>
  N267 (B267_0 (m259 hR.1 (B267_6 (r_po (hb.M 30) (by rw [mec1_n (by omega)]; omega) _ (B267_12 hQ)))))
theorem r_pa {κ i n : Int} (hb : isMd s κ i) (hR : 0 ≤ s 42 53 ∧ s 42 53 ≤ 600) : zRun x (d + 7) 271 [.inr (.inl 42), .inl i, .inl n] s (paV κ i n) (mecL s (paL κ)) := by
  intro Q hQ
  have hb' := hb
  obtain ⟨b1, b2, b3⟩ := hb
  have e1 := fun b => mec1_n (s := s) (b := b) (by omega)
  have hκ : κ = 0 ∨ κ = 1 ∨ κ = 2 ∨ κ = 3 ∨ κ = 4 ∨ κ = 5 ∨ κ = 6 ∨ κ = 7 := by omega
  refine N271 (B271_0 ⟨b1.1, b1.2, fun h0 => B271_32 ⟨b1.1, b1.2, fun h1 => B271_51 ?_, fun h1 => ?_⟩, fun h0 => ?_⟩)
  all_goals rw [b2] at *
  · rcases hκ with rfl | rfl | rfl | rfl | rfl | rfl | rfl | rfl
    all_goals first | exact absurd h0 (by decide) | exact absurd h1 (by decide) | exact r_xo hR.1 _ (B271_57 hQ)
  · rcases hκ with rfl | rfl | rfl | rfl | rfl | rfl | rfl | rfl
    all_goals first | exact absurd h0 (by decide) | exact absurd h1 (by decide) | exact r_oa (by omega) _ (B271_48 (B271_57 hQ))
  · have e : κ = 5 := Decidable.not_not.mp h0
    subst e
    refine m259 hR.1 (B271_16 (r_oa (by show 0 ≤ mec1 s 60 42 53 ∧ mec1 s 60 42 53 ≤ 900; rw [e1]; omega) _ (B271_22 (r_ru (hb'.L [60, 40, 11]) ?_ _ (B271_30 hQ)))))
    rw [mecL_n [60, 40, 11] (by simp only [List.length_cons, List.length_nil]; omega)]
    simp only [List.length_cons, List.length_nil]
    omega
theorem owL_7 : owL 7 = 80 :: (poL 7 ++ paL 7) := by
  unfold owL
  generalize 80 :: (poL 7 ++ paL 7) = q
  rfl
theorem r_ow {κ i n : Int} (hb : isMd s κ i) (hR : 0 ≤ s 42 53 ∧ s 42 53 ≤ 400) : zRun x (d + 9) 268 [.inr (.inl 42), .inl i, .inl n] s (owV κ i n) (mecL s (owL κ)) := by
  intro Q hQ
  have hb' := hb
  obtain ⟨b1, b2, b3⟩ := hb
  have e1 := fun b => mec1_n (s := s) (b := b) (by omega)
  have hκ : κ = 0 ∨ κ = 1 ∨ κ = 2 ∨ κ = 3 ∨ κ = 4 ∨ κ = 5 ∨ κ = 6 ∨ κ = 7 := by omega
  refine N268 (B268_0 ⟨b1.1, b1.2, m262 (B268_10 ⟨fun h0 => B268_28 ⟨b1.1, b1.2, fun h1 => B268_61 ⟨b1.1, b1.2, fun h2 => B268_80 ?_, fun h2 => ?_⟩, fun h1 => ?_⟩, fun h0 => ?_⟩)⟩)
  all_goals rw [b2] at *
  · rcases hκ with rfl | rfl | rfl | rfl | rfl | rfl | rfl | rfl
    all_goals first | exact absurd h0 (by decide) | exact absurd h1 (by decide) | exact absurd h2 (by decide) | exact r_po hb' (by omega) _ (B268_86 hQ)
  · rcases hκ with rfl | rfl | rfl | rfl | rfl | rfl | rfl | rfl
    all_goals first | exact absurd h0 (by decide) | exact absurd h1 (by decide) | exact absurd h2 (by decide) | exact r_so hb' (by omega) _ (B268_77 (B268_86 hQ))
  · have e : κ = 7 := Decidable.not_not.mp h1
    subst e
    refine m259 hR.1 (B268_45 (r_po (hb'.M 80) (by show 0 ≤ mec1 s 80 42 53 ∧ mec1 s 80 42 53 ≤ 700; rw [e1]; omega) _ (B268_51 (r_pa ((hb'.M 80).L _) ?_ _ (B268_59 (zQs hQ ?_))))))
    · have := mecL_R (s := mec1 s 80) (l := poL 7) (B := 500) (by rw [e1]; omega) (by decide)
      omega
    · rw [owL_7, mecL_cons, ← mecL_app]
  · rcases hκ with rfl | rfl | rfl | rfl | rfl | rfl | rfl | rfl
    all_goals first | exact absurd h0 (by decide) | exact m259 hR.1 (B268_19 (r_so (hb'.M 41) (by show 0 ≤ mec1 s 41 42 53 ∧ mec1 s 41 42 53 ≤ 600; rw [e1]; omega) _ (B268_27 hQ)))
theorem r_te {κ i n : Int} (hb : isMd s κ i) (hR : 0 ≤ s 42 53 ∧ s 42 53 ≤ 300) : zRun x (d + 10) 272 [.inr (.inl 42), .inl i, .inl n] s (teV κ i n) (mecL s (teL κ)) := by
  intro Q hQ
  have e1 := fun b => mec1_n (s := s) (b := b) (by omega)
  have hl := owL_n hb.2.2
  refine N272 (B272_0 (m259 hR.1 (B272_5 (r_ow (hb.M 2) (by show 0 ≤ mec1 s 2 42 53 ∧ mec1 s 2 42 53 ≤ 400; rw [e1]; omega) _ (B272_11 (r_pa ((hb.M 2).L _) ?_ _ (B272_19 (zQs hQ ?_))))))))
  · have := mecL_R (s := mec1 s 2) (l := owL κ) (B := 500) (by rw [e1]; omega) (by omega)
    omega
  · exact (mecL_app (mec1 s 2) (owL κ) (paL κ)).symm
theorem tlVL {κ : Int} (i n : Int) (h : 0 ≤ κ ∧ κ ≤ 7) (h4 : κ ≠ 4) (h5 : κ ≠ 5) : tlV κ i n = teV κ i n ∧ tlL κ = teL κ := by
  have hκ : κ = 0 ∨ κ = 1 ∨ κ = 2 ∨ κ = 3 ∨ κ = 6 ∨ κ = 7 := by omega
  unfold tlV tlL
  generalize teV κ i n = v
  generalize teL κ = l
  rcases hκ with rfl | rfl | rfl | rfl | rfl | rfl <;> exact ⟨rfl, rfl⟩
theorem r_tl {κ i n : Int} (hb : isMd s κ i) (hR : 0 ≤ s 42 53 ∧ s 42 53 ≤ 200) : zRun x (d + 11) 273 [.inr (.inl 42), .inl i, .inl n] s (tlV κ i n) (mecL s (tlL κ)) := by
  intro Q hQ
  have hb' := hb
  obtain ⟨b1, b2, b3⟩ := hb
  have e1 := fun b => mec1_n (s := s) (b := b) (by omega)
  have hκ : κ = 0 ∨ κ = 1 ∨ κ = 2 ∨ κ = 3 ∨ κ = 4 ∨ κ = 5 ∨ κ = 6 ∨ κ = 7 := by omega
  refine N273 (B273_0 ⟨b1.1, b1.2, fun h0 => B273_25 ⟨b1.1, b1.2, fun h1 => B273_50 ?_, fun h1 => ?_⟩, fun h0 => ?_⟩)
  all_goals rw [b2] at *
  · have e := tlVL i n b3 h0 h1
    rw [e.1, e.2] at hQ
    exact r_te hb' (by omega) _ (B273_56 hQ)
  · have e : κ = 5 := Decidable.not_not.mp h1
    subst e
    rw [tlV_5, tlL_5, mecL_cons] at hQ
    exact m259 hR.1 (B273_41 (r_te (hb'.M 61) (by show 0 ≤ mec1 s 61 42 53 ∧ mec1 s 61 42 53 ≤ 300; rw [e1]; omega) _ (B273_47 hQ)))
  · have e : κ = 4 := Decidable.not_not.mp h0
    subst e
    rw [tlV_4, tlL_4, mecL_cons] at hQ
    exact m259 hR.1 (B273_16 (r_te (hb'.M 50) (by show 0 ≤ mec1 s 50 42 53 ∧ mec1 s 50 42 53 ≤ 300; rw [e1]; omega) _ (B273_22 hQ)))
theorem e_act {i w n : Int} (hB : 0 ≤ a 42 51 ∧ a 42 51 ≤ 50) (hK : ∀ k : Nat, (k : Int) < a 42 51 → 0 ≤ a 77 k ∧ a 77 k ≤ 7) (hs : zSim a s) (h : Q (some (.inl (rAct a i w n))) (mecL (zU s 42 53 0) (lAct a i w))) : zE x (d + 20) 274 [.inr (.inl 42), .inl i, .inl w, .inl n] s Q := by
  have e51 : s 42 51 = a 42 51 := z42 hs
  have e77 : s 77 = a 77 := hs 77 rfl
  have bad : ¬ ((0 ≤ i ∧ i < a 42 51) ∧ 0 ≤ w ∧ w ≤ 3) → Q (some (.inl 0)) (zU s 42 53 0) := fun hw => by
    unfold rAct lAct at h
    rw [if_neg hw, if_neg hw] at h
    exact h
  have g51 : zU s 42 53 0 42 51 = a 42 51 := e51
  refine N274 (B274_0 (N258 (B258_0 (m170 (B258_11 ⟨by omega, B274_10 ⟨fun h0 => B274_22 (bad ?_), fun h0 => m170 (B274_19 ⟨fun h1 => B274_24 ?_, fun h1 => B274_22 (bad (by omega))⟩)⟩⟩)))))
  · rw [g51, wr_id (by unfold zR; omega)] at h0
    omega
  · rw [g51, wr_id (by unfold zR; omega)] at h0
    unfold rAct lAct at h
    rw [if_pos (by omega), if_pos (by omega)] at h
    have hb : isMd (zU s 42 53 0) (a 77 i.toNat) i := ⟨by omega, congrFun e77 i.toNat, hK i.toNat (by omega)⟩
    have hR : (zU s 42 53 0) 42 53 = 0 := rfl
    have hw : w = 0 ∨ w = 1 ∨ w = 2 ∨ w = 3 := by omega
    rcases hw with rfl | rfl | rfl | rfl
    · exact ⟨fun e => absurd e (by decide), fun _ => r_ru hb (by omega) _ (B274_34 (B274_71 h))⟩
    · exact ⟨fun _ => B274_37 ⟨fun e => absurd e (by decide), fun _ => r_ow hb (by omega) _ (B274_48 (B274_71 h))⟩, fun e => absurd e (by decide)⟩
    · exact ⟨fun _ => B274_37 ⟨fun _ => B274_51 ⟨fun e => absurd e (by decide), fun _ => r_pa hb (by omega) _ (B274_62 (B274_71 h))⟩, fun e => absurd e (by decide)⟩, fun e => absurd e (by decide)⟩
    · exact ⟨fun _ => B274_37 ⟨fun _ => B274_51 ⟨fun _ => B274_65 (r_tl hb (by omega) _ (B274_71 h)), fun e => absurd e (by decide)⟩, fun e => absurd e (by decide)⟩, fun e => absurd e (by decide)⟩
noncomputable def vBody (a s : zSt) (k : Int) : zSt := if 0 ≤ k ∧ k < 8 ∧ a 42 51 < 50 then zU (zU s 77 (a 42 51).toNat k) 42 51 (a 42 51 + 1) else s
theorem e_body {k : Int} (hB : 0 ≤ a 42 51 ∧ a 42 51 ≤ 50) (hs : zSim a s) (h : Q (some (.inl (rBody a k))) (vBody a s k)) : zE x (d + 3) 261 [.inr (.inl 42), .inl k] s Q := by
  have e51 : s 42 51 = a 42 51 := z42 hs
  unfold rBody vBody at h
  refine N261 (B261_0 (m170 (B261_7 ⟨fun h0 => B261_12 ⟨fun h1 => B261_24 ⟨by omega, by omega, ?_⟩, fun h1 => ?_⟩, fun h0 => ?_⟩)))
  · rw [if_pos (by omega), if_pos (by omega), if_pos (by omega)] at h
    refine zQs (zQi h ?_) ?_
    · rw [wr_id (x := s 42 51 + 1) (by unfold zR; omega), wr_id (by unfold zR; omega)]
      omega
    · rw [e51, wr_id (by unfold zR; omega)]
  · rw [if_pos (by omega), if_neg (by omega), if_neg (by omega)] at h
    exact h
  · rw [if_neg (by omega), if_neg (by omega)] at h
    exact h
theorem e_traced {k : Int} (hs : zSim a s) (h : Q (some (.inl (rTraced a k))) s) : zE x (d + 2) 260 [.inr (.inl 42), .inl k] s Q := by
  have e53 : s 42 53 = a 42 53 := z42 hs
  have e78 : s 78 k.toNat = a 78 k.toNat := congrFun (hs 78 rfl) k.toNat
  unfold rTraced at h
  refine N260 ?_
  repeat' (first | with_reducible refine B260_0 ?_ | with_reducible refine B260_27 ?_ | with_reducible refine B260_28 ?_ | with_reducible refine ⟨fun _ => ?_, fun _ => ?_⟩ | refine ⟨by omega, by omega, ?_⟩ | fail)
  all_goals refine zQi h ?_
  all_goals first | rw [if_neg (by omega)] | (rw [if_pos (by omega)]; exact e78.symm)
/-- count(w): the class's own are asked for at the place that holds them -/
def rCount (a : zSt) (w : Int) : Int := if w = 0 then a 42 1 else if w = 1 then a 42 6 else if w = 2 then a 42 24 else if w = 3 then a 42 17 else if w = 4 then a 42 51 else if w = 5 then a 42 53 else -1
theorem e_count {w : Int} (hs : zSim a s) (h : Q (some (.inl (rCount a w))) s) : zE x (d + 1) 275 [.inr (.inl 42), .inl w] s Q := by
  have e := fun k => z42 (k := k) hs
  unfold rCount at h
  refine N275 ?_
  repeat' (first | with_reducible refine B275_0 ?_ | with_reducible refine B275_40 ?_ | with_reducible refine B275_45 ?_ | with_reducible refine B275_50 ?_ | with_reducible refine B275_55 ?_ | with_reducible refine B275_60 ?_ | with_reducible refine B275_65 ?_ | with_reducible refine B275_70 ?_ | with_reducible refine ⟨fun _ => ?_, fun _ => ?_⟩ | refine ⟨by omega, by omega, ?_⟩ | fail)
  all_goals refine zQi h ?_
  all_goals try rw [e]
  all_goals (repeat' split) <;> first | rfl | omega
end ZMActs
