/-! bodies, what they run: the class -/
def zBod (a : zSt) : Prop := a 9 1 = a 42 51 ∧ (0 ≤ a 9 1 ∧ a 9 1 ≤ 50) ∧ ∀ k : Nat, (k : Int) < a 9 1 → a 36 k = a 77 k ∧ 0 ≤ a 36 k ∧ a 36 k ≤ 7
/-- the class writes down that a body ran -/
def rec1 (s : zSt) (b : Int) : zSt := zU (if 24 ≤ s 9 3 then s else zU s 37 (s 9 3).toNat b) 9 3 (wr ((if 24 ≤ s 9 3 then s else zU s 37 (s 9 3).toNat b) 9 3 + 1))
def recL : zSt → List Int → zSt
  | s, [] => s
  | s, b :: l => recL (rec1 s b) l
theorem rec1_n {s : zSt} {b : Int} (h : 0 ≤ s 9 3 ∧ s 9 3 ≤ 1000) : rec1 s b 9 3 = s 9 3 + 1 := by
  unfold rec1
  rw [zU_at]
  show wr _ = _
  split
  · rw [wr_id (by unfold zR; omega)]
  · rw [zU_ne (by decide), wr_id (by unfold zR; omega)]
theorem rec1_o {s : zSt} {b : Int} {q : Nat} (h : q ≠ 9 ∧ q ≠ 37) : rec1 s b q = s q := by
  unfold rec1
  rw [zU_ne h.1]
  split
  · rfl
  · rw [zU_ne h.2]
theorem rec1_9 {s : zSt} {b : Int} {k : Nat} (h : k ≠ 3) : rec1 s b 9 k = s 9 k := by
  unfold rec1
  rw [zU_at]
  show (if k = 3 then _ else _) = _
  rw [if_neg h]
  split
  · rfl
  · rw [zU_ne (by decide)]
theorem rec1_37 {s : zSt} {b : Int} {k : Nat} (h0 : 0 ≤ s 9 3) (h : k < 24) : rec1 s b 37 k = if (k : Int) = s 9 3 then b else s 37 k := by
  unfold rec1
  rw [zU_ne (by decide)]
  split
  · rw [if_neg (by omega)]
  · rw [zU_at]
    show (if k = (s 9 3).toNat then b else _) = _
    by_cases e : (k : Int) = s 9 3
    · rw [if_pos e, if_pos (by omega)]
    · rw [if_neg e, if_neg (by omega)]
theorem recL_app : ∀ (s : zSt) (l m : List Int), recL (recL s l) m = recL s (l ++ m)
  | _, [], _ => rfl
  | s, b :: l, m => recL_app (rec1 s b) l m
theorem recL_n : ∀ (l : List Int) {s : zSt}, 0 ≤ s 9 3 ∧ s 9 3 + l.length ≤ 1000 → recL s l 9 3 = s 9 3 + l.length
  | [], s, _ => by simp [recL]
  | b :: l, s, h => by
    simp only [List.length_cons] at *
    have e := rec1_n (b := b) (s := s) (by omega)
    show recL (rec1 s b) l 9 3 = _
    rw [recL_n l (by omega), e]
    omega
theorem recL_37 : ∀ (l : List Int) {s : zSt} {k : Nat}, 0 ≤ s 9 3 ∧ s 9 3 + l.length ≤ 1000 → k < 24 → ((k : Int) < s 9 3 → recL s l 37 k = s 37 k) ∧ (s 9 3 ≤ k → (k : Int) < s 9 3 + l.length → recL s l 37 k = l.getD (k - (s 9 3).toNat) 0)
  | [], s, k, _, _ => ⟨fun _ => rfl, fun h1 h2 => by simp at h2; omega⟩
  | b :: l, s, k, h, hk => by
    simp only [List.length_cons] at *
    have e := rec1_n (b := b) (s := s) (by omega)
    have q := recL_37 l (s := rec1 s b) (k := k) (by omega) hk
    have r := rec1_37 (s := s) (b := b) h.1 hk
    rw [e] at q
    constructor
    · intro h1
      show recL (rec1 s b) l 37 k = _
      rw [q.1 (by omega), r, if_neg (by omega)]
    · intro h1 h2
      show recL (rec1 s b) l 37 k = _
      by_cases e2 : (k : Int) = s 9 3
      · rw [q.1 (by omega), r, if_pos e2, show k - (s 9 3).toNat = 0 by omega]
        rfl
      · rw [q.2 (by omega) (by omega), show k - (s 9 3).toNat = (k - (s 9 3 + 1).toNat) + 1 by omega]
        rfl
theorem recL_o : ∀ (l : List Int) {s : zSt} {q : Nat}, q ≠ 9 ∧ q ≠ 37 → recL s l q = s q
  | [], _, _, _ => rfl
  | _ :: l, _, _, h => (recL_o l h).trans (rec1_o h)
theorem recL_9 : ∀ (l : List Int) {s : zSt} {k : Nat}, k ≠ 3 → recL s l 9 k = s 9 k
  | [], _, _, _ => rfl
  | _ :: l, _, _, h => (recL_9 l h).trans (rec1_9 h)
theorem recL_R {l : List Int} {s : zSt} {B : Int} (h : 0 ≤ s 9 3 ∧ s 9 3 ≤ B) (hl : (l.length : Int) ≤ 20 ∧ B ≤ 900) : 0 ≤ recL s l 9 3 ∧ recL s l 9 3 ≤ B + 20 := by
  rw [recL_n l (by omega)]
  omega
/-! what each body answers, who runs below it -/
def prV (i n : Int) : Int := wr (n + i)
def pzV (i n : Int) : Int := wr (prV i n * 2)
def ruV (κ i n : Int) : Int := [prV i n, wr (prV i n + 3), prV i n, prV i n, wr (prV i n + 3), prV i n, pzV i n, wr (pzV i n - 1)].getD κ.toNat 0
def ruL (κ : Int) : List Int := [[1], [20, 1], [1], [1], [20, 1], [1], [70, 1], [81, 70, 1]].getD κ.toNat []
def poV (κ i n : Int) : Int := wr (ruV κ i n * 2)
def poL (κ : Int) : List Int := 10 :: ruL κ
def soV (κ i n : Int) : Int := wr (-poV κ i n)
def xoV (i n : Int) : Int := zXor n i
def oaV (i n : Int) : Int := wr (xoV i n * 3)
def paV (κ i n : Int) : Int := [xoV i n, xoV i n, xoV i n, oaV i n, xoV i n, wr (oaV i n - ruV κ i 2), xoV i n, xoV i n].getD κ.toNat 0
def paL (κ : Int) : List Int := [[11], [11], [11], [40, 11], [11], 60 :: 40 :: 11 :: ruL κ, [11], [11]].getD κ.toNat []
def owV (κ i n : Int) : Int := [poV κ i n, poV κ i n, soV κ i n, soV κ i (wr (n + 1)), poV κ i n, soV κ i (wr (n + 1)), poV κ i n, wr (poV κ i n + paV κ i 2)].getD κ.toNat 0
def owL (κ : Int) : List Int := [poL κ, poL κ, 30 :: poL κ, 41 :: 30 :: poL κ, poL κ, 41 :: 30 :: poL κ, poL κ, 80 :: (poL κ ++ paL κ)].getD κ.toNat []
def teV (κ i n : Int) : Int := wr (owV κ i n - paV κ i 1)
def teL (κ : Int) : List Int := 2 :: (owL κ ++ paL κ)
def tlV (κ i n : Int) : Int := [teV κ i n, teV κ i n, teV κ i n, teV κ i n, zXor (teV κ i n) 5, wr (teV κ i n + 1), teV κ i n, teV κ i n].getD κ.toNat 0
def tlL (κ : Int) : List Int := [teL κ, teL κ, teL κ, teL κ, 50 :: teL κ, 61 :: teL κ, teL κ, teL κ].getD κ.toNat []
/-- one act: what it answers, what ran -/
def actV (κ i w n : Int) : Int := [ruV κ i n, owV κ i n, paV κ i n, tlV κ i n].getD w.toNat 0
def actL (κ w : Int) : List Int := [ruL κ, owL κ, paL κ, tlL κ].getD w.toNat []
/-! finding the body -/
def clF : Nat → Int → Int → Int
  | 0, k, _ => k
  | j + 1, k, w => if 0 ≤ k ∧ k < 8 then (if zBODY.getD (k * 4 + w).toNat 0 = 0 then clF j (zABOVE.getD k.toNat 0) w else k) else k
abbrev fdF (k w b : Int) : Prop := 0 ≤ clF 8 k w ∧ clF 8 k w < 8 ∧ (0 ≤ w ∧ w ≤ 3) ∧ (-1 ≤ k ∧ k ≤ 7) ∧ zBODY.getD (clF 8 k w * 4 + w).toNat 0 = b
theorem zABOVE_R : ∀ k : Nat, k < 8 → -1 ≤ zABOVE.getD k 0 ∧ zABOVE.getD k 0 ≤ 7 := by decide
/-- a call that comes back with V, in the store t -/
abbrev zRun (x : List Int) (d m : Nat) (as : List zV) (s : zSt) (V : Int) (t : zSt) : Prop := ∀ Q : zQ, Q (some (.inl V)) t → zE x d m as s Q
section ZActs
variable {x : List Int} {d : Nat} {a s t : zSt} {Q : zQ} {V : Int}
theorem m2 {k : Int} (h : Q (some (.inl (if 0 ≤ k ∧ k < 8 then 1 else 0))) s) : zE x (d + 1) 2 [.inr (.inl 9), .inl k] s Q := by
  refine N2 ?_
  repeat' (first | with_reducible refine B2_0 ?_ | with_reducible refine B2_14 ?_ | with_reducible refine B2_15 ?_ | with_reducible refine ⟨fun _ => ?_, fun _ => ?_⟩ | (refine ⟨by omega, ?_⟩) | refine ⟨by omega, by omega, ?_⟩ | fail)
  all_goals exact zQi h (by omega)
theorem m3 {k : Int} (h : Q (some (.inl (if 0 ≤ k ∧ k < s 9 1 then 1 else 0))) s) : zE x (d + 1) 3 [.inr (.inl 9), .inl k] s Q := by
  refine N3 ?_
  repeat' (first | with_reducible refine B3_0 ?_ | with_reducible refine B3_16 ?_ | with_reducible refine B3_17 ?_ | with_reducible refine ⟨fun _ => ?_, fun _ => ?_⟩ | (refine ⟨by omega, ?_⟩) | refine ⟨by omega, by omega, ?_⟩ | fail)
  all_goals exact zQi h (by omega)
theorem m4 {k : Int} (hB : s 9 1 ≤ 50) (h : Q (some (.inl (if 0 ≤ k ∧ k < s 9 1 then s 36 k.toNat else -1))) s) : zE x (d + 2) 4 [.inr (.inl 9), .inl k] s Q := by
  refine N4 (B4_0 (m3 (B4_5 ⟨fun h0 => B4_17 (B4_18 (zQi h ?_)), fun h0 => ⟨by omega, by omega, B4_18 (zQi h ?_)⟩⟩)))
  · rw [if_neg (by omega)]
  · rw [if_pos (by omega)]
theorem m11_loop {x1 x2 w x4 x5 : Int} (hw : 0 ≤ w ∧ w ≤ 3) : ∀ (j : Nat) (k : Int), -1 ≤ k ∧ k ≤ 7 → j ≤ 8 → (∀ t, zJ x (d + 1) 11 49 [some (.inr (.inl 9)), some (.inl x1), some (.inl x2), some (.inl w), some (.inl x4), some (.inl x5), some (.inl (clF j k w)), some (.inl t)] [] s Q) → zJ x (d + 1) 11 6 [some (.inr (.inl 9)), some (.inl x1), some (.inl x2), some (.inl w), some (.inl x4), some (.inl x5), some (.inl k), some (.inl (8 - (j : Int)))] [] s Q := by
  intro j
  induction j with
  | zero => intro k hk hj h; exact B11_6 ⟨fun _ => h _, fun h0 => absurd h0 (by omega)⟩
  | succ j ih =>
    intro k hk hj h
    unfold clF at h
    refine B11_6 ⟨fun h0 => absurd h0 (by omega), fun _ => m2 (B11_19 ⟨fun h1 => ?_, fun h1 => ?_⟩)⟩
    · rw [if_neg (by omega)] at h
      exact h _
    · rw [if_pos (by omega)] at h
      have e : wr (wr (k * 4) + w) = k * 4 + w := by
        rw [wr_id (x := k * 4) (by unfold zR; omega), wr_id (by unfold zR; omega)]
      rw [e]
      refine ⟨by omega, by omega, fun h2 => ?_, fun h2 => ⟨by omega, by omega, ?_⟩⟩
      · rw [if_neg h2] at h
        exact h _
      · rw [if_pos (Decidable.not_not.mp h2)] at h
        rw [show wr (8 - ((j + 1 : Nat) : Int) + 1) = 8 - (j : Int) by rw [wr_id (by unfold zR; omega)]; omega]
        exact ih _ (zABOVE_R k.toNat (by omega)) (by omega) h
theorem m11 {k i w n p b : Int} (hf : fdF k w b) (hp : 0 ≤ p ∧ p ≤ 39) (h : zRun x (d + 1) 12 [.inr (.inl 9), .inl b, .inl i, .inl n, .inl (p + 1)] s V t) : zRun x (d + 2) 11 [.inr (.inl 9), .inl k, .inl i, .inl w, .inl n, .inl p] s V t := by
  intro Q hQ
  obtain ⟨f1, f2, f3, f4, f5⟩ := hf
  refine N11 (B11_0 (m11_loop f3 8 k f4 (by omega) (fun t' => B11_49 (m2 (B11_55 ⟨fun h0 => ?_, fun h0 => ⟨fun h1 => absurd h1 (by omega), fun h1 => ?_⟩⟩)))))
  · exact absurd h0 (by rw [if_pos (by omega)]; decide)
  · have e : wr (wr (clF 8 k w * 4) + w) = clF 8 k w * 4 + w := by
      rw [wr_id (x := clF 8 k w * 4) (by unfold zR; omega), wr_id (by unfold zR; omega)]
    rw [e, f5, wr_id (x := p + 1) (by unfold zR; omega)]
    exact ⟨by omega, by omega, h _ (B11_86 (B11_90 hQ))⟩
theorem m10 {k i w n p b : Int} (hk : 0 ≤ k ∧ k ≤ 7) (hf : fdF (zABOVE.getD k.toNat 0) w b) (hp : 0 ≤ p ∧ p ≤ 39) (h : zRun x (d + 1) 12 [.inr (.inl 9), .inl b, .inl i, .inl n, .inl (p + 1)] s V t) : zRun x (d + 3) 10 [.inr (.inl 9), .inl k, .inl i, .inl w, .inl n, .inl p] s V t := by
  intro Q hQ
  refine N10 (B10_0 (m2 (B10_6 ⟨fun h0 => ?_, fun h0 => ⟨by omega, by omega, B10_18 (m11 hf hp h _ (B10_27 hQ))⟩⟩)))
  exact absurd h0 (by rw [if_pos (by omega)]; decide)
theorem m9 {κ i w n p b : Int} (hB : s 9 1 ≤ 50) (hi : 0 ≤ i ∧ i < s 9 1) (hk : s 36 i.toNat = κ) (hf : fdF κ w b) (hp : 0 ≤ p ∧ p ≤ 39) (h : zRun x (d + 1) 12 [.inr (.inl 9), .inl b, .inl i, .inl n, .inl (p + 1)] s V t) : zRun x (d + 3) 9 [.inr (.inl 9), .inl i, .inl w, .inl n, .inl p] s V t := by
  intro Q hQ
  refine N9 (B9_0 (m4 hB (B9_6 ?_)))
  rw [if_pos hi, hk]
  exact m11 hf hp h _ (B9_14 hQ)
theorem m12_1 {i n p : Int} (hR : 0 ≤ s 9 3) (h : zJ x d 12 152 [some (.inr (.inl 9)), some (.inl 1), some (.inl i), some (.inl n), some (.inl p)] [] (rec1 s 1) Q) : zE x (d + 1) 12 [.inr (.inl 9), .inl 1, .inl i, .inl n, .inl p] s Q := by
  unfold rec1 at h
  refine N12 (B12_0 ⟨fun h0 => B12_19 ?_, fun h0 => ⟨hR, by omega, B12_19 ?_⟩⟩)
  · rw [if_pos h0] at h
    exact ⟨fun _ => h, fun e => absurd rfl e⟩
  · rw [if_neg h0] at h
    exact ⟨fun _ => h, fun e => absurd rfl e⟩
theorem m12_2 {i n p : Int} (hR : 0 ≤ s 9 3) (h : zJ x d 12 156 [some (.inr (.inl 9)), some (.inl 2), some (.inl i), some (.inl n), some (.inl p)] [] (rec1 s 2) Q) : zE x (d + 1) 12 [.inr (.inl 9), .inl 2, .inl i, .inl n, .inl p] s Q := by
  unfold rec1 at h
  refine N12 (B12_0 ⟨fun h0 => B12_19 ?_, fun h0 => ⟨hR, by omega, B12_19 ?_⟩⟩)
  · rw [if_pos h0] at h
    exact ⟨fun e => absurd e (by decide), fun _ => ⟨fun _ => h, fun e => absurd rfl e⟩⟩
  · rw [if_neg h0] at h
    exact ⟨fun e => absurd e (by decide), fun _ => ⟨fun _ => h, fun e => absurd rfl e⟩⟩
theorem m12_10 {i n p : Int} (hR : 0 ≤ s 9 3) (h : zJ x d 12 176 [some (.inr (.inl 9)), some (.inl 10), some (.inl i), some (.inl n), some (.inl p)] [] (rec1 s 10) Q) : zE x (d + 1) 12 [.inr (.inl 9), .inl 10, .inl i, .inl n, .inl p] s Q := by
  unfold rec1 at h
  refine N12 (B12_0 ⟨fun h0 => B12_19 ?_, fun h0 => ⟨hR, by omega, B12_19 ?_⟩⟩)
  · rw [if_pos h0] at h
    exact ⟨fun e => absurd e (by decide), fun _ => ⟨fun e => absurd e (by decide), fun _ => ⟨fun _ => h, fun e => absurd rfl e⟩⟩⟩
  · rw [if_neg h0] at h
    exact ⟨fun e => absurd e (by decide), fun _ => ⟨fun e => absurd e (by decide), fun _ => ⟨fun _ => h, fun e => absurd rfl e⟩⟩⟩
theorem m12_11 {i n p : Int} (hR : 0 ≤ s 9 3) (h : zJ x d 12 188 [some (.inr (.inl 9)), some (.inl 11), some (.inl i), some (.inl n), some (.inl p)] [] (rec1 s 11) Q) : zE x (d + 1) 12 [.inr (.inl 9), .inl 11, .inl i, .inl n, .inl p] s Q := by
  unfold rec1 at h
  refine N12 (B12_0 ⟨fun h0 => B12_19 ?_, fun h0 => ⟨hR, by omega, B12_19 ?_⟩⟩)
  · rw [if_pos h0] at h
    exact ⟨fun e => absurd e (by decide), fun _ => ⟨fun e => absurd e (by decide), fun _ => ⟨fun e => absurd e (by decide), fun _ => ⟨fun _ => h, fun e => absurd rfl e⟩⟩⟩⟩
  · rw [if_neg h0] at h
    exact ⟨fun e => absurd e (by decide), fun _ => ⟨fun e => absurd e (by decide), fun _ => ⟨fun e => absurd e (by decide), fun _ => ⟨fun _ => h, fun e => absurd rfl e⟩⟩⟩⟩
theorem m12_20 {i n p : Int} (hR : 0 ≤ s 9 3) (h : zJ x d 12 192 [some (.inr (.inl 9)), some (.inl 20), some (.inl i), some (.inl n), some (.inl p)] [] (rec1 s 20) Q) : zE x (d + 1) 12 [.inr (.inl 9), .inl 20, .inl i, .inl n, .inl p] s Q := by
  unfold rec1 at h
  refine N12 (B12_0 ⟨fun h0 => B12_19 ?_, fun h0 => ⟨hR, by omega, B12_19 ?_⟩⟩)
  · rw [if_pos h0] at h
    exact ⟨fun e => absurd e (by decide), fun _ => ⟨fun e => absurd e (by decide), fun _ => ⟨fun e => absurd e (by decide), fun _ => ⟨fun e => absurd e (by decide), fun _ => ⟨fun _ => h, fun e => absurd rfl e⟩⟩⟩⟩⟩
  · rw [if_neg h0] at h
    exact ⟨fun e => absurd e (by decide), fun _ => ⟨fun e => absurd e (by decide), fun _ => ⟨fun e => absurd e (by decide), fun _ => ⟨fun e => absurd e (by decide), fun _ => ⟨fun _ => h, fun e => absurd rfl e⟩⟩⟩⟩⟩
theorem m12_30 {i n p : Int} (hR : 0 ≤ s 9 3) (h : zJ x d 12 205 [some (.inr (.inl 9)), some (.inl 30), some (.inl i), some (.inl n), some (.inl p)] [] (rec1 s 30) Q) : zE x (d + 1) 12 [.inr (.inl 9), .inl 30, .inl i, .inl n, .inl p] s Q := by
  unfold rec1 at h
  refine N12 (B12_0 ⟨fun h0 => B12_19 ?_, fun h0 => ⟨hR, by omega, B12_19 ?_⟩⟩)
  · rw [if_pos h0] at h
    exact ⟨fun e => absurd e (by decide), fun _ => ⟨fun e => absurd e (by decide), fun _ => ⟨fun e => absurd e (by decide), fun _ => ⟨fun e => absurd e (by decide), fun _ => ⟨fun e => absurd e (by decide), fun _ => ⟨fun _ => h, fun e => absurd rfl e⟩⟩⟩⟩⟩⟩
  · rw [if_neg h0] at h
    exact ⟨fun e => absurd e (by decide), fun _ => ⟨fun e => absurd e (by decide), fun _ => ⟨fun e => absurd e (by decide), fun _ => ⟨fun e => absurd e (by decide), fun _ => ⟨fun e => absurd e (by decide), fun _ => ⟨fun _ => h, fun e => absurd rfl e⟩⟩⟩⟩⟩⟩
theorem m12_40 {i n p : Int} (hR : 0 ≤ s 9 3) (h : zJ x d 12 217 [some (.inr (.inl 9)), some (.inl 40), some (.inl i), some (.inl n), some (.inl p)] [] (rec1 s 40) Q) : zE x (d + 1) 12 [.inr (.inl 9), .inl 40, .inl i, .inl n, .inl p] s Q := by
  unfold rec1 at h
  refine N12 (B12_0 ⟨fun h0 => B12_19 ?_, fun h0 => ⟨hR, by omega, B12_19 ?_⟩⟩)
  · rw [if_pos h0] at h
    exact ⟨fun e => absurd e (by decide), fun _ => ⟨fun e => absurd e (by decide), fun _ => ⟨fun e => absurd e (by decide), fun _ => ⟨fun e => absurd e (by decide), fun _ => ⟨fun e => absurd e (by decide), fun _ => ⟨fun e => absurd e (by decide), fun _ => ⟨fun _ => h, fun e => absurd rfl e⟩⟩⟩⟩⟩⟩⟩
  · rw [if_neg h0] at h
    exact ⟨fun e => absurd e (by decide), fun _ => ⟨fun e => absurd e (by decide), fun _ => ⟨fun e => absurd e (by decide), fun _ => ⟨fun e => absurd e (by decide), fun _ => ⟨fun e => absurd e (by decide), fun _ => ⟨fun e => absurd e (by decide), fun _ => ⟨fun _ => h, fun e => absurd rfl e⟩⟩⟩⟩⟩⟩⟩
theorem m12_41 {i n p : Int} (hR : 0 ≤ s 9 3) (h : zJ x d 12 230 [some (.inr (.inl 9)), some (.inl 41), some (.inl i), some (.inl n), some (.inl p)] [] (rec1 s 41) Q) : zE x (d + 1) 12 [.inr (.inl 9), .inl 41, .inl i, .inl n, .inl p] s Q := by
  unfold rec1 at h
  refine N12 (B12_0 ⟨fun h0 => B12_19 ?_, fun h0 => ⟨hR, by omega, B12_19 ?_⟩⟩)
  · rw [if_pos h0] at h
    exact ⟨fun e => absurd e (by decide), fun _ => ⟨fun e => absurd e (by decide), fun _ => ⟨fun e => absurd e (by decide), fun _ => ⟨fun e => absurd e (by decide), fun _ => ⟨fun e => absurd e (by decide), fun _ => ⟨fun e => absurd e (by decide), fun _ => ⟨fun e => absurd e (by decide), fun _ => ⟨fun _ => h, fun e => absurd rfl e⟩⟩⟩⟩⟩⟩⟩⟩
  · rw [if_neg h0] at h
    exact ⟨fun e => absurd e (by decide), fun _ => ⟨fun e => absurd e (by decide), fun _ => ⟨fun e => absurd e (by decide), fun _ => ⟨fun e => absurd e (by decide), fun _ => ⟨fun e => absurd e (by decide), fun _ => ⟨fun e => absurd e (by decide), fun _ => ⟨fun e => absurd e (by decide), fun _ => ⟨fun _ => h, fun e => absurd rfl e⟩⟩⟩⟩⟩⟩⟩⟩
theorem m12_50 {i n p : Int} (hR : 0 ≤ s 9 3) (h : zJ x d 12 243 [some (.inr (.inl 9)), some (.inl 50), some (.inl i), some (.inl n), some (.inl p)] [] (rec1 s 50) Q) : zE x (d + 1) 12 [.inr (.inl 9), .inl 50, .inl i, .inl n, .inl p] s Q := by
  unfold rec1 at h
  refine N12 (B12_0 ⟨fun h0 => B12_19 ?_, fun h0 => ⟨hR, by omega, B12_19 ?_⟩⟩)
  · rw [if_pos h0] at h
    exact ⟨fun e => absurd e (by decide), fun _ => ⟨fun e => absurd e (by decide), fun _ => ⟨fun e => absurd e (by decide), fun _ => ⟨fun e => absurd e (by decide), fun _ => ⟨fun e => absurd e (by decide), fun _ => ⟨fun e => absurd e (by decide), fun _ => ⟨fun e => absurd e (by decide), fun _ => ⟨fun e => absurd e (by decide), fun _ => ⟨fun _ => h, fun e => absurd rfl e⟩⟩⟩⟩⟩⟩⟩⟩⟩
  · rw [if_neg h0] at h
    exact ⟨fun e => absurd e (by decide), fun _ => ⟨fun e => absurd e (by decide), fun _ => ⟨fun e => absurd e (by decide), fun _ => ⟨fun e => absurd e (by decide), fun _ => ⟨fun e => absurd e (by decide), fun _ => ⟨fun e => absurd e (by decide), fun _ => ⟨fun e => absurd e (by decide), fun _ => ⟨fun e => absurd e (by decide), fun _ => ⟨fun _ => h, fun e => absurd rfl e⟩⟩⟩⟩⟩⟩⟩⟩⟩
theorem m12_60 {i n p : Int} (hR : 0 ≤ s 9 3) (h : zJ x d 12 256 [some (.inr (.inl 9)), some (.inl 60), some (.inl i), some (.inl n), some (.inl p)] [] (rec1 s 60) Q) : zE x (d + 1) 12 [.inr (.inl 9), .inl 60, .inl i, .inl n, .inl p] s Q := by
  unfold rec1 at h
  refine N12 (B12_0 ⟨fun h0 => B12_19 ?_, fun h0 => ⟨hR, by omega, B12_19 ?_⟩⟩)
  · rw [if_pos h0] at h
    exact ⟨fun e => absurd e (by decide), fun _ => ⟨fun e => absurd e (by decide), fun _ => ⟨fun e => absurd e (by decide), fun _ => ⟨fun e => absurd e (by decide), fun _ => ⟨fun e => absurd e (by decide), fun _ => ⟨fun e => absurd e (by decide), fun _ => ⟨fun e => absurd e (by decide), fun _ => ⟨fun e => absurd e (by decide), fun _ => ⟨fun e => absurd e (by decide), fun _ => ⟨fun _ => h, fun e => absurd rfl e⟩⟩⟩⟩⟩⟩⟩⟩⟩⟩
  · rw [if_neg h0] at h
    exact ⟨fun e => absurd e (by decide), fun _ => ⟨fun e => absurd e (by decide), fun _ => ⟨fun e => absurd e (by decide), fun _ => ⟨fun e => absurd e (by decide), fun _ => ⟨fun e => absurd e (by decide), fun _ => ⟨fun e => absurd e (by decide), fun _ => ⟨fun e => absurd e (by decide), fun _ => ⟨fun e => absurd e (by decide), fun _ => ⟨fun e => absurd e (by decide), fun _ => ⟨fun _ => h, fun e => absurd rfl e⟩⟩⟩⟩⟩⟩⟩⟩⟩⟩
theorem m12_61 {i n p : Int} (hR : 0 ≤ s 9 3) (h : zJ x d 12 277 [some (.inr (.inl 9)), some (.inl 61), some (.inl i), some (.inl n), some (.inl p)] [] (rec1 s 61) Q) : zE x (d + 1) 12 [.inr (.inl 9), .inl 61, .inl i, .inl n, .inl p] s Q := by
  unfold rec1 at h
  refine N12 (B12_0 ⟨fun h0 => B12_19 ?_, fun h0 => ⟨hR, by omega, B12_19 ?_⟩⟩)
  · rw [if_pos h0] at h
    exact ⟨fun e => absurd e (by decide), fun _ => ⟨fun e => absurd e (by decide), fun _ => ⟨fun e => absurd e (by decide), fun _ => ⟨fun e => absurd e (by decide), fun _ => ⟨fun e => absurd e (by decide), fun _ => ⟨fun e => absurd e (by decide), fun _ => ⟨fun e => absurd e (by decide), fun _ => ⟨fun e => absurd e (by decide), fun _ => ⟨fun e => absurd e (by decide), fun _ => ⟨fun e => absurd e (by decide), fun _ => ⟨fun _ => h, fun e => absurd rfl e⟩⟩⟩⟩⟩⟩⟩⟩⟩⟩⟩
  · rw [if_neg h0] at h
    exact ⟨fun e => absurd e (by decide), fun _ => ⟨fun e => absurd e (by decide), fun _ => ⟨fun e => absurd e (by decide), fun _ => ⟨fun e => absurd e (by decide), fun _ => ⟨fun e => absurd e (by decide), fun _ => ⟨fun e => absurd e (by decide), fun _ => ⟨fun e => absurd e (by decide), fun _ => ⟨fun e => absurd e (by decide), fun _ => ⟨fun e => absurd e (by decide), fun _ => ⟨fun e => absurd e (by decide), fun _ => ⟨fun _ => h, fun e => absurd rfl e⟩⟩⟩⟩⟩⟩⟩⟩⟩⟩⟩
theorem m12_70 {i n p : Int} (hR : 0 ≤ s 9 3) (h : zJ x d 12 290 [some (.inr (.inl 9)), some (.inl 70), some (.inl i), some (.inl n), some (.inl p)] [] (rec1 s 70) Q) : zE x (d + 1) 12 [.inr (.inl 9), .inl 70, .inl i, .inl n, .inl p] s Q := by
  unfold rec1 at h
  refine N12 (B12_0 ⟨fun h0 => B12_19 ?_, fun h0 => ⟨hR, by omega, B12_19 ?_⟩⟩)
  · rw [if_pos h0] at h
    exact ⟨fun e => absurd e (by decide), fun _ => ⟨fun e => absurd e (by decide), fun _ => ⟨fun e => absurd e (by decide), fun _ => ⟨fun e => absurd e (by decide), fun _ => ⟨fun e => absurd e (by decide), fun _ => ⟨fun e => absurd e (by decide), fun _ => ⟨fun e => absurd e (by decide), fun _ => ⟨fun e => absurd e (by decide), fun _ => ⟨fun e => absurd e (by decide), fun _ => ⟨fun e => absurd e (by decide), fun _ => ⟨fun e => absurd e (by decide), fun _ => ⟨fun _ => h, fun e => absurd rfl e⟩⟩⟩⟩⟩⟩⟩⟩⟩⟩⟩⟩
  · rw [if_neg h0] at h
    exact ⟨fun e => absurd e (by decide), fun _ => ⟨fun e => absurd e (by decide), fun _ => ⟨fun e => absurd e (by decide), fun _ => ⟨fun e => absurd e (by decide), fun _ => ⟨fun e => absurd e (by decide), fun _ => ⟨fun e => absurd e (by decide), fun _ => ⟨fun e => absurd e (by decide), fun _ => ⟨fun e => absurd e (by decide), fun _ => ⟨fun e => absurd e (by decide), fun _ => ⟨fun e => absurd e (by decide), fun _ => ⟨fun e => absurd e (by decide), fun _ => ⟨fun _ => h, fun e => absurd rfl e⟩⟩⟩⟩⟩⟩⟩⟩⟩⟩⟩⟩
theorem m12_80 {i n p : Int} (hR : 0 ≤ s 9 3) (h : zJ x d 12 304 [some (.inr (.inl 9)), some (.inl 80), some (.inl i), some (.inl n), some (.inl p)] [] (rec1 s 80) Q) : zE x (d + 1) 12 [.inr (.inl 9), .inl 80, .inl i, .inl n, .inl p] s Q := by
  unfold rec1 at h
  refine N12 (B12_0 ⟨fun h0 => B12_19 ?_, fun h0 => ⟨hR, by omega, B12_19 ?_⟩⟩)
  · rw [if_pos h0] at h
    exact ⟨fun e => absurd e (by decide), fun _ => ⟨fun e => absurd e (by decide), fun _ => ⟨fun e => absurd e (by decide), fun _ => ⟨fun e => absurd e (by decide), fun _ => ⟨fun e => absurd e (by decide), fun _ => ⟨fun e => absurd e (by decide), fun _ => ⟨fun e => absurd e (by decide), fun _ => ⟨fun e => absurd e (by decide), fun _ => ⟨fun e => absurd e (by decide), fun _ => ⟨fun e => absurd e (by decide), fun _ => ⟨fun e => absurd e (by decide), fun _ => ⟨fun e => absurd e (by decide), fun _ => ⟨fun _ => h, fun e => absurd rfl e⟩⟩⟩⟩⟩⟩⟩⟩⟩⟩⟩⟩⟩
  · rw [if_neg h0] at h
    exact ⟨fun e => absurd e (by decide), fun _ => ⟨fun e => absurd e (by decide), fun _ => ⟨fun e => absurd e (by decide), fun _ => ⟨fun e => absurd e (by decide), fun _ => ⟨fun e => absurd e (by decide), fun _ => ⟨fun e => absurd e (by decide), fun _ => ⟨fun e => absurd e (by decide), fun _ => ⟨fun e => absurd e (by decide), fun _ => ⟨fun e => absurd e (by decide), fun _ => ⟨fun e => absurd e (by decide), fun _ => ⟨fun e => absurd e (by decide), fun _ => ⟨fun e => absurd e (by decide), fun _ => ⟨fun _ => h, fun e => absurd rfl e⟩⟩⟩⟩⟩⟩⟩⟩⟩⟩⟩⟩⟩
theorem m12_81 {i n p : Int} (hR : 0 ≤ s 9 3) (h : zJ x d 12 326 [some (.inr (.inl 9)), some (.inl 81), some (.inl i), some (.inl n), some (.inl p)] [] (rec1 s 81) Q) : zE x (d + 1) 12 [.inr (.inl 9), .inl 81, .inl i, .inl n, .inl p] s Q := by
  unfold rec1 at h
  refine N12 (B12_0 ⟨fun h0 => B12_19 ?_, fun h0 => ⟨hR, by omega, B12_19 ?_⟩⟩)
  · rw [if_pos h0] at h
    exact ⟨fun e => absurd e (by decide), fun _ => ⟨fun e => absurd e (by decide), fun _ => ⟨fun e => absurd e (by decide), fun _ => ⟨fun e => absurd e (by decide), fun _ => ⟨fun e => absurd e (by decide), fun _ => ⟨fun e => absurd e (by decide), fun _ => ⟨fun e => absurd e (by decide), fun _ => ⟨fun e => absurd e (by decide), fun _ => ⟨fun e => absurd e (by decide), fun _ => ⟨fun e => absurd e (by decide), fun _ => ⟨fun e => absurd e (by decide), fun _ => ⟨fun e => absurd e (by decide), fun _ => ⟨fun e => absurd e (by decide), fun _ => ⟨fun _ => h, fun e => absurd rfl e⟩⟩⟩⟩⟩⟩⟩⟩⟩⟩⟩⟩⟩⟩
  · rw [if_neg h0] at h
    exact ⟨fun e => absurd e (by decide), fun _ => ⟨fun e => absurd e (by decide), fun _ => ⟨fun e => absurd e (by decide), fun _ => ⟨fun e => absurd e (by decide), fun _ => ⟨fun e => absurd e (by decide), fun _ => ⟨fun e => absurd e (by decide), fun _ => ⟨fun e => absurd e (by decide), fun _ => ⟨fun e => absurd e (by decide), fun _ => ⟨fun e => absurd e (by decide), fun _ => ⟨fun e => absurd e (by decide), fun _ => ⟨fun e => absurd e (by decide), fun _ => ⟨fun e => absurd e (by decide), fun _ => ⟨fun e => absurd e (by decide), fun _ => ⟨fun _ => h, fun e => absurd rfl e⟩⟩⟩⟩⟩⟩⟩⟩⟩⟩⟩⟩⟩⟩
/-! what each body runs, by the kind it is of -/
abbrev isBd (s : zSt) (κ i : Int) : Prop := s 9 1 ≤ 50 ∧ (0 ≤ i ∧ i < s 9 1) ∧ s 36 i.toNat = κ ∧ 0 ≤ κ ∧ κ ≤ 7
theorem isBd.L {κ i : Int} (h : isBd s κ i) (l : List Int) : isBd (recL s l) κ i := by
  unfold isBd
  rw [recL_9 l (by decide), recL_o l (by decide)]
  exact h
theorem c_pr {i n p : Int} (hR : 0 ≤ s 9 3) : zRun x (d + 1) 12 [.inr (.inl 9), .inl 1, .inl i, .inl n, .inl p] s (prV i n) (recL s [1]) := fun _ hQ => m12_1 hR (B12_152 hQ)
theorem c_xo {i n p : Int} (hR : 0 ≤ s 9 3) : zRun x (d + 1) 12 [.inr (.inl 9), .inl 11, .inl i, .inl n, .inl p] s (xoV i n) (recL s [11]) := fun _ hQ => m12_11 hR (B12_188 hQ)
theorem c_pz {i n p : Int} (hR : 0 ≤ s 9 3 ∧ s 9 3 ≤ 900) (hp : 0 ≤ p ∧ p ≤ 38) : zRun x (d + 5) 12 [.inr (.inl 9), .inl 70, .inl i, .inl n, .inl p] s (pzV i n) (recL s [70, 1]) := fun _ hQ =>
  m12_70 hR.1 (B12_290 (m10 (b := 1) (by decide) (by decide) (by omega) (c_pr (by rw [rec1_n (by omega)]; omega)) _ (B12_301 hQ)))
theorem c_ru {κ i n p : Int} (hb : isBd s κ i) (hR : 0 ≤ s 9 3 ∧ s 9 3 ≤ 800) (hp : 0 ≤ p ∧ p ≤ 30) : zRun x (d + 12) 9 [.inr (.inl 9), .inl i, .inl 0, .inl n, .inl p] s (ruV κ i n) (recL s (ruL κ)) := by
  obtain ⟨b1, b2, b3, b4, b5⟩ := hb
  have e1 := fun b => rec1_n (s := s) (b := b) (by omega)
  have hκ : κ = 0 ∨ κ = 1 ∨ κ = 2 ∨ κ = 3 ∨ κ = 4 ∨ κ = 5 ∨ κ = 6 ∨ κ = 7 := by omega
  rcases hκ with rfl | rfl | rfl | rfl | rfl | rfl | rfl | rfl
  · exact m9 (b := 1) b1 b2 b3 (by decide) (by omega) (c_pr hR.1)
  · exact m9 (b := 20) b1 b2 b3 (by decide) (by omega) (fun _ hQ => m12_20 hR.1 (B12_192 (m10 (b := 1) (by decide) (by decide) (by omega) (c_pr (by rw [e1]; omega)) _ (B12_202 hQ))))
  · exact m9 (b := 1) b1 b2 b3 (by decide) (by omega) (c_pr hR.1)
  · exact m9 (b := 1) b1 b2 b3 (by decide) (by omega) (c_pr hR.1)
  · exact m9 (b := 20) b1 b2 b3 (by decide) (by omega) (fun _ hQ => m12_20 hR.1 (B12_192 (m10 (b := 1) (by decide) (by decide) (by omega) (c_pr (by rw [e1]; omega)) _ (B12_202 hQ))))
  · exact m9 (b := 1) b1 b2 b3 (by decide) (by omega) (c_pr hR.1)
  · exact m9 (b := 70) b1 b2 b3 (by decide) (by omega) (c_pz (by omega) (by omega))
  · exact m9 (b := 81) b1 b2 b3 (by decide) (by omega) (fun _ hQ => m12_81 hR.1 (B12_326 (m10 (b := 70) (by decide) (by decide) (by omega) (c_pz (by rw [e1]; omega) (by omega)) _ (B12_337 hQ))))
theorem c_po {κ i n p : Int} (hb : isBd s κ i) (hR : 0 ≤ s 9 3 ∧ s 9 3 ≤ 700) (hp : 0 ≤ p ∧ p ≤ 29) : zRun x (d + 13) 12 [.inr (.inl 9), .inl 10, .inl i, .inl n, .inl p] s (poV κ i n) (recL s (poL κ)) := fun _ hQ =>
  m12_10 hR.1 (B12_176 (c_ru (isBd.L hb [10]) (by show 0 ≤ rec1 s 10 9 3 ∧ rec1 s 10 9 3 ≤ 800; rw [rec1_n (by omega)]; omega) (by omega) _ (B12_185 hQ)))
theorem c_so {κ i n p : Int} (hb : isBd s κ i) (hR : 0 ≤ s 9 3 ∧ s 9 3 ≤ 600) (hp : 0 ≤ p ∧ p ≤ 28) : zRun x (d + 17) 12 [.inr (.inl 9), .inl 30, .inl i, .inl n, .inl p] s (soV κ i n) (recL s (30 :: poL κ)) := fun _ hQ =>
  m12_30 hR.1 (B12_205 (m10 (b := 10) (by decide) (by decide) (by omega) (c_po (isBd.L hb [30]) (by show 0 ≤ rec1 s 30 9 3 ∧ rec1 s 30 9 3 ≤ 700; rw [rec1_n (by omega)]; omega) (by omega)) _ (B12_215 hQ)))
theorem c_oa {i n p : Int} (hR : 0 ≤ s 9 3 ∧ s 9 3 ≤ 900) (hp : 0 ≤ p ∧ p ≤ 38) : zRun x (d + 5) 12 [.inr (.inl 9), .inl 40, .inl i, .inl n, .inl p] s (oaV i n) (recL s [40, 11]) := fun _ hQ =>
  m12_40 hR.1 (B12_217 (m10 (b := 11) (by decide) (by decide) (by omega) (c_xo (by rw [rec1_n (by omega)]; omega)) _ (B12_227 hQ)))
theorem c_pa {κ i n p : Int} (hb : isBd s κ i) (hR : 0 ≤ s 9 3 ∧ s 9 3 ≤ 600) (hp : 0 ≤ p ∧ p ≤ 28) : zRun x (d + 17) 9 [.inr (.inl 9), .inl i, .inl 2, .inl n, .inl p] s (paV κ i n) (recL s (paL κ)) := by
  have hb' := hb
  obtain ⟨b1, b2, b3, b4, b5⟩ := hb
  have e1 := fun b => rec1_n (s := s) (b := b) (by omega)
  have hκ : κ = 0 ∨ κ = 1 ∨ κ = 2 ∨ κ = 3 ∨ κ = 4 ∨ κ = 5 ∨ κ = 6 ∨ κ = 7 := by omega
  rcases hκ with rfl | rfl | rfl | rfl | rfl | rfl | rfl | rfl
  · exact m9 (b := 11) b1 b2 b3 (by decide) (by omega) (c_xo hR.1)
  · exact m9 (b := 11) b1 b2 b3 (by decide) (by omega) (c_xo hR.1)
  · exact m9 (b := 11) b1 b2 b3 (by decide) (by omega) (c_xo hR.1)
  · exact m9 (b := 40) b1 b2 b3 (by decide) (by omega) (c_oa (by omega) (by omega))
  · exact m9 (b := 11) b1 b2 b3 (by decide) (by omega) (c_xo hR.1)
  · refine m9 (b := 60) b1 b2 b3 (by decide) (by omega) (fun _ hQ => m12_60 hR.1 (B12_256 (m10 (b := 40) (by decide) (by decide) (by omega) (c_oa (by rw [e1]; omega) (by omega)) _ (B12_266 (c_ru (isBd.L hb' [60, 40, 11]) ?_ (by omega) _ (B12_275 hQ))))))
    rw [recL_n [60, 40, 11] (by simp only [List.length_cons, List.length_nil]; omega)]
    simp only [List.length_cons, List.length_nil]
    omega
  · exact m9 (b := 11) b1 b2 b3 (by decide) (by omega) (c_xo hR.1)
  · exact m9 (b := 11) b1 b2 b3 (by decide) (by omega) (c_xo hR.1)
theorem poL_n {κ : Int} (h : 0 ≤ κ ∧ κ ≤ 7) : (poL κ).length ≤ 5 := by
  have hκ : κ = 0 ∨ κ = 1 ∨ κ = 2 ∨ κ = 3 ∨ κ = 4 ∨ κ = 5 ∨ κ = 6 ∨ κ = 7 := by omega
  rcases hκ with rfl | rfl | rfl | rfl | rfl | rfl | rfl | rfl <;> decide
theorem owL_n {κ : Int} (h : 0 ≤ κ ∧ κ ≤ 7) : (owL κ).length ≤ 10 := by
  have hκ : κ = 0 ∨ κ = 1 ∨ κ = 2 ∨ κ = 3 ∨ κ = 4 ∨ κ = 5 ∨ κ = 6 ∨ κ = 7 := by omega
  rcases hκ with rfl | rfl | rfl | rfl | rfl | rfl | rfl | rfl <;> decide
theorem c_ow {κ i n p : Int} (hb : isBd s κ i) (hR : 0 ≤ s 9 3 ∧ s 9 3 ≤ 400) (hp : 0 ≤ p ∧ p ≤ 20) : zRun x (d + 24) 9 [.inr (.inl 9), .inl i, .inl 1, .inl n, .inl p] s (owV κ i n) (recL s (owL κ)) := by
  have hb' := hb
  obtain ⟨b1, b2, b3, b4, b5⟩ := hb
  have e1 := fun b => rec1_n (s := s) (b := b) (by omega)
  have hκ : κ = 0 ∨ κ = 1 ∨ κ = 2 ∨ κ = 3 ∨ κ = 4 ∨ κ = 5 ∨ κ = 6 ∨ κ = 7 := by omega
  rcases hκ with rfl | rfl | rfl | rfl | rfl | rfl | rfl | rfl
  · exact m9 (b := 10) b1 b2 b3 (by decide) (by omega) (c_po hb' (by omega) (by omega))
  · exact m9 (b := 10) b1 b2 b3 (by decide) (by omega) (c_po hb' (by omega) (by omega))
  · exact m9 (b := 30) b1 b2 b3 (by decide) (by omega) (c_so hb' (by omega) (by omega))
  · exact m9 (b := 41) b1 b2 b3 (by decide) (by omega) (fun _ hQ => m12_41 hR.1 (B12_230 (m10 (b := 30) (by decide) (by decide) (by omega) (c_so (isBd.L hb' [41]) (by show 0 ≤ rec1 s 41 9 3 ∧ rec1 s 41 9 3 ≤ 600; rw [e1]; omega) (by omega)) _ (B12_242 hQ))))
  · exact m9 (b := 10) b1 b2 b3 (by decide) (by omega) (c_po hb' (by omega) (by omega))
  · exact m9 (b := 41) b1 b2 b3 (by decide) (by omega) (fun _ hQ => m12_41 hR.1 (B12_230 (m10 (b := 30) (by decide) (by decide) (by omega) (c_so (isBd.L hb' [41]) (by show 0 ≤ rec1 s 41 9 3 ∧ rec1 s 41 9 3 ≤ 600; rw [e1]; omega) (by omega)) _ (B12_242 hQ))))
  · exact m9 (b := 10) b1 b2 b3 (by decide) (by omega) (c_po hb' (by omega) (by omega))
  · refine m9 (b := 80) b1 b2 b3 (by decide) (by omega) (fun _ hQ => m12_80 hR.1 (B12_304 (m10 (b := 10) (by decide) (by decide) (by omega) (c_po (isBd.L hb' [80]) (by show 0 ≤ rec1 s 80 9 3 ∧ rec1 s 80 9 3 ≤ 700; rw [e1]; omega) (by omega)) _ (B12_315 (c_pa (isBd.L (isBd.L hb' [80]) _) ?_ (by omega) _ (B12_324 hQ))))))
    show 0 ≤ recL (rec1 s 80) (poL 7) 9 3 ∧ recL (rec1 s 80) (poL 7) 9 3 ≤ 600
    have := recL_R (s := rec1 s 80) (l := poL 7) (B := 500) (by rw [e1]; omega) (by decide)
    omega
theorem c_te {κ i n p : Int} (hb : isBd s κ i) (hR : 0 ≤ s 9 3 ∧ s 9 3 ≤ 300) (hp : 0 ≤ p ∧ p ≤ 15) : zRun x (d + 25) 12 [.inr (.inl 9), .inl 2, .inl i, .inl n, .inl p] s (teV κ i n) (recL s (teL κ)) := by
  intro Q hQ
  have e1 := fun b => rec1_n (s := s) (b := b) (by omega)
  have hl := owL_n hb.2.2.2
  refine m12_2 hR.1 (B12_156 (c_ow (isBd.L hb [2]) (by show 0 ≤ rec1 s 2 9 3 ∧ rec1 s 2 9 3 ≤ 400; rw [e1]; omega) (by omega) _ (B12_165 (c_pa (isBd.L (isBd.L hb [2]) _) ?_ (by omega) _ (B12_174 (zQs hQ ?_))))))
  · show 0 ≤ recL (rec1 s 2) (owL κ) 9 3 ∧ recL (rec1 s 2) (owL κ) 9 3 ≤ 600
    have := recL_R (s := rec1 s 2) (l := owL κ) (B := 500) (by rw [e1]; omega) (by omega)
    omega
  · exact (recL_app (rec1 s 2) (owL κ) (paL κ)).symm
theorem recL_cons (s : zSt) (b : Int) (l : List Int) : recL s (b :: l) = recL (rec1 s b) l := rfl
theorem tlV_4 (i n : Int) : tlV 4 i n = zXor (teV 4 i n) 5 := by
  unfold tlV
  generalize zXor (teV 4 i n) 5 = q
  rfl
theorem tlV_5 (i n : Int) : tlV 5 i n = wr (teV 5 i n + 1) := by
  unfold tlV
  generalize wr (teV 5 i n + 1) = q
  rfl
theorem tlL_4 : tlL 4 = 50 :: teL 4 := by
  unfold tlL
  generalize teL 4 = q
  rfl
theorem tlL_5 : tlL 5 = 61 :: teL 5 := by
  unfold tlL
  generalize teL 5 = q
  rfl
theorem c_tl {κ i n p : Int} (hb : isBd s κ i) (hR : 0 ≤ s 9 3 ∧ s 9 3 ≤ 200) (hp : 0 ≤ p ∧ p ≤ 10) : zRun x (d + 33) 9 [.inr (.inl 9), .inl i, .inl 3, .inl n, .inl p] s (tlV κ i n) (recL s (tlL κ)) := by
  have hb' := hb
  obtain ⟨b1, b2, b3, b4, b5⟩ := hb
  have e1 := fun b => rec1_n (s := s) (b := b) (by omega)
  have hκ : κ = 0 ∨ κ = 1 ∨ κ = 2 ∨ κ = 3 ∨ κ = 4 ∨ κ = 5 ∨ κ = 6 ∨ κ = 7 := by omega
  rcases hκ with rfl | rfl | rfl | rfl | rfl | rfl | rfl | rfl
  · exact m9 (b := 2) b1 b2 b3 (by decide) (by omega) (c_te hb' (by omega) (by omega))
  · exact m9 (b := 2) b1 b2 b3 (by decide) (by omega) (c_te hb' (by omega) (by omega))
  · exact m9 (b := 2) b1 b2 b3 (by decide) (by omega) (c_te hb' (by omega) (by omega))
  · exact m9 (b := 2) b1 b2 b3 (by decide) (by omega) (c_te hb' (by omega) (by omega))
  · rw [tlV_4, tlL_4, recL_cons]
    exact m9 (b := 50) b1 b2 b3 (by decide) (by omega) (fun _ hQ => m12_50 hR.1 (B12_243 (m10 (b := 2) (by decide) (by decide) (by omega) (c_te (isBd.L hb' [50]) (by show 0 ≤ rec1 s 50 9 3 ∧ rec1 s 50 9 3 ≤ 300; rw [e1]; omega) (by omega)) _ (B12_253 hQ))))
  · rw [tlV_5, tlL_5, recL_cons]
    exact m9 (b := 61) b1 b2 b3 (by decide) (by omega) (fun _ hQ => m12_61 hR.1 (B12_277 (m10 (b := 2) (by decide) (by decide) (by omega) (c_te (isBd.L hb' [61]) (by show 0 ≤ rec1 s 61 9 3 ∧ rec1 s 61 9 3 ≤ 300; rw [e1]; omega) (by omega)) _ (B12_287 hQ))))
  · exact m9 (b := 2) b1 b2 b3 (by decide) (by omega) (c_te hb' (by omega) (by omega))
  · exact m9 (b := 2) b1 b2 b3 (by decide) (by omega) (c_te hb' (by omega) (by omega))
/-! the class's calls -/
def rAct (a : zSt) (i w n : Int) : Int := if (0 ≤ i ∧ i < a 42 51) ∧ 0 ≤ w ∧ w ≤ 3 then actV (a 77 i.toNat) i w n else 0
def lAct (a : zSt) (i w : Int) : List Int := if (0 ≤ i ∧ i < a 42 51) ∧ 0 ≤ w ∧ w ≤ 3 then actL (a 77 i.toNat) w else []
theorem c_act {i w n : Int} (hI : zBod a) (hs : zSim a s) (h : Q (some (.inl (rAct a i w n))) (recL (zU s 9 3 0) (lAct a i w))) : zE x (d + 36) 161 [.inr (.inl 0), .inl i, .inl w, .inl n] s Q := by
  obtain ⟨i1, i2, i3⟩ := hI
  have e9 : s 9 = a 9 := hs 9 rfl
  have e36 : s 36 = a 36 := hs 36 rfl
  have g1 : zU s 9 3 0 9 1 = a 9 1 := congrFun e9 1
  refine N161 (B161_0 (N8 (B8_0 (m3 (B8_10 ⟨fun h0 => B8_22 (B161_10 ?_), fun h0 => ?_⟩)))))
  · unfold rAct lAct at h
    rw [g1] at h0
    rw [if_neg (by omega), if_neg (by omega)] at h
    exact h
  · rw [g1] at h0
    have bad : ¬ (0 ≤ w ∧ w ≤ 3) → Q (some (.inl 0)) (zU s 9 3 0) := fun hw => by
      unfold rAct lAct at h
      rw [if_neg (by omega), if_neg (by omega)] at h
      exact h
    refine ⟨fun h1 => B8_22 (B161_10 (bad (by omega))), fun h1 => ⟨fun h2 => B8_24 ?_, fun h2 => B8_22 (B161_10 (bad (by omega)))⟩⟩
    unfold rAct lAct at h
    rw [if_pos (by omega), if_pos (by omega)] at h
    have k := i3 i.toNat (by omega)
    have hb : isBd (zU s 9 3 0) (a 77 i.toNat) i := ⟨by rw [g1]; omega, by rw [g1]; omega, (congrFun e36 i.toNat).trans k.1, by omega, by omega⟩
    have hR : (zU s 9 3 0) 9 3 = 0 := rfl
    have hw : w = 0 ∨ w = 1 ∨ w = 2 ∨ w = 3 := by omega
    rcases hw with rfl | rfl | rfl | rfl
    · exact c_ru hb (by omega) (by omega) _ (B8_32 (B161_10 h))
    · exact c_ow hb (by omega) (by omega) _ (B8_32 (B161_10 h))
    · exact c_pa hb (by omega) (by omega) _ (B8_32 (B161_10 h))
    · exact c_tl hb (by omega) (by omega) _ (B8_32 (B161_10 h))
def rBody (a : zSt) (k : Int) : Int := if 0 ≤ k ∧ k < 8 then (if a 42 51 < 50 then a 42 51 else -3) else -1
noncomputable def uBody (a s : zSt) (k : Int) : zSt := if 0 ≤ k ∧ k < 8 ∧ a 42 51 < 50 then zU (zU s 36 (a 42 51).toNat k) 9 1 (a 42 51 + 1) else s
theorem c_body {k : Int} (hI : zBod a) (hs : zSim a s) (h : Q (some (.inl (rBody a k))) (uBody a s k)) : zE x (d + 3) 160 [.inr (.inl 0), .inl k] s Q := by
  obtain ⟨i1, i2, i3⟩ := hI
  have e9 : s 9 1 = a 9 1 := congrFun (hs 9 rfl) 1
  unfold rBody uBody at h
  refine N160 (B160_0 (m2 (B160_8 ⟨fun h0 => B160_13 (N5 (B5_0 ⟨fun h1 => B5_12 ⟨by omega, by omega, B160_21 ?_⟩, fun h1 => B160_21 ?_⟩)), fun h0 => ?_⟩)))
  · rw [if_pos (by omega), if_pos (by omega), if_pos (by omega)] at h
    refine zQs (zQi h ?_) ?_
    · rw [wr_id (x := s 9 1 + 1) (by unfold zR; omega), wr_id (by unfold zR; omega)]
      omega
    · rw [e9, i1, wr_id (by unfold zR; omega)]
  · rw [if_pos (by omega), if_neg (by omega), if_neg (by omega)] at h
    exact h
  · rw [if_neg (by omega), if_neg (by omega)] at h
    exact h
def rTraced (a : zSt) (k : Int) : Int := if 0 ≤ k ∧ k < a 42 53 ∧ k < 24 then a 78 k.toNat else -1
def zTrc (a : zSt) : Prop := a 9 3 = a 42 53 ∧ (0 ≤ a 9 3 ∧ a 9 3 ≤ 1000) ∧ ∀ k : Nat, (k : Int) < a 9 3 → k < 24 → a 37 k = a 78 k
theorem c_traced {k : Int} (hI : zTrc a) (hs : zSim a s) (h : Q (some (.inl (rTraced a k))) s) : zE x (d + 2) 162 [.inr (.inl 0), .inl k] s Q := by
  obtain ⟨i1, i2, i3⟩ := hI
  have e9 : s 9 3 = a 9 3 := congrFun (hs 9 rfl) 3
  have e37 : s 37 k.toNat = a 37 k.toNat := congrFun (hs 37 rfl) k.toNat
  have e2 := i3 k.toNat
  unfold rTraced at h
  refine N162 (B162_0 (N7 ?_))
  repeat' (first | with_reducible refine B7_0 ?_ | with_reducible refine B7_27 ?_ | with_reducible refine B7_28 ?_ | with_reducible refine ⟨fun _ => ?_, fun _ => ?_⟩ | (with_reducible refine B162_8 ?_) | refine ⟨by omega, by omega, ?_⟩ | fail)
  all_goals refine zQi h ?_
  all_goals first | rw [if_neg (by omega)] | (rw [if_pos (by omega)]; rw [e37]; exact (e2 (by omega) (by omega)).symm)
end ZActs
