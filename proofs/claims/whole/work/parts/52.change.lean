/-! who comes, what is mended, undone, done again: the class -/
def addC (s : zSt) (p b v : Int) : zSt := zU (zU (zU (zU (zU s 18 (s 3 3).toNat p) 19 (s 3 3).toNat b) 20 (s 3 3).toNat v) 3 3 (s 3 3 + 1)) 3 4 (s 3 3 + 1)
def drpC (s : zSt) : zSt := if s 3 3 < 40 then s else zU (zF (zF (zF s 18 (zCpF (s 18) (s 18) 1 0 39)) 19 (zCpF (s 19) (s 19) 1 0 39)) 20 (zCpF (s 20) (s 20) 1 0 39)) 3 3 39
def zChg (a : zSt) : Prop := (a 3 3 = a 42 17 ∧ 0 ≤ a 3 3 ∧ a 3 3 ≤ a 3 4 ∧ a 3 4 ≤ 40 ∧ a 42 18 = a 3 4 - a 3 3) ∧ ∀ k : Nat, (k : Int) < a 3 4 →
  zOkN (a 2 3) (a 2 4) (a 53 k) (a 54 k) ∧ a 18 k = plF (a 2 3) (a 2 4) (a 54 k) (a 53 k) ∧ a 19 k = a 55 k ∧ a 20 k = a 56 k ∧ (zLEAST.getD (a 53 k).toNat 0 ≤ a 55 k ∧ a 55 k ≤ zMOST.getD (a 53 k).toNat 0) ∧ (zLEAST.getD (a 53 k).toNat 0 ≤ a 56 k ∧ a 56 k ≤ zMOST.getD (a 53 k).toNat 0)
def rChild (a : zSt) (v : Int) : Int := if 1 ≤ v ∧ v ≤ 30 then (if a 2 3 < 6 then a 2 3 else -3) else -1
abbrev okChild (a : zSt) (v : Int) : Prop := (1 ≤ v ∧ v ≤ 30) ∧ a 2 3 < 6
def uCh1 (s : zSt) (c v : Int) : zSt := zU (zU (zU (zU (zU s 2 3 (c + 1)) 16 (c * 4).toNat v) 16 (c * 4 + 1).toNat 0) 16 (c * 4 + 2).toNat 99) 16 (c * 4 + 3).toNat 0
def uChild (a s : zSt) (v : Int) : zSt := if okChild a v then uCh1 s (a 2 3) v else s
def uSp1 (s : zSt) (m c v w : Int) : zSt := zU (zU (zU (zU (zU (zU (zU s 2 4 (m + 1)) 17 m.toNat c) 16 (m * 5 + 24).toNat v) 16 (m * 5 + 25).toNat w) 16 (m * 5 + 26).toNat 10) 16 (m * 5 + 27).toNat 0) 16 (m * 5 + 28).toNat 9999
abbrev maySp (a : zSt) (c v w : Int) : Prop := isCh a c ∧ (0 ≤ v ∧ v ≤ 200) ∧ (0 ≤ w ∧ w ≤ 999)
def rSponsor (a : zSt) (c v : Int) : Int := if maySp a c v 0 then (if a 2 4 < 16 then a 2 4 else -3) else -1
def uSponsor (a s : zSt) (c v : Int) : zSt := if maySp a c v 0 ∧ a 2 4 < 16 then uSp1 s (a 2 4) c v 0 else s
def cellF (a : zSt) (i : Nat) (k : Int) : Int := wr (a 81 (i * 60 + k.toNat))
abbrev okSps (a : zSt) (i : Nat) (f : Int) (k : Nat) : Prop := f + 3 * k + 2 < a 80 i ∧ a 2 4 + k < 16 ∧ maySp a (cellF a i (f + 3 * k)) (cellF a i (f + 3 * k + 1)) (cellF a i (f + 3 * k + 2))
def spsN (a : zSt) (i : Nat) (f : Int) : Nat → Nat → Nat
  | 0, k => k
  | n + 1, k => if okSps a i f k then spsN a i f n (k + 1) else k
def uSpsN (a s : zSt) (i : Nat) (f : Int) : Nat → zSt
  | 0 => s
  | k + 1 => uSp1 (uSpsN a s i f k) (a 2 4 + k) (cellF a i (f + 3 * k)) (cellF a i (f + 3 * k + 1)) (cellF a i (f + 3 * k + 2))
/-- how many of them come -/
def numSps (a : zSt) (i : Nat) (f n : Int) : Nat := if a 38 i = 6 ∨ f < 0 then 0 else spsN a i f n.toNat 0
abbrev okSpsA (i n : Int) : Prop := isSh i ∧ (1 ≤ n ∧ n ≤ 16)
def rSponsors (a : zSt) (i f n : Int) : Int := if okSpsA i n then (if refF a i.toNat 1 = -12 then -12 else numSps a i.toNat f n) else -1
def uSponsors (a s : zSt) (i f n : Int) : zSt := if okSpsA i n ∧ ¬ refF a i.toNat 1 = -12 then uSpsN a s i.toNat f (numSps a i.toNat f n) else s
abbrev okMend (a : zSt) (n w v : Int) : Prop := zOkN (a 2 3) (a 2 4) w n ∧ zLEAST.getD w.toNat 0 ≤ v ∧ v ≤ zMOST.getD w.toNat 0
section ZChange
variable {x : List Int} {d : Nat} {a s : zSt} {Q : zQ}
theorem m43s {n w : Int} (h1 : s 2 3 ≤ 6) (h2 : s 2 4 ≤ 16) (h : Q (some (.inl (plF (s 2 3) (s 2 4) n w))) s) : zE x (d + 1) 43 [.inr (.inl 2), .inl n, .inl w] s Q := by
  refine N43 ?_
  repeat' (first | with_reducible refine B43_0 ?_ | with_reducible refine B43_14 ?_ | with_reducible refine B43_16 ?_ | with_reducible refine B43_37 ?_ | with_reducible refine B43_38 ?_ | with_reducible refine B43_39 ?_ | with_reducible refine B43_66 ?_ | with_reducible refine B43_67 ?_ | with_reducible refine B43_68 ?_ | with_reducible refine B43_82 ?_ | with_reducible refine B43_83 ?_ | with_reducible refine ⟨fun _ => ?_, fun _ => ?_⟩ | refine ⟨by omega, by omega, ?_⟩ | fail)
  all_goals exact zQi h (by
    unfold plF
    try simp only [wr]
    omega)
theorem m45 {p v : Int} (hp : 0 ≤ p ∧ p < 108) (h : Q none (zU s 16 p.toNat v)) : zE x (d + 1) 45 [.inr (.inl 2), .inl p, .inl v] s Q :=
  N45 (B45_0 ⟨fun e => absurd e (by omega), fun _ => ⟨fun e => absurd e (by omega), fun _ => ⟨by omega, by omega, B45_20 h⟩⟩⟩)
theorem m47_step {c v k w : Int} (hk : 0 ≤ k ∧ k ≤ 3) (hc : 0 ≤ c ∧ c < 6) (h1 : s 2 3 = c + 1) (h2 : s 2 4 ≤ 16) (hw : (if k = 0 then v else zFIRST.getD k.toNat 0) = w) (h : zJ x (d + 1) 47 29 [some (.inr (.inl 2)), some (.inl v), some (.inl c), some (.inl (k + 1))] [] (zU s 16 (c * 4 + k).toNat w) Q) : zJ x (d + 1) 47 29 [some (.inr (.inl 2)), some (.inl v), some (.inl c), some (.inl k)] [] s Q := by
  have e : plF (s 2 3) (s 2 4) c k = c * 4 + k := by unfold plF; omega
  have fin : zJ x (d + 1) 47 54 [some (.inr (.inl 2)), some (.inl v), some (.inl c), some (.inl k)] [.inl w, .inl (c * 4 + k), .inr (.inl 2)] s Q := by
    refine B47_54 (m45 (by omega) (B47_57 ?_))
    rw [wr_id (x := k + 1) (by unfold zR; omega)]
    exact h
  refine B47_29 ⟨fun e => absurd e (by omega), fun _ => m43s (by omega) h2 (B47_41 ?_)⟩
  rw [e]
  refine ⟨fun h3 => B47_49 ⟨by omega, by omega, ?_⟩, fun h3 => ?_⟩
  · rw [if_neg h3] at hw
    rw [hw]
    exact fin
  · rw [if_pos (Decidable.not_not.mp h3)] at hw
    subst hw
    exact fin
theorem m47 {v : Int} (h1 : 0 ≤ s 2 3) (h2 : s 2 4 ≤ 16) (h3 : s 2 3 < 6 → Q (some (.inl (s 2 3))) (uCh1 s (s 2 3) v)) (h4 : ¬ s 2 3 < 6 → Q (some (.inl (-3))) s) : zE x (d + 2) 47 [.inr (.inl 2), .inl v] s Q := by
  refine N47 (B47_0 ⟨fun h0 => B47_12 ?_, h4⟩)
  have h3 := h3 h0
  rw [wr_id (x := s 2 3 + 1) (by unfold zR; omega)]
  unfold uCh1 at h3
  generalize s 2 3 = c at *
  refine m47_step (w := v) (by omega) ⟨h1, h0⟩ rfl h2 rfl ?_
  refine m47_step (w := 0) (by omega) ⟨h1, h0⟩ rfl h2 rfl ?_
  refine m47_step (w := 99) (by omega) ⟨h1, h0⟩ rfl h2 rfl ?_
  refine m47_step (w := 0) (by omega) ⟨h1, h0⟩ rfl h2 rfl ?_
  refine B47_29 ⟨fun _ => B47_63 (zQs h3 ?_), fun e => absurd (by omega) e⟩
  rw [show c * 4 + 0 = c * 4 by omega]
  rfl
theorem c_child {v : Int} (hI : zFolk a) (hs : zSim a s) (h : Q (some (.inl (rChild a v))) (uChild a s v)) : zE x (d + 3) 120 [.inr (.inl 0), .inl v] s Q := by
  have e3 : s 2 3 = a 2 3 := congrFun (hs 2 rfl) 3
  have e4 : s 2 4 = a 2 4 := congrFun (hs 2 rfl) 4
  have i1 := hI.1
  unfold zCnt at i1
  unfold rChild uChild at h
  refine N120 (B120_0 ⟨by omega, by omega, by omega, by omega, m118 (B120_14 ⟨fun h0 => B120_19 (m47 (by omega) (by omega) (fun h1 => B120_27 ?_) (fun h1 => B120_27 ?_)), fun h0 => ?_⟩)⟩)
  · rw [if_pos (by omega), if_pos (by omega), if_pos (by omega)] at h
    rw [e3]
    exact h
  · rw [if_pos (by omega), if_neg (by omega), if_neg (by omega)] at h
    exact h
  · rw [if_neg (by omega), if_neg (by omega)] at h
    exact h
theorem m49_step {c v w m k z : Int} (hk : 4 ≤ k ∧ k ≤ 8) (hm : 0 ≤ m ∧ m < 16) (h1 : s 2 4 = m + 1) (h2 : s 2 3 ≤ 6) (hz : (if k = 4 then v else if k = 5 then w else zFIRST.getD k.toNat 0) = z) (h : zJ x (d + 1) 49 39 [some (.inr (.inl 2)), some (.inl c), some (.inl v), some (.inl w), some (.inl m), some (.inl (k + 1))] [] (zU s 16 (m * 5 + 20 + k).toNat z) Q) : zJ x (d + 1) 49 39 [some (.inr (.inl 2)), some (.inl c), some (.inl v), some (.inl w), some (.inl m), some (.inl k)] [] s Q := by
  have e : plF (s 2 3) (s 2 4) m k = m * 5 + 20 + k := by unfold plF; omega
  have fin : zJ x (d + 1) 49 81 [some (.inr (.inl 2)), some (.inl c), some (.inl v), some (.inl w), some (.inl m), some (.inl k)] [.inl z, .inl (m * 5 + 20 + k), .inr (.inl 2)] s Q := by
    refine B49_81 (m45 (by omega) (B49_84 ?_))
    rw [wr_id (x := k + 1) (by unfold zR; omega)]
    exact h
  refine B49_39 ⟨fun e => absurd e (by omega), fun _ => m43s h2 (by omega) (B49_55 ?_)⟩
  rw [e]
  refine ⟨fun h3 => B49_65 ⟨fun h4 => B49_75 ⟨by omega, by omega, ?_⟩, fun h4 => ?_⟩, fun h3 => ?_⟩
  · rw [if_neg h3, if_neg h4] at hz
    rw [hz]
    exact fin
  · rw [if_neg h3, if_pos (Decidable.not_not.mp h4)] at hz
    subst hz
    exact fin
  · rw [if_pos (Decidable.not_not.mp h3)] at hz
    subst hz
    exact fin
theorem m49 {c v w : Int} (h1 : 0 ≤ s 2 4) (h2 : s 2 3 ≤ 6) (h3 : s 2 4 < 16 → Q (some (.inl (s 2 4))) (uSp1 s (s 2 4) c v w)) (h4 : ¬ s 2 4 < 16 → Q (some (.inl (-3))) s) : zE x (d + 2) 49 [.inr (.inl 2), .inl c, .inl v, .inl w] s Q := by
  refine N49 (B49_0 ⟨fun h0 => B49_12 ⟨by omega, by omega, ?_⟩, h4⟩)
  have h3 := h3 h0
  rw [wr_id (x := s 2 4 + 1) (by unfold zR; omega)]
  unfold uSp1 at h3
  generalize s 2 4 = m at *
  refine m49_step (z := v) (by omega) ⟨h1, h0⟩ rfl h2 rfl ?_
  refine m49_step (z := w) (by omega) ⟨h1, h0⟩ rfl h2 rfl ?_
  refine m49_step (z := 10) (by omega) ⟨h1, h0⟩ rfl h2 rfl ?_
  refine m49_step (z := 0) (by omega) ⟨h1, h0⟩ rfl h2 rfl ?_
  refine m49_step (z := 9999) (by omega) ⟨h1, h0⟩ rfl h2 rfl ?_
  refine B49_39 ⟨fun _ => B49_90 (zQs h3 ?_), fun e => absurd (by omega) e⟩
  rw [show m * 5 + 20 + 4 = m * 5 + 24 by omega, show m * 5 + 20 + (4 + 1) = m * 5 + 25 by omega, show m * 5 + 20 + (4 + 1 + 1) = m * 5 + 26 by omega, show m * 5 + 20 + (4 + 1 + 1 + 1) = m * 5 + 27 by omega, show m * 5 + 20 + (4 + 1 + 1 + 1 + 1) = m * 5 + 28 by omega]
theorem m48 {c v w : Int} (h : Q (some (.inl (if maySp s c v w then 1 else 0))) s) : zE x (d + 2) 48 [.inr (.inl 2), .inl c, .inl v, .inl w] s Q := by
  refine N48 (B48_0 (m40 (a := s) zFr.rf (B48_5 ⟨fun h0 => B48_46 (B48_47 ⟨by omega, zQi h (by omega)⟩), fun h0 => ⟨by omega, by omega, by omega, by omega, m118 (B48_22 ⟨fun h1 => B48_46 (B48_47 ⟨by omega, zQi h (by omega)⟩), fun h1 => ⟨by omega, by omega, by omega, by omega, m118 (B48_39 ⟨fun h2 => B48_46 (B48_47 ⟨by omega, zQi h (by omega)⟩), fun h2 => B48_47 ⟨by omega, zQi h (by omega)⟩⟩)⟩⟩)⟩⟩)))
theorem c_sponsor {c v : Int} (hI : zFolk a) (hs : zSim a s) (h : Q (some (.inl (rSponsor a c v))) (uSponsor a s c v)) : zE x (d + 3) 121 [.inr (.inl 0), .inl c, .inl v] s Q := by
  have e3 : s 2 3 = a 2 3 := congrFun (hs 2 rfl) 3
  have e4 : s 2 4 = a 2 4 := congrFun (hs 2 rfl) 4
  have i1 := hI.1
  unfold zCnt at i1
  unfold rSponsor uSponsor at h
  refine N121 (B121_0 (m48 (B121_10 ⟨fun h0 => B121_15 (m49 (by omega) (by omega) (fun h1 => B121_25 ?_) (fun h1 => B121_25 ?_)), fun h0 => ?_⟩)))
  · rw [if_pos (by omega), if_pos (by omega), if_pos (by omega)] at h
    rw [e4]
    exact h
  · rw [if_pos (by omega), if_neg (by omega), if_neg (by omega)] at h
    exact h
  · rw [if_neg (by omega), if_neg (by omega)] at h
    exact h
theorem zShv_fr {t : zSt} (hV : zShv a) (h : ∀ q, 38 ≤ q → t q = a q) (h9 : t 9 = a 9) : zShv t := by
  unfold zShv
  rw [h9, h 42 (by decide), h 38 (by decide), h 39 (by decide), h 40 (by decide), h 41 (by decide), h 79 (by decide), h 80 (by decide), h 81 (by decide)]
  exact hV
theorem uSps_2 {i : Nat} {f : Int} : ∀ k : Nat, uSpsN a s i f k 2 = if k = 0 then s 2 else fun j => if j = 4 then a 2 4 + k else s 2 j := by
  intro k
  cases k with
  | zero => rfl
  | succ k =>
    funext j
    induction k with
    | zero =>
      show (if j = 4 then a 2 4 + ((0 : Nat) : Int) + 1 else s 2 j) = (if j = 4 then a 2 4 + ((0 + 1 : Nat) : Int) else s 2 j)
      split <;> omega
    | succ k ih =>
      show (if j = 4 then a 2 4 + ((k + 1 : Nat) : Int) + 1 else uSpsN a s i f (k + 1) 2 j) = (if j = 4 then a 2 4 + ((k + 1 + 1 : Nat) : Int) else s 2 j)
      rw [ih]
      show (if j = 4 then a 2 4 + ((k + 1 : Nat) : Int) + 1 else (if j = 4 then a 2 4 + ((k + 1 : Nat) : Int) else s 2 j)) = (if j = 4 then a 2 4 + ((k + 1 + 1 : Nat) : Int) else s 2 j)
      by_cases e : j = 4
      · rw [if_pos e, if_pos e]; omega
      · rw [if_neg e, if_neg e, if_neg e]
theorem uSps_o {i : Nat} {f : Int} {q : Nat} (hq : q ≠ 2 ∧ q ≠ 16 ∧ q ≠ 17) : ∀ k : Nat, uSpsN a s i f k q = s q
  | 0 => rfl
  | k + 1 => by
    show uSp1 (uSpsN a s i f k) _ _ _ _ q = s q
    unfold uSp1
    rw [zU_ne hq.2.1, zU_ne hq.2.1, zU_ne hq.2.1, zU_ne hq.2.1, zU_ne hq.2.1, zU_ne hq.2.2, zU_ne hq.1]
    exact uSps_o hq k
theorem m123_loop {i f n : Int} (hI : zFolk a) (hV : zShv a) (hs : zSim a s) (hi : isSh i ∧ a 38 i.toNat = 1) (hf : 0 ≤ f ∧ f ≤ 2147483647) (hn : n ≤ 16) {N : Nat} (h : Q (some (.inl N)) (uSpsN a s i.toNat f N)) :
    ∀ (j k : Nat), (k : Int) + j = n → spsN a i.toNat f j k = N → ∀ o6 o7 o8 o9 : Option zV, zJ x (d + 5) 123 13 [some (.inr (.inl 0)), some (.inl i), some (.inl f), some (.inl n), some (.inl (a 80 i.toNat)), some (.inl (k : Int)), o6, o7, o8, o9] [] (uSpsN a s i.toNat f k) Q := by
  have i1 := hI.1
  unfold zCnt at i1
  have hv := (hV.2 i.toNat (by omega)).2.2.2 (by omega)
  intro j
  induction j with
  | zero =>
    intro k hk hN o6 o7 o8 o9
    have e : k = N := hN
    subst e
    exact B123_13 ⟨fun _ => B123_124 h, fun e => absurd e (by omega)⟩
  | succ j ih =>
    intro k hk hN o6 o7 o8 o9
    unfold spsN at hN
    have stop : ¬ okSps a i.toNat f k → k = N := fun e => by rw [if_neg e] at hN; exact hN
    have e3 : uSpsN a s i.toNat f k 2 3 = a 2 3 := by
      have := congrFun (uSps_2 (a := a) (s := s) (i := i.toNat) (f := f) k) 3
      rw [this]
      have e := congrFun (hs 2 rfl) 3
      split
      · exact e
      · exact e
    have e4 : uSpsN a s i.toNat f k 2 4 = a 2 4 + k := by
      have := congrFun (uSps_2 (a := a) (s := s) (i := i.toNat) (f := f) k) 4
      rw [this]
      have e := congrFun (hs 2 rfl) 4
      split
      · rw [e]; omega
      · rfl
    have g := fun (q : Nat) (h1 : q ≠ 2 ∧ q ≠ 16 ∧ q ≠ 17) (h2 : zScL.contains q = false) => (uSps_o (a := a) (s := s) (i := i.toNat) (f := f) h1 k).trans (hs q h2)
    have g38 := congrFun (g 38 (by decide) rfl) i.toNat
    have g39 := congrFun (g 39 (by decide) rfl) i.toNat
    have g41 := fun p => congrFun (g 41 (by decide) rfl) p
    have eN : uSpsN a s i.toNat f (k + 1) = uSp1 (uSpsN a s i.toNat f k) (a 2 4 + k) (cellF a i.toNat (f + 3 * k)) (cellF a i.toNat (f + 3 * k + 1)) (cellF a i.toNat (f + 3 * k + 2)) := rfl
    refine B123_13 ⟨fun e => absurd e (by omega), fun _ => ?_⟩
    rw [wr_id (x := (k : Int) + 1) (by unfold zR; omega), wr_id (x := 3 * ((k : Int) + 1)) (by unfold zR; omega), wr_id (x := a 80 i.toNat - 3 * ((k : Int) + 1)) (by unfold zR; omega), wr_id (x := 3 * (k : Int)) (by unfold zR; omega)]
    refine ⟨fun e => ?_, fun e => ?_⟩
    · have ek := stop (fun g => by omega)
      subst ek
      exact B123_124 h
    · rw [wr_id (x := f + 3 * (k : Int)) (by unfold zR; omega)]
      have cell : ∀ p : Int, 0 ≤ p → p < a 80 i.toNat → wr (uSpsN a s i.toNat f k 41 (i.toNat * 60 + p.toNat)) = cellF a i.toNat p := fun p h1 h2 => by
        rw [g41, (hv.2.2.2.2 p.toNat (by omega)).1]
        rfl
      have at97 : ∀ (p : Int) {Q' : zQ}, 0 ≤ p → p < a 80 i.toNat → Q' (some (.inr (.inr (uSpsN a s i.toNat f k 41 (i.toNat * 60 + p.toNat))))) (uSpsN a s i.toNat f k) → zE x (d + 5) 97 [.inr (.inl 10), .inl i, .inl p] (uSpsN a s i.toNat f k) Q' := fun p Q' h1 h2 hq => m97 (d := d + 1) (a := uSpsN a s i.toNat f k) zFr.rf hi.1 (by omega) (by omega) hq
      refine at97 (f + 3 * (k : Int)) (by omega) (by omega) (B123_50 ?_)
      rw [wr_id (x := f + 3 * (k : Int) + 1) (by unfold zR; omega), cell (f + 3 * (k : Int)) (by omega) (by omega)]
      refine at97 (f + 3 * (k : Int) + 1) (by omega) (by omega) (B123_65 ?_)
      rw [wr_id (x := f + 3 * (k : Int) + 2) (by unfold zR; omega), cell (f + 3 * (k : Int) + 1) (by omega) (by omega)]
      refine at97 (f + 3 * (k : Int) + 2) (by omega) (by omega) (B123_80 ?_)
      rw [cell (f + 3 * (k : Int) + 2) (by omega) (by omega)]
      have bad : ¬ okSps a i.toNat f k → ∀ o9 : Option zV, Q (some (.inl (k : Int))) (uSpsN a s i.toNat f k) := fun e _ => by
        have ek := stop e
        subst ek
        exact h
      refine m48 (B123_96 ⟨fun h1 => B123_115 (bad (fun g => ?_) none), fun h1 => m49 (by omega) (by omega) (fun h2 => B123_112 ⟨fun h3 => B123_118 ?_, fun h3 => absurd (by omega) h3⟩) (fun h2 => B123_112 ⟨fun h3 => absurd h3 (by omega), fun h3 => B123_115 (bad (fun g => ?_) none)⟩)⟩)
      · have g3 : maySp (uSpsN a s i.toNat f k) (cellF a i.toNat (f + 3 * k)) (cellF a i.toNat (f + 3 * k + 1)) (cellF a i.toNat (f + 3 * k + 2)) := by
          unfold maySp isCh
          rw [e3]
          exact g.2.2
        rw [if_pos g3] at h1
        omega
      · have ho : okSps a i.toNat f k := by
          have h4 : maySp (uSpsN a s i.toNat f k) (cellF a i.toNat (f + 3 * k)) (cellF a i.toNat (f + 3 * k + 1)) (cellF a i.toNat (f + 3 * k + 2)) := Decidable.not_not.mp (fun e => by rw [if_neg e] at h1; omega)
          unfold maySp isCh at h4
          rw [e3] at h4
          exact ⟨by omega, by omega, h4⟩
        rw [if_pos ho] at hN
        have r := fun o6 o7 o8 o9 => ih (k + 1) (by omega) hN o6 o7 o8 o9
        rw [eN] at r
        rw [e4, show wr ((k : Int) + 1) = ((k + 1 : Nat) : Int) by rw [wr_id (by unfold zR; omega)]; omega]
        exact r _ _ _ _
      · omega
theorem c_sponsors {i f n : Int} (hI : zFolk a) (hV : zShv a) (hs : zSim a s) (h : Q (some (.inl (rSponsors a i f n))) (uSponsors a s i f n)) : zE x (d + 7) 122 [.inr (.inl 0), .inl i, .inl f, .inl n] s Q := by
  have bad : ¬ okSpsA i n → Q (some (.inl (-1))) s := fun e => by
    unfold rSponsors uSponsors at h
    rw [if_neg e, if_neg (fun g => e g.1)] at h
    exact h
  refine zE_ok (fun _ hT => ?_)
  have hfR : zR f := hT (.inl f) (by simp)
  refine N122 (B122_0 (m86 (B122_8 ⟨fun h0 => B122_21 (bad (by omega)), fun h0 => m118 (B122_18 ⟨fun h1 => B122_23 ?_, fun h1 => B122_21 (bad (by omega))⟩)⟩)))
  have ho : okSpsA i n := by omega
  unfold rSponsors uSponsors at h
  rw [if_pos ho] at h
  refine m90 hs ho.1 (B122_32 ⟨fun h2 => B122_44 ?_, fun h2 => ?_⟩)
  · rw [if_neg h2, if_pos ⟨ho, h2⟩] at h
    have q := hV.2 i.toNat (by omega)
    have zero : numSps a i.toNat f n = 0 → Q (some (.inl 0)) s := fun e => by
      rw [e] at h
      exact h
    have r1 : refF a i.toNat 1 = -11 ↔ a 38 i.toNat = 6 := by
      unfold refF
      constructor
      · intro e
        split at e
        · assumption
        · split at e <;> omega
      · intro e
        rw [if_pos e]
    refine ⟨fun h3 => B122_55 (B122_66 (zero (if_pos (Or.inl (r1.mp h3))))), fun h3 => ⟨fun h4 => B122_59 ?_, fun h4 => B122_55 (B122_66 (zero (if_pos (Or.inr (by omega)))))⟩⟩
    have h38 : a 38 i.toNat = 1 := by
      unfold refF at h2 h3
      by_cases e : a 38 i.toNat = 6
      · rw [if_pos e] at h3; omega
      · rw [if_neg e] at h2
        by_cases e2 : a 38 i.toNat = 1
        · exact e2
        · rw [if_neg e2] at h2; omega
    have en : numSps a i.toNat f n = spsN a i.toNat f n.toNat 0 := if_neg (by omega)
    refine N123 (B123_0 (m93 hs ho.1 (by omega) (B123_8 ?_)))
    rw [(q.2.2.2 (by omega)).2.1]
    rw [en] at h
    exact m123_loop (d := d) hI hV hs ⟨ho.1, h38⟩ (by unfold zR at hfR; omega) (by omega) (B122_66 h) n.toNat 0 (by omega) rfl none none none none
  · rw [if_pos (Decidable.not_not.mp h2), if_neg (fun g => h2 g.2)] at h
    refine zQi h (Decidable.not_not.mp h2).symm
end ZChange
