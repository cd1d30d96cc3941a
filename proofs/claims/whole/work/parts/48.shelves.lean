/-! shelves: keep, row, put, element, shift, taken: the class -/
abbrev okKeep (a : zSt) (i b : Int) : Prop := isSh i ∧ (b = -1 ∨ (0 ≤ b ∧ b < a 42 51))
def rKeep (a : zSt) (i b : Int) : Int := if okKeep a i b then 1 else -1
def uKeep (a s : zSt) (i b : Int) : zSt := if okKeep a i b then zU (zU s 38 i.toNat (if b = -1 then 6 else 5)) 40 i.toNat b else s
abbrev okRow (i w n : Int) : Prop := isSh i ∧ (0 ≤ w ∧ w ≤ 4) ∧ n ≤ 60
def rRow (i w n : Int) : Int := if okRow i w n then (if n < 0 then -14 else 1) else -1
def clrF (f : Nat → Int) (lo n : Nat) : Nat → Int := fun k => if lo ≤ k ∧ k < lo + n then 0 else f k
def uRow (s : zSt) (i w n : Int) : zSt := if okRow i w n ∧ 0 ≤ n then zF (zU (zU s 38 i.toNat w) 39 i.toNat n) 41 (clrF (s 41) (i.toNat * 60) n.toNat) else s
def plcF (a : zSt) (i k : Int) : Int := if isSh i then (if a 38 i.toNat = 6 then -11 else if a 38 i.toNat ≤ 4 then (if 0 ≤ k ∧ k < a 80 i.toNat then 0 else -13) else -12) else -1
def cutF (w v : Int) : Int := if w = 0 then w8 (wr v) else if w = 1 then w16 (wr v) else if w = 2 then wr v else if w = 3 then v else (if v = 0 then 0 else 1)
def rPut (a : zSt) (i k : Int) : Int := if plcF a i k = 0 then 1 else plcF a i k
def uPut (a s : zSt) (i k v : Int) : zSt := if plcF a i k = 0 then zU s 41 (i.toNat * 60 + k.toNat) (cutF (a 38 i.toNat) v) else s
def rElement (a : zSt) (i k : Int) : Int := if plcF a i k = 0 then a 81 (i.toNat * 60 + k.toNat) else -9223372036854775808
abbrev okShift (a : zSt) (i k j l n : Int) : Prop := 0 ≤ k ∧ 0 ≤ l ∧ 0 ≤ n ∧ n + k ≤ a 80 i.toNat ∧ n + l ≤ a 80 j.toNat
def whyShift (a : zSt) (i k j l n : Int) : Int := if isSh i ∧ isSh j then (if a 38 i.toNat = 6 ∨ a 38 j.toNat = 6 then -11 else if a 38 i.toNat ≤ 4 ∧ a 38 j.toNat = a 38 i.toNat then (if okShift a i k j l n then 0 else -13) else -12) else -1
def rShift (a : zSt) (i k j l n : Int) : Int := if whyShift a i k j l n = 0 then n else whyShift a i k j l n
def uShift (a s : zSt) (i k j l n : Int) : zSt := if whyShift a i k j l n = 0 then zF s 41 (zCpF (s 41) (s 41) (i.toNat * 60 + k.toNat) (j.toNat * 60 + l.toNat) n.toNat) else s
def rTaken (a : zSt) (i w : Int) : Int := if isSh i ∧ (0 ≤ w ∧ w ≤ 7) then (if refF a i.toNat 5 = 0 then (if subF (a 77 (a 79 i.toNat).toNat) w then a 77 (a 79 i.toNat).toNat else -12) else refF a i.toNat 5) else -1
theorem zUF (s : zSt) (q : Nat) (f : Nat → Int) (k : Nat) (v : Int) : zU (zF s q f) q k v = zF s q (fun k' => if k' = k then v else f k') := by
  funext q'
  unfold zU zF
  by_cases h : q' = q
  · simp [h]
  · simp [h]
theorem zF_id {s : zSt} {q : Nat} {f : Nat → Int} (h : f = s q) : zF s q f = s := by
  funext q'
  unfold zF
  by_cases e : q' = q
  · rw [if_pos e, h, e]
  · rw [if_neg e]
theorem clr0 (b : zSt) (q lo : Nat) : zF b q (clrF (b q) lo 0) = b := zF_id (by
  funext k
  unfold clrF
  rw [if_neg (by omega)])
theorem clrS (b : zSt) (q lo n : Nat) (f : Nat → Int) : zU (zF b q (clrF f lo n)) q (lo + n) 0 = zF b q (clrF f lo (n + 1)) := by
  rw [zUF]
  congr 1
  funext k
  unfold clrF
  by_cases h1 : k = lo + n
  · rw [if_pos h1, if_pos (by omega)]
  · rw [if_neg h1]
    by_cases h2 : lo ≤ k ∧ k < lo + n
    · rw [if_pos h2, if_pos (by omega)]
    · rw [if_neg h2, if_neg (by omega)]
section ZKeep
variable {x : List Int} {d : Nat} {a s : zSt} {Q : zQ}
theorem c_keep {i b : Int} (hV : zShv a) (hs : zSim a s) (h : Q (some (.inl (rKeep a i b))) (uKeep a s i b)) : zE x (d + 3) 163 [.inr (.inl 0), .inl i, .inl b] s Q := by
  have e9 : s 9 1 = a 42 51 := (congrFun (hs 9 rfl) 1).trans hV.1
  have bad : ¬ okKeep a i b → Q (some (.inl (-1))) s := fun hn => by
    unfold rKeep uKeep at h
    rw [if_neg hn, if_neg hn] at h
    exact h
  have good : okKeep a i b → zJ x (d + 2) 163 29 [some (.inr (.inl 0)), some (.inl i), some (.inl b)] [] s Q := fun hn => by
    unfold rKeep uKeep at h
    rw [if_pos hn, if_pos hn] at h
    refine B163_29 (N95 (B95_0 (m86 (B95_5 ⟨fun h0 => absurd h0 (by omega), fun _ => ⟨fun h1 => B95_23 (B95_24 ⟨by omega, by omega, by omega, by omega, B95_32 (B163_38 ?_)⟩), fun h1 => B95_24 ⟨by omega, by omega, by omega, by omega, B95_32 (B163_38 ?_)⟩⟩⟩))))
    · rw [if_neg h1] at h
      exact h
    · rw [if_pos (Decidable.not_not.mp h1)] at h
      exact h
  refine N163 (B163_0 (m86 (B163_8 ⟨fun h0 => B163_27 (bad (by omega)), fun h0 => ⟨fun h1 => good (by omega), fun h1 => m3 (B163_24 ⟨fun h2 => good ?_, fun h2 => B163_27 (bad ?_)⟩)⟩⟩)))
  · omega
  · omega
theorem m96_loop {i w n : Int} {b : zSt} {f : Nat → Int} (hi : isSh i) (hn : 0 ≤ n ∧ n ≤ 60) (h : Q none (zF b 41 (clrF f (i.toNat * 60) n.toNat))) :
    ∀ (j k : Nat), (k : Int) + j = n → zJ x d 96 35 [some (.inr (.inl 10)), some (.inl i), some (.inl w), some (.inl n), some (.inl (k : Int))] [] (zF b 41 (clrF f (i.toNat * 60) k)) Q := by
  intro j
  induction j with
  | zero =>
    intro k hk
    refine B96_35 ⟨fun _ => B96_60 (zQs h ?_), fun h0 => absurd h0 (by omega)⟩
    rw [show n.toNat = k by omega]
  | succ j ih =>
    intro k hk
    have e : True → wr (wr (i * 60) + k) = ((i.toNat * 60 + k : Nat) : Int) := fun _ => by
      rw [wr_id (x := i * 60) (by unfold zR; omega), wr_id (by unfold zR; omega)]
      omega
    refine B96_35 ⟨fun h0 => absurd h0 (by omega), fun _ => ?_⟩
    rw [e trivial, Int.toNat_natCast, clrS, show wr ((k : Int) + 1) = ((k + 1 : Nat) : Int) by rw [wr_id (by unfold zR; omega)]; omega]
    exact ⟨by omega, by omega, ih (k + 1) (by omega)⟩
theorem c_row {i w n : Int} (h : Q (some (.inl (rRow i w n))) (uRow s i w n)) : zE x (d + 3) 164 [.inr (.inl 0), .inl i, .inl w, .inl n] s Q := by
  have bad : ¬ okRow i w n → Q (some (.inl (-1))) s := fun hn => by
    unfold rRow uRow at h
    rw [if_neg hn, if_neg (fun e => hn e.1)] at h
    exact h
  refine N164 (B164_0 (m86 (B164_8 ⟨fun h0 => B164_26 (bad (by omega)), fun h0 => m118 (B164_17 ⟨fun h1 => B164_26 (bad (by omega)), fun h1 => ⟨fun h2 => B164_28 ⟨fun h3 => B164_35 ?_, fun h3 => ?_⟩, fun h2 => B164_26 (bad (by omega))⟩⟩)⟩)))
  · have ho : okRow i w n := by omega
    unfold rRow uRow at h
    rw [if_pos ho, if_neg (by omega), if_pos ⟨ho, h3⟩] at h
    refine N96 (B96_0 (m86 (B96_5 ⟨fun h4 => absurd h4 (by omega), fun _ => ⟨fun h4 => absurd h4 (by omega), fun _ => ⟨fun h4 => absurd h4 (by omega), fun _ => ⟨by omega, by omega, by omega, by omega, ?_⟩⟩⟩⟩)))
    have l := m96_loop (x := x) (d := d + 1) (Q := fun r s1 => zJ x (d + 2) 164 45 [some (.inr (.inl 0)), some (.inl i), some (.inl w), some (.inl n)] (zAp r []) s1 Q) (w := w) (b := zU (zU s 38 i.toNat w) 39 i.toNat n) (f := s 41) ho.1 (n := n) (by omega) (B164_45 h) n.toNat 0 (by omega)
    rw [show clrF (s 41) (i.toNat * 60) 0 = clrF ((zU (zU s 38 i.toNat w) 39 i.toNat n) 41) (i.toNat * 60) 0 from rfl, clr0] at l
    exact l
  · have ho : okRow i w n := by omega
    unfold rRow uRow at h
    rw [if_pos ho, if_pos (by omega), if_neg (by omega)] at h
    exact h
theorem m91 {i k : Int} (hV : zShv a) (hs : zSim a s) (h : Q (some (.inl (plcF a i k))) s) : zE x (d + 4) 91 [.inr (.inl 10), .inl i, .inl k] s Q := by
  have e38 : s 38 i.toNat = a 38 i.toNat := congrFun (hs 38 rfl) _
  unfold plcF at h
  refine N91 (B91_0 (m86 (B91_5 ⟨fun h0 => B91_10 ⟨by omega, by omega, fun h1 => B91_24 (m88 hs (B91_29 ⟨fun h2 => B91_37 ?_, fun h2 => B91_52 (zQi h ?_)⟩)), fun h1 => zQi h ?_⟩, fun h0 => zQi h ?_⟩)))
  · have hi : isSh i ∧ a 38 i.toNat ≤ 4 := by omega
    have hv := (hV.2 i.toNat (by omega)).2.2.2 hi.2
    rw [if_pos hi.1, if_neg (by omega), if_pos hi.2] at h
    refine m92 hs hi.1 hi.2 ?_
    rw [hv.2.1]
    refine B91_43 ⟨fun h3 => B91_51 (B91_52 (zQi h ?_)), fun h3 => B91_52 (zQi h ?_)⟩
    · rw [if_pos (by omega)]
    · rw [if_neg (by omega)]
  · rw [if_pos (by omega), if_neg (by omega), if_neg (by omega)]
  · rw [if_pos (by omega), if_pos (by omega)]
  · rw [if_neg (by omega)]
theorem plcF_0 {i k : Int} (h : plcF a i k = 0) : isSh i ∧ a 38 i.toNat ≤ 4 ∧ 0 ≤ k ∧ k < a 80 i.toNat := by
  unfold plcF at h
  repeat' split at h
  all_goals omega
theorem m99 {w v : Int} (hw : 0 ≤ w ∧ w ≤ 4) (h : Q (some (.inr (.inr (cutF w v)))) s) : zE x (d + 1) 99 [.inl w, .inr (.inr v)] s Q := by
  unfold cutF at h
  refine N99 (B99_0 ⟨fun h0 => B99_32 ?_, fun h0 => ⟨fun h1 => B99_37 ?_, fun h1 => ⟨fun h2 => B99_42 ?_, fun h2 => ⟨fun h3 => B99_46 ?_, fun h3 => B99_48 ⟨fun h4 => B99_58 (B99_59 ?_), fun h4 => B99_59 ?_⟩⟩⟩⟩⟩)
  · rw [if_pos h0] at h; exact h
  · rw [if_neg h0, if_pos h1] at h; exact h
  · rw [if_neg h0, if_neg h1, if_pos h2] at h; exact h
  · rw [if_neg h0, if_neg h1, if_neg h2, if_pos h3] at h; exact h
  · rw [if_neg h0, if_neg h1, if_neg h2, if_neg h3, if_pos (by split at h4 <;> (try split at h4) <;> omega)] at h; exact h
  · rw [if_neg h0, if_neg h1, if_neg h2, if_neg h3, if_neg (by intro e; subst e; exact h4 rfl)] at h; exact h
theorem c_put {i k v : Int} (hV : zShv a) (hs : zSim a s) (h : Q (some (.inl (rPut a i k))) (uPut a s i k v)) : zE x (d + 6) 165 [.inr (.inl 0), .inl i, .inl k, .inr (.inr v)] s Q := by
  have e38 : s 38 i.toNat = a 38 i.toNat := congrFun (hs 38 rfl) _
  unfold rPut uPut at h
  refine N165 (B165_0 (m91 hV hs (B165_9 ⟨fun h0 => B165_19 ?_, fun h0 => ?_⟩)))
  · rw [if_pos h0, if_pos h0] at h
    have p := plcF_0 h0
    have q := hV.2 i.toNat (by omega)
    have hv := q.2.2.2 p.2.1
    have e : True → wr (wr (i * 60) + k) = ((i.toNat * 60 + k.toNat : Nat) : Int) := fun _ => by
      rw [wr_id (x := i * 60) (by unfold zR; omega), wr_id (by unfold zR; omega)]
      omega
    refine N98 (B98_0 (m92 hs p.1 p.2.1 (B98_6 ⟨fun h1 => absurd h1 (by omega), fun _ => ?_⟩)))
    rw [e trivial, e38]
    refine ⟨by omega, by omega, m99 (by omega) (B98_29 ⟨by omega, by omega, B98_30 (B165_29 (zQs h ?_))⟩)⟩
    rw [Int.toNat_natCast]
  · rw [if_neg h0, if_neg h0] at h
    exact h
theorem c_element {i k : Int} (hV : zShv a) (hs : zSim a s) (h : Q (some (.inr (.inr (rElement a i k)))) s) : zE x (d + 6) 166 [.inr (.inl 0), .inl i, .inl k] s Q := by
  unfold rElement at h
  refine N166 (B166_0 (m91 hV hs (B166_9 ⟨fun h0 => B166_18 ?_, fun h0 => B166_27 ?_⟩)))
  · rw [if_pos h0] at h
    have p := plcF_0 h0
    have q := hV.2 i.toNat (by omega)
    have hv := q.2.2.2 p.2.1
    refine m97 hs p.1 p.2.1 (by omega) (B166_27 ?_)
    rw [(hv.2.2.2.2 k.toNat (by omega)).1]
    exact h
  · rw [if_neg h0] at h
    exact h
theorem m87 {i : Int} (hs : zSim a s) (h : Q (some (.inl (if isSh i ∧ a 38 i.toNat = 6 then 1 else 0))) s) : zE x (d + 2) 87 [.inr (.inl 10), .inl i] s Q := by
  have e : s 38 i.toNat = a 38 i.toNat := congrFun (hs 38 rfl) _
  refine N87 ?_
  repeat' (first | with_reducible refine B87_0 ?_ | with_reducible refine B87_5 ?_ | with_reducible refine B87_23 ?_ | with_reducible refine B87_24 ?_ | with_reducible refine ⟨fun _ => ?_, fun _ => ?_⟩ | (refine m86 ?_) | (refine ⟨by omega, ?_⟩) | refine ⟨by omega, by omega, ?_⟩ | fail)
  all_goals exact zQi h (by omega)
theorem m89 {i j : Int} (hs : zSim a s) (h : Q (some (.inl (if isSh i ∧ isSh j ∧ a 38 i.toNat = a 38 j.toNat then 1 else 0))) s) : zE x (d + 2) 89 [.inr (.inl 10), .inl i, .inl j] s Q := by
  have e : s 38 i.toNat = a 38 i.toNat := congrFun (hs 38 rfl) _
  have e2 : s 38 j.toNat = a 38 j.toNat := congrFun (hs 38 rfl) _
  refine N89 ?_
  repeat' (first | with_reducible refine B89_0 ?_ | with_reducible refine B89_5 ?_ | with_reducible refine B89_13 ?_ | with_reducible refine B89_35 ?_ | with_reducible refine B89_36 ?_ | with_reducible refine ⟨fun _ => ?_, fun _ => ?_⟩ | (refine m86 ?_) | (refine ⟨by omega, by omega, by omega, by omega, ?_⟩) | (refine ⟨by omega, ?_⟩) | refine ⟨by omega, by omega, ?_⟩ | fail)
  all_goals exact zQi h (by omega)
theorem m100 {i k n : Int} (hV : zShv a) (hs : zSim a s) (hi : isSh i ∧ a 38 i.toNat ≤ 4) (h : Q (some (.inl (if 0 ≤ k ∧ 0 ≤ n ∧ n + k ≤ a 80 i.toNat then 1 else 0))) s) : zE x (d + 3) 100 [.inr (.inl 10), .inl i, .inl k, .inl n] s Q := by
  have e : s 39 i.toNat = a 39 i.toNat := congrFun (hs 39 rfl) _
  have hv := (hV.2 i.toNat (by omega)).2.2.2 hi.2
  refine N100 (B100_0 (m88 hs (B100_5 ⟨fun h0 => absurd h0 (by omega), fun _ => ⟨fun h1 => B100_42 (B100_43 ⟨by omega, zQi h (by omega)⟩), fun h1 => ⟨fun h2 => B100_42 (B100_43 ⟨by omega, zQi h (by omega)⟩), fun h2 => ⟨by omega, by omega, fun h3 => B100_42 (B100_43 ⟨by omega, zQi h (by omega)⟩), fun h3 => ?_⟩⟩⟩⟩)))
  rw [wr_id (x := s 39 i.toNat - n) (by unfold zR; omega)]
  exact ⟨by omega, by omega, fun h4 => B100_42 (B100_43 ⟨by omega, zQi h (by omega)⟩), fun h4 => B100_43 ⟨by omega, zQi h (by omega)⟩⟩
theorem whyShift_0 {i k j l n : Int} (h : whyShift a i k j l n = 0) : (isSh i ∧ isSh j) ∧ (a 38 i.toNat ≤ 4 ∧ a 38 j.toNat = a 38 i.toNat) ∧ okShift a i k j l n := by
  unfold whyShift at h
  repeat' split at h
  all_goals first | omega | (refine ⟨?_, ?_, ?_⟩ <;> assumption)
theorem c_shift {i k j l n : Int} (hV : zShv a) (hs : zSim a s) (h : Q (some (.inl (rShift a i k j l n))) (uShift a s i k j l n)) : zE x (d + 6) 167 [.inr (.inl 0), .inl i, .inl k, .inl j, .inl l, .inl n] s Q := by
  have bad : ∀ v : Int, v ≠ 0 → whyShift a i k j l n = v → Q (some (.inl v)) s := fun v h0 e => by
    unfold rShift uShift at h
    rw [e, if_neg h0, if_neg h0] at h
    exact h
  have b1 : ¬ (isSh i ∧ isSh j) → Q (some (.inl (-1))) s := fun e => bad _ (by omega) (by unfold whyShift; rw [if_neg e])
  refine N167 (B167_0 (m86 (B167_8 ⟨fun h0 => B167_22 (b1 (by omega)), fun h0 => m86 (B167_19 ⟨fun h1 => B167_24 ?_, fun h1 => B167_22 (b1 (by omega))⟩)⟩)))
  have hij : isSh i ∧ isSh j := by omega
  have b2 : a 38 i.toNat = 6 ∨ a 38 j.toNat = 6 → Q (some (.inl (-11))) s := fun e => bad _ (by omega) (by unfold whyShift; rw [if_pos hij, if_pos e])
  refine m87 hs (B167_32 ⟨fun h2 => B167_46 (b2 (by omega)), fun h2 => m87 hs (B167_43 ⟨fun h3 => B167_49 ?_, fun h3 => B167_46 (b2 (by omega))⟩)⟩)
  have h6 : ¬ (a 38 i.toNat = 6 ∨ a 38 j.toNat = 6) := by omega
  have b3 : ¬ (a 38 i.toNat ≤ 4 ∧ a 38 j.toNat = a 38 i.toNat) → Q (some (.inl (-12))) s := fun e => bad _ (by omega) (by unfold whyShift; rw [if_pos hij, if_neg h6, if_neg e])
  refine m88 hs (B167_57 ⟨fun h4 => B167_83 (b3 (by omega)), fun h4 => m88 hs (B167_68 ⟨fun h5 => B167_83 (b3 (by omega)), fun h5 => m89 hs (B167_80 ⟨fun h7 => B167_86 ?_, fun h7 => B167_83 (b3 (by omega))⟩)⟩)⟩)
  have ha : a 38 i.toNat ≤ 4 ∧ a 38 j.toNat = a 38 i.toNat := by omega
  have b4 : ¬ okShift a i k j l n → Q (some (.inl (-13))) s := fun e => bad _ (by omega) (by unfold whyShift; rw [if_pos hij, if_neg h6, if_pos ha, if_neg e])
  refine m100 hV hs ⟨hij.1, ha.1⟩ (B167_97 ⟨fun h8 => B167_115 (b4 (by omega)), fun h8 => m100 hV hs ⟨hij.2, by omega⟩ (B167_112 ⟨fun h9 => B167_118 ?_, fun h9 => B167_115 (b4 (by omega))⟩)⟩)
  have ho : okShift a i k j l n := by omega
  have e0 : whyShift a i k j l n = 0 := by unfold whyShift; rw [if_pos hij, if_neg h6, if_pos ha, if_pos ho]
  unfold rShift uShift at h
  rw [if_pos e0, if_pos e0] at h
  have v1 := (hV.2 i.toNat (by omega)).2.2.2 ha.1
  have v2 := (hV.2 j.toNat (by omega)).2.2.2 (by omega)
  have e : True → wr (wr (i * 60) + k) = ((i.toNat * 60 + k.toNat : Nat) : Int) := fun _ => by
    rw [wr_id (x := i * 60) (by unfold zR; omega), wr_id (by unfold zR; omega)]
    omega
  have e' : True → wr (wr (j * 60) + l) = ((j.toNat * 60 + l.toNat : Nat) : Int) := fun _ => by
    rw [wr_id (x := j * 60) (by unfold zR; omega), wr_id (by unfold zR; omega)]
    omega
  refine N101 (B101_0 (m100 hV hs ⟨hij.1, ha.1⟩ (B101_8 ⟨fun h10 => absurd h10 (by omega), fun _ => m100 hV hs ⟨hij.2, by omega⟩ (B101_20 ⟨fun h10 => absurd h10 (by omega), fun _ => ?_⟩)⟩)))
  rw [e trivial, e' trivial, Int.toNat_natCast, Int.toNat_natCast]
  exact ⟨by omega, by omega, by omega, by omega, by omega, B101_49 (B167_132 h)⟩
def upF : Nat → Int → Int → Int
  | 0, k, _ => k
  | j + 1, k, w => if (0 ≤ k ∧ k < 8) ∧ k ≠ w then upF j (zABOVE.getD k.toNat 0) w else k
theorem upF_b : ∀ k : Nat, k < 8 → ∀ w : Nat, w < 8 → decide (upF 8 k w = w) = decide (subF k w) := by decide
theorem upF_s (k : Nat) (hk : k < 8) (w : Nat) (hw : w < 8) : upF 8 k w = w ↔ subF k w := decide_eq_decide.mp (upF_b k hk w hw)
theorem m6_go {o1 w : Int} : ∀ (j : Nat) (k : Int), j ≤ 8 → -1 ≤ k ∧ k ≤ 7 → (∀ t : Int, zJ x (d + 1) 6 37 [some (.inr (.inl 9)), some (.inl o1), some (.inl w), some (.inl (upF j k w)), some (.inl t)] [] s Q) → zJ x (d + 1) 6 5 [some (.inr (.inl 9)), some (.inl o1), some (.inl w), some (.inl k), some (.inl (8 - (j : Int)))] [] s Q := by
  intro j
  induction j with
  | zero => intro k _ _ h; exact B6_5 ⟨fun _ => h _, fun h0 => absurd h0 (by omega)⟩
  | succ j ih =>
    intro k hj hk h
    unfold upF at h
    refine B6_5 ⟨fun h0 => absurd h0 (by omega), fun _ => m2 (B6_17 ⟨fun h1 => ?_, fun h1 => ⟨fun h2 => ?_, fun h2 => ⟨by omega, by omega, ?_⟩⟩⟩)⟩
    · rw [if_neg (by omega)] at h
      exact h _
    · rw [if_neg (by omega)] at h
      exact h _
    · rw [if_pos (by omega)] at h
      rw [show wr (8 - ((j + 1 : Nat) : Int) + 1) = 8 - (j : Int) by rw [wr_id (by unfold zR; omega)]; omega]
      exact ih _ (by omega) (zABOVE_R k.toNat (by omega)) h
theorem m6 {k w : Int} (hk : 0 ≤ k ∧ k ≤ 7) (hw : 0 ≤ w ∧ w ≤ 7) (h : Q (some (.inl (if subF k w then 1 else 0))) s) : zE x (d + 2) 6 [.inr (.inl 9), .inl k, .inl w] s Q := by
  have e := upF_s k.toNat (by omega) w.toNat (by omega)
  rw [Int.toNat_of_nonneg hk.1, Int.toNat_of_nonneg hw.1] at e
  refine N6 (B6_0 (m6_go 8 k (by omega) (by omega) (fun t => B6_37 ⟨fun h0 => B6_46 (B6_47 ⟨by omega, zQi h ?_⟩), fun h0 => B6_47 ⟨by omega, zQi h ?_⟩⟩)))
  · rw [if_neg (fun q => h0 (e.mpr q))]
  · rw [if_pos (e.mp (Decidable.not_not.mp h0))]
theorem c_taken {i w : Int} (hI : zBod a) (hV : zShv a) (hs : zSim a s) (h : Q (some (.inl (rTaken a i w))) s) : zE x (d + 4) 168 [.inr (.inl 0), .inl i, .inl w] s Q := by
  have e38 : s 38 i.toNat = a 38 i.toNat := congrFun (hs 38 rfl) _
  have e40 : s 40 i.toNat = a 40 i.toNat := congrFun (hs 40 rfl) _
  have e9 : s 9 1 = a 9 1 := congrFun (hs 9 rfl) 1
  have e36 : ∀ k, s 36 k = a 36 k := fun k => congrFun (hs 36 rfl) k
  have bad : ¬ (isSh i ∧ (0 ≤ w ∧ w ≤ 7)) → Q (some (.inl (-1))) s := fun e => zQi h (by unfold rTaken; rw [if_neg e])
  refine N168 (B168_0 (m86 (B168_8 ⟨fun h0 => B168_22 (bad (by omega)), fun h0 => m2 (B168_19 ⟨fun h1 => B168_24 ?_, fun h1 => B168_22 (bad (by omega))⟩)⟩)))
  have ho : isSh i ∧ (0 ≤ w ∧ w ≤ 7) := by omega
  have h := zQi h (if_pos ho)
  refine m90 hs ho.1 (B168_33 ⟨fun h2 => B168_40 ?_, fun h2 => ?_⟩)
  · rw [if_pos h2] at h
    have h5 : a 38 i.toNat = 5 := by unfold refF at h2; split at h2 <;> (try split at h2) <;> omega
    have hv := (hV.2 i.toNat (by omega)).2.2.1 h5
    have q := hI.2.2 (a 40 i.toNat).toNat (by omega)
    refine N94 (B94_0 (m86 (B94_5 ⟨fun h3 => absurd h3 (by omega), fun _ => ⟨by omega, by omega, fun h3 => absurd h5 (by omega), fun _ => ⟨by omega, by omega, B94_28 (B168_52 (m4 (by have := hI.2.1; omega) (B168_55 ?_)))⟩⟩⟩)))
    rw [if_pos (by omega), e36, e40, q.1, ← hv.2.2]
    rw [← hv.2.2] at q
    refine m6 (by omega) ho.2 (B168_67 ⟨fun h6 => B168_75 (B168_77 (zQi h ?_)), fun h6 => B168_77 (zQi h ?_)⟩)
    · rw [if_neg (fun e => by rw [if_pos e] at h6; omega)]
    · rw [if_pos (Decidable.not_not.mp (fun e => by rw [if_neg e] at h6; omega))]
  · rw [if_neg h2] at h
    exact h
end ZKeep
