/-! shelves: keep, row, put, element, shift, taken: the reference -/
/-- the reference's rows as they were: the class may have gone on -/
abbrev zSimM (a s : zSt) : Prop := ∀ q, 42 ≤ q → zScL.contains q = false → s q = a q
theorem zSim.M {a s : zSt} (h : zSim a s) : zSimM a s := fun q _ h2 => h q h2
def vKeep (a s : zSt) (i b : Int) : zSt := if okKeep a i b then zU s 79 i.toNat b else s
def vRow (s : zSt) (i w n : Int) : zSt := if okRow i w n ∧ 0 ≤ n then zF (zU (zU s 79 i.toNat (-2 - w)) 80 i.toNat n) 81 (clrF (s 81) (i.toNat * 60) 60) else s
def vPut (a s : zSt) (i k v : Int) : zSt := if plcF a i k = 0 then zU s 81 (i.toNat * 60 + k.toNat) (cutF (a 38 i.toNat) v) else s
def vShift (a s : zSt) (i k j l n : Int) : zSt := if whyShift a i k j l n = 0 then zF s 81 (zCpF (s 81) (s 81) (i.toNat * 60 + k.toNat) (j.toNat * 60 + l.toNat) n.toNat) else s
section ZMKeep
variable {x : List Int} {d : Nat} {a s : zSt} {Q : zQ}
theorem e_keep {i b : Int} (hB : 0 ≤ a 42 51 ∧ a 42 51 ≤ 50) (hs : zSimM a s) (h : Q (some (.inl (rKeep a i b))) (vKeep a s i b)) : zE x (d + 3) 277 [.inr (.inl 42), .inl i, .inl b] s Q := by
  have e9 : s 42 51 = a 42 51 := congrFun (hs 42 (by decide) rfl) 51
  have bad : ¬ okKeep a i b → Q (some (.inl (-1))) s := fun hn => by
    unfold rKeep vKeep at h
    rw [if_neg hn, if_neg hn] at h
    exact h
  have good : okKeep a i b → zJ x (d + 2) 277 22 [some (.inr (.inl 42)), some (.inl i), some (.inl b)] [] s Q := fun hn => by
    unfold rKeep vKeep at h
    rw [if_pos hn, if_pos hn] at h
    exact B277_22 ⟨by omega, by omega, h⟩
  refine N277 (B277_0 (m276 (B277_4 ⟨fun h0 => B277_20 (bad (by omega)), fun h0 => ⟨fun h1 => good (by omega), fun h1 => N258 (B258_0 (m170 (B258_11 ⟨by omega, B277_17 ⟨fun h2 => good ?_, fun h2 => B277_20 (bad ?_)⟩⟩)))⟩⟩)))
  · rw [e9, wr_id (by unfold zR; omega)] at h2
    omega
  · rw [e9, wr_id (by unfold zR; omega)] at h2
    omega
theorem m278_loop {i w n : Int} {b : zSt} {f : Nat → Int} (hi : isSh i) (h : Q (some (.inl 1)) (zF b 81 (clrF f (i.toNat * 60) 60))) :
    ∀ (j k : Nat), k + j = 60 → zJ x d 278 54 [some (.inr (.inl 42)), some (.inl i), some (.inl w), some (.inl n), some (.inl ((i.toNat * 60 + k : Nat) : Int))] [] (zF b 81 (clrF f (i.toNat * 60) k)) Q := by
  have e : True → wr (wr (60 * i) + 60) = i * 60 + 60 := fun _ => by
    rw [wr_id (x := 60 * i) (by unfold zR; omega), wr_id (by unfold zR; omega)]
    omega
  intro j
  induction j with
  | zero =>
    intro k hk
    refine B278_54 ⟨fun _ => B278_80 (zQs h ?_), fun h0 => absurd h0 ?_⟩
    · rw [show k = 60 by omega]
    · rw [e trivial]; omega
  | succ j ih =>
    intro k hk
    refine B278_54 ⟨fun h0 => absurd h0 ?_, fun _ => ?_⟩
    · rw [e trivial]; omega
    · rw [Int.toNat_natCast, clrS, show wr (((i.toNat * 60 + k : Nat) : Int) + 1) = ((i.toNat * 60 + (k + 1) : Nat) : Int) by rw [wr_id (by unfold zR; omega)]; omega]
      exact ⟨by omega, by omega, ih (k + 1) (by omega)⟩
theorem e_row {i w n : Int} (h : Q (some (.inl (rRow i w n))) (vRow s i w n)) : zE x (d + 3) 278 [.inr (.inl 42), .inl i, .inl w, .inl n] s Q := by
  have bad : ¬ okRow i w n → Q (some (.inl (-1))) s := fun hn => by
    unfold rRow vRow at h
    rw [if_neg hn, if_neg (fun e => hn e.1)] at h
    exact h
  refine N278 (B278_0 (m276 (B278_4 ⟨fun h0 => B278_22 (bad (by omega)), fun h0 => m170 (B278_13 ⟨fun h1 => B278_22 (bad (by omega)), fun h1 => ⟨fun h2 => B278_24 ⟨fun h3 => B278_31 ?_, fun h3 => ?_⟩, fun h2 => B278_22 (bad (by omega))⟩⟩)⟩)))
  · have ho : okRow i w n := by omega
    unfold rRow vRow at h
    rw [if_pos ho, if_neg (by omega), if_pos ⟨ho, h3⟩] at h
    rw [wr_id (x := -2 - w) (by unfold zR; omega), show wr (60 * i) = ((i.toNat * 60 + 0 : Nat) : Int) by rw [wr_id (by unfold zR; omega)]; omega]
    refine ⟨by omega, by omega, by omega, by omega, ?_⟩
    have l := m278_loop (x := x) (d := d + 2) (w := w) (b := zU (zU s 79 i.toNat (-2 - w)) 80 i.toNat n) (f := s 81) ho.1 (n := n) h 60 0 (by omega)
    rw [show clrF (s 81) (i.toNat * 60) 0 = clrF ((zU (zU s 79 i.toNat (-2 - w)) 80 i.toNat n) 81) (i.toNat * 60) 0 from rfl, clr0] at l
    exact l
  · have ho : okRow i w n := by omega
    unfold rRow vRow at h
    rw [if_pos ho, if_pos (by omega), if_neg (by omega)] at h
    exact h
theorem m279 {i k : Int} (hV : zShv a) (hs : zSimM a s) (h : Q (some (.inl (plcF a i k))) s) : zE x (d + 4) 279 [.inr (.inl 42), .inl i, .inl k] s Q := by
  have e79 : s 79 i.toNat = a 79 i.toNat := congrFun (hs 79 (by decide) rfl) _
  have e80 : s 80 i.toNat = a 80 i.toNat := congrFun (hs 80 (by decide) rfl) _
  have q := fun hi : isSh i => hV.2 i.toNat (by omega)
  unfold plcF at h
  refine N279 (B279_0 (m276 (B279_4 ⟨fun h0 => B279_9 ?_, fun h0 => zQi h ?_⟩)))
  · have hi : isSh i := by omega
    have qi := q hi
    have v := qi.2.2.2
    rw [if_pos hi] at h
    refine ⟨by omega, by omega, fun h1 => B279_22 ⟨by omega, by omega, fun h2 => B279_34 ⟨by omega, by omega, m170 (B279_47 ?_)⟩, fun h2 => zQi h ?_⟩, fun h1 => zQi h ?_⟩
    · have h4 : a 38 i.toNat ≤ 4 := by omega
      have v4 := v h4
      rw [if_neg (by omega), if_pos h4] at h
      rw [e80, wr_id (x := a 80 i.toNat - 1) (by unfold zR; omega)]
      refine ⟨fun h3 => B279_54 (B279_56 (zQi h ?_)), fun h3 => B279_56 (zQi h ?_)⟩
      · rw [if_neg (by omega)]
      · rw [if_pos (by omega)]
    · have v4 := fun e => (v e).1
      rw [if_neg (by omega), if_neg (by omega)]
    · have v4 := fun e => (v e).1
      rw [if_pos (by omega)]
  · rw [if_neg (by omega)]
theorem e_put {i k v : Int} (hV : zShv a) (hs : zSimM a s) (h : Q (some (.inl (rPut a i k))) (vPut a s i k v)) : zE x (d + 6) 280 [.inr (.inl 42), .inl i, .inl k, .inr (.inr v)] s Q := by
  have e79 : s 79 i.toNat = a 79 i.toNat := congrFun (hs 79 (by decide) rfl) _
  unfold rPut vPut at h
  have neg : plcF a i k ≠ 0 → plcF a i k < 0 := fun e => by
    unfold plcF at *
    repeat' split
    all_goals first | omega | (exfalso; simp [*] at e)
  refine N280 (B280_0 (m279 hV hs (B280_6 ⟨fun h0 => B280_16 ?_, fun h0 => ?_⟩)))
  · have h0 : plcF a i k = 0 := by omega
    rw [if_pos h0, if_pos h0] at h
    have p := plcF_0 h0
    have q := hV.2 i.toNat (by omega)
    have hv := q.2.2.2 p.2.1
    have e : wr (wr (60 * i) + k) = ((i.toNat * 60 + k.toNat : Nat) : Int) := by
      rw [wr_id (x := 60 * i) (by unfold zR; omega), wr_id (by unfold zR; omega)]
      omega
    have e2 : wr (-2 - s 79 i.toNat) = a 38 i.toNat := by
      rw [wr_id (by unfold zR; omega)]
      omega
    rw [e2, e]
    clear e e2
    have fin : ∀ {w : Int}, cutF (a 38 i.toNat) v = w → ∀ {l5 l6 : Option zV}, 0 ≤ ((i.toNat * 60 + k.toNat : Nat) : Int) ∧ ((i.toNat * 60 + k.toNat : Nat) : Int) < 360 ∧ Q (some (.inl 1)) (zU s 81 ((i.toNat * 60 + k.toNat : Nat) : Int).toNat w) := fun e _ _ => by
      subst e
      rw [Int.toNat_natCast]
      exact ⟨by omega, by omega, h⟩
    unfold cutF at fin
    refine ⟨by omega, by omega, fun h1 => B280_49 ⟨fun h2 => B280_62 ⟨fun h3 => B280_74 ⟨fun h4 => B280_84 ⟨fun h5 => B280_94 (B280_95 (fin ?_ (l5 := none) (l6 := none))), fun h5 => B280_95 (fin ?_ (l5 := none) (l6 := none))⟩, fun h4 => B280_95 (fin ?_ (l5 := none) (l6 := none))⟩, fun h3 => B280_95 (fin ?_ (l5 := none) (l6 := none))⟩, fun h2 => B280_95 (fin ?_ (l5 := none) (l6 := none))⟩, fun h1 => B280_95 (fin ?_ (l5 := none) (l6 := none))⟩
    · rw [if_neg h1, if_neg h2, if_neg h3, if_neg h4, if_pos (by split at h5 <;> (try split at h5) <;> omega)]
    · rw [if_neg h1, if_neg h2, if_neg h3, if_neg h4, if_neg (by intro e; subst e; exact h5 rfl)]
    · rw [if_neg h1, if_neg h2, if_neg h3, if_pos (Decidable.not_not.mp h4)]
    · rw [if_neg h1, if_neg h2, if_pos (Decidable.not_not.mp h3)]
    · rw [if_neg h1, if_pos (Decidable.not_not.mp h2)]
    · rw [if_pos (Decidable.not_not.mp h1)]
  · have h0 : ¬ plcF a i k = 0 := by omega
    rw [if_neg h0, if_neg h0] at h
    exact h
theorem e_element {i k : Int} (hV : zShv a) (hs : zSimM a s) (h : Q (some (.inr (.inr (rElement a i k)))) s) : zE x (d + 6) 281 [.inr (.inl 42), .inl i, .inl k] s Q := by
  have e81 : s 81 = a 81 := hs 81 (by decide) rfl
  unfold rElement at h
  have neg : plcF a i k ≠ 0 → plcF a i k < 0 := fun e => by
    unfold plcF at *
    repeat' split
    all_goals first | omega | (exfalso; simp [*] at e)
  refine N281 (B281_0 (m279 hV hs (B281_6 ⟨fun h0 => B281_15 ?_, fun h0 => B281_26 ?_⟩)))
  · have h0 : plcF a i k = 0 := by omega
    rw [if_pos h0] at h
    have p := plcF_0 h0
    have hv := (hV.2 i.toNat (by omega)).2.2.2 p.2.1
    have e : True → wr (wr (60 * i) + k) = ((i.toNat * 60 + k.toNat : Nat) : Int) := fun _ => by
      rw [wr_id (x := 60 * i) (by unfold zR; omega), wr_id (by unfold zR; omega)]
      omega
    rw [e trivial, Int.toNat_natCast, e81]
    exact ⟨by omega, by omega, B281_26 h⟩
  · rw [if_neg (by omega)] at h
    exact h
/-- places copied one by one -/
def cpyF (f g : Nat → Int) (lo n : Nat) : Nat → Int := fun k => if lo ≤ k ∧ k < lo + n then g (k - lo) else f k
theorem cpy0 (b : zSt) (q lo : Nat) (g : Nat → Int) : zF b q (cpyF (b q) g lo 0) = b := zF_id (by
  funext k
  unfold cpyF
  rw [if_neg (by omega)])
theorem cpyS (b : zSt) (q lo n : Nat) (f g : Nat → Int) : zU (zF b q (cpyF f g lo n)) q (lo + n) (g n) = zF b q (cpyF f g lo (n + 1)) := by
  rw [zUF]
  congr 1
  funext k
  unfold cpyF
  by_cases h1 : k = lo + n
  · rw [if_pos h1, if_pos (by omega), show k - lo = n by omega]
  · rw [if_neg h1]
    by_cases h2 : lo ≤ k ∧ k < lo + n
    · rw [if_pos h2, if_pos (by omega)]
    · rw [if_neg h2, if_neg (by omega)]
theorem m282_one {i k j l n : Int} (hi : isSh i) (hk : 0 ≤ k ∧ 0 ≤ n ∧ n + k ≤ 60) (h : zJ x d 282 150 [some (.inr (.inl 42)), some (.inl i), some (.inl k), some (.inl j), some (.inl l), some (.inl n), some (.inl 0)] [] (zF s 82 (cpyF (s 82) (fun p => s 81 (i.toNat * 60 + k.toNat + p)) 0 n.toNat)) Q) :
    ∀ (r p : Nat), (p : Int) + r = n → zJ x d 282 113 [some (.inr (.inl 42)), some (.inl i), some (.inl k), some (.inl j), some (.inl l), some (.inl n), some (.inl (p : Int))] [] (zF s 82 (cpyF (s 82) (fun p => s 81 (i.toNat * 60 + k.toNat + p)) 0 p)) Q := by
  intro r
  induction r with
  | zero =>
    intro p hp
    refine B282_113 ⟨fun _ => B282_147 ?_, fun h0 => absurd h0 (by omega)⟩
    rw [show p = n.toNat by omega]
    exact h
  | succ r ih =>
    intro p hp
    have e : True → wr (wr (wr (60 * i) + k) + p) = ((i.toNat * 60 + k.toNat + p : Nat) : Int) := fun _ => by
      rw [wr_id (x := 60 * i) (by unfold zR; omega), wr_id (x := 60 * i + k) (by unfold zR; omega), wr_id (by unfold zR; omega)]
      omega
    refine B282_113 ⟨fun h0 => absurd h0 (by omega), fun _ => ?_⟩
    rw [e trivial, Int.toNat_natCast, Int.toNat_natCast, zF_ne (by decide), show wr ((p : Int) + 1) = ((p + 1 : Nat) : Int) by rw [wr_id (by unfold zR; omega)]; omega]
    have c := cpyS s 82 0 p (s 82) (fun p => s 81 (i.toNat * 60 + k.toNat + p))
    rw [Nat.zero_add] at c
    rw [c]
    exact ⟨by omega, by omega, by omega, by omega, ih (p + 1) (by omega)⟩
theorem m282_two {i k j l n : Int} {g : Nat → Int} (hj : isSh j) (hl : 0 ≤ l ∧ 0 ≤ n ∧ n + l ≤ 60) (hg : ∀ p : Nat, (p : Int) < n → s 82 p = g p) (h : Q (some (.inl n)) (zF s 81 (cpyF (s 81) g (j.toNat * 60 + l.toNat) n.toNat))) :
    ∀ (r p : Nat), (p : Int) + r = n → zJ x d 282 150 [some (.inr (.inl 42)), some (.inl i), some (.inl k), some (.inl j), some (.inl l), some (.inl n), some (.inl (p : Int))] [] (zF s 81 (cpyF (s 81) g (j.toNat * 60 + l.toNat) p)) Q := by
  intro r
  induction r with
  | zero =>
    intro p hp
    refine B282_150 ⟨fun _ => B282_185 (zQs h ?_), fun h0 => absurd h0 (by omega)⟩
    rw [show n.toNat = p by omega]
  | succ r ih =>
    intro p hp
    have e : True → wr (wr (wr (60 * j) + l) + p) = ((j.toNat * 60 + l.toNat + p : Nat) : Int) := fun _ => by
      rw [wr_id (x := 60 * j) (by unfold zR; omega), wr_id (x := 60 * j + l) (by unfold zR; omega), wr_id (by unfold zR; omega)]
      omega
    refine B282_150 ⟨fun h0 => absurd h0 (by omega), fun _ => ?_⟩
    rw [e trivial, Int.toNat_natCast, Int.toNat_natCast, zF_ne (by decide), hg p (by omega), cpyS, show wr ((p : Int) + 1) = ((p + 1 : Nat) : Int) by rw [wr_id (by unfold zR; omega)]; omega]
    exact ⟨by omega, by omega, by omega, by omega, ih (p + 1) (by omega)⟩
theorem e_shift {i k j l n : Int} (hV : zShv a) (hs : zSimM a s) (h : ∀ s', zFr [82] (vShift a s i k j l n) s' → Q (some (.inl (rShift a i k j l n))) s') : zE x (d + 4) 282 [.inr (.inl 42), .inl i, .inl k, .inl j, .inl l, .inl n] s Q := by
  have e79 : ∀ p, s 79 p = a 79 p := fun p => congrFun (hs 79 (by decide) rfl) p
  have e80 : ∀ p, s 80 p = a 80 p := fun p => congrFun (hs 80 (by decide) rfl) p
  have bad : ∀ v : Int, v ≠ 0 → whyShift a i k j l n = v → Q (some (.inl v)) s := fun v h0 e => by
    have h := h s (by unfold vShift; rw [e, if_neg h0]; exact zFr.rf)
    unfold rShift at h
    rw [e, if_neg h0] at h
    exact h
  have b1 : ¬ (isSh i ∧ isSh j) → Q (some (.inl (-1))) s := fun e => bad _ (by omega) (by unfold whyShift; rw [if_neg e])
  refine zE_ok (fun _ hT => ?_)
  have hn : zR n := hT (.inl n) (by simp)
  unfold zR at hn
  refine N282 (B282_0 (m276 (B282_4 ⟨fun h0 => B282_14 (b1 (by omega)), fun h0 => m276 (B282_11 ⟨fun h1 => B282_16 ?_, fun h1 => B282_14 (b1 (by omega))⟩)⟩)))
  have hij : isSh i ∧ isSh j := by omega
  have q1 := hV.2 i.toNat (by omega)
  have q2 := hV.2 j.toNat (by omega)
  have r1 := fun e => (q1.2.2.2 e).1
  have r2 := fun e => (q2.2.2.2 e).1
  rw [e79, e79]
  have b2 : a 38 i.toNat = 6 ∨ a 38 j.toNat = 6 → Q (some (.inl (-11))) s := fun e => bad _ (by omega) (by unfold whyShift; rw [if_pos hij, if_pos e])
  refine ⟨by omega, by omega, fun h2 => B282_36 (b2 (by omega)), fun h2 => ⟨by omega, by omega, fun h3 => B282_39 ?_, fun h3 => B282_36 (b2 (by omega))⟩⟩
  have h6 : ¬ (a 38 i.toNat = 6 ∨ a 38 j.toNat = 6) := by omega
  have b3 : ¬ (a 38 i.toNat ≤ 4 ∧ a 38 j.toNat = a 38 i.toNat) → Q (some (.inl (-12))) s := fun e => bad _ (by omega) (by unfold whyShift; rw [if_pos hij, if_neg h6, if_neg e])
  rw [e79, e79]
  refine ⟨by omega, by omega, fun h4 => B282_63 (b3 (by omega)), fun h4 => ⟨by omega, by omega, by omega, by omega, fun h5 => B282_66 ?_, fun h5 => B282_63 (b3 (by omega))⟩⟩
  have ha : a 38 i.toNat ≤ 4 ∧ a 38 j.toNat = a 38 i.toNat := by omega
  have v1 := q1.2.2.2 ha.1
  have v2 := q2.2.2.2 (by omega)
  have b4 : ¬ okShift a i k j l n → Q (some (.inl (-13))) s := fun e => bad _ (by omega) (by unfold whyShift; rw [if_pos hij, if_neg h6, if_pos ha, if_neg e])
  rw [e80, e80]
  refine ⟨fun h8 => B282_107 (b4 (by omega)), fun h8 => ⟨fun h9 => B282_107 (b4 (by omega)), fun h9 => ⟨fun h10 => B282_107 (b4 (by omega)), fun h10 => ?_⟩⟩⟩
  rw [wr_id (x := a 80 i.toNat - n) (by unfold zR; omega), wr_id (x := a 80 j.toNat - n) (by unfold zR; omega)]
  refine ⟨by omega, by omega, fun h11 => B282_107 (b4 (by omega)), fun h11 => ⟨by omega, by omega, fun h12 => B282_110 ?_, fun h12 => B282_107 (b4 (by omega))⟩⟩
  have ho : okShift a i k j l n := by omega
  have e0 : whyShift a i k j l n = 0 := by unfold whyShift; rw [if_pos hij, if_neg h6, if_pos ha, if_pos ho]
  unfold rShift vShift at h
  rw [if_pos e0, if_pos e0] at h
  have one := m282_one (x := x) (d := d + 3) (s := s) (Q := Q) (i := i) (k := k) (j := j) (l := l) (n := n) hij.1 (by omega) ?_ n.toNat 0 (by omega)
  · rw [cpy0] at one
    exact one
  · have two := m282_two (x := x) (d := d + 3) (s := zF s 82 (cpyF (s 82) (fun p => s 81 (i.toNat * 60 + k.toNat + p)) 0 n.toNat)) (Q := Q) (i := i) (k := k) (j := j) (l := l) (n := n) (g := fun p => s 81 (i.toNat * 60 + k.toNat + p)) hij.2 (by omega) (fun p hp => ?_) ?_ n.toNat 0 (by omega)
    · rw [cpy0] at two
      exact two
    · rw [zF_at]
      unfold cpyF
      rw [if_pos (by omega)]
      rfl
    · refine h _ (fun q hq => ?_)
      by_cases e : q = 81
      · subst e
        rw [zF_at, zF_at, zF_ne (by decide)]
        funext p
        unfold cpyF zCpF
        by_cases hc : j.toNat * 60 + l.toNat ≤ p ∧ p < j.toNat * 60 + l.toNat + n.toNat
        · rw [if_pos hc]
        · rw [if_neg hc]
      · rw [zF_ne e, zF_ne e, zF_ne (fun e => by subst e; exact absurd hq (by decide))]
theorem e_taken {i w : Int} (hI : zBod a) (hV : zShv a) (hs : zSimM a s) (h : Q (some (.inl (rTaken a i w))) s) : zE x (d + 4) 283 [.inr (.inl 42), .inl i, .inl w] s Q := by
  have e79 : s 79 i.toNat = a 79 i.toNat := congrFun (hs 79 (by decide) rfl) _
  have e77 : ∀ k, s 77 k = a 77 k := fun k => congrFun (hs 77 (by decide) rfl) k
  have bad : ¬ (isSh i ∧ (0 ≤ w ∧ w ≤ 7)) → Q (some (.inl (-1))) s := fun e => zQi h (by unfold rTaken; rw [if_neg e])
  refine N283 (B283_0 (m276 (B283_4 ⟨fun h0 => B283_17 (bad (by omega)), fun h0 => m170 (B283_14 ⟨fun h1 => B283_19 ?_, fun h1 => B283_17 (bad (by omega))⟩)⟩)))
  have ho : isSh i ∧ (0 ≤ w ∧ w ≤ 7) := by omega
  have h := zQi h (if_pos ho)
  have q := hV.2 i.toNat (by omega)
  have q4 := fun e => (q.2.2.2 e).1
  unfold refF at h
  have hB := hI.2.1
  rw [e79]
  refine ⟨by omega, by omega, fun h2 => B283_32 ?_, fun h2 => zQi h ?_⟩
  · rw [if_neg (show ¬ a 38 i.toNat = 6 by omega)] at h
    rw [e79]
    refine ⟨by omega, by omega, fun h3 => B283_73 (B283_75 (zQi h ?_)), fun h3 => ⟨by omega, by omega, by omega, by omega, m262 (B283_56 ?_)⟩⟩
    · rw [if_neg (show ¬ a 38 i.toNat = 5 by omega), if_neg (by omega)]
    · rw [if_pos (show a 38 i.toNat = 5 by omega), if_pos rfl] at h
      rw [e79, e77]
      refine ⟨fun h6 => B283_73 (B283_75 (zQi h ?_)), fun h6 => ⟨by omega, by omega, by omega, by omega, B283_75 (zQi h ?_)⟩⟩
      · rw [if_neg (fun e => by rw [if_pos e] at h6; omega)]
      · rw [if_pos (Decidable.not_not.mp (fun e => by rw [if_neg e] at h6; omega))]
  · rw [if_pos (show a 38 i.toNat = 6 by omega), if_neg (by omega)]
end ZMKeep
