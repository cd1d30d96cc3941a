/-! who comes, what is mended, undone, done again: the reference -/
def vChild (a s : zSt) (v : Int) : zSt := if okChild a v then zU (zU (zU (zU (zU s 43 (a 2 3).toNat v) 44 (a 2 3).toNat 0) 45 (a 2 3).toNat 99) 46 (a 2 3).toNat 0) 42 1 (a 2 3 + 1) else s
def vSp1 (s : zSt) (m c v w : Int) : zSt := zU (zU (zU (zU (zU (zU (zU s 47 m.toNat c) 48 m.toNat v) 49 m.toNat w) 50 m.toNat 10) 51 m.toNat 0) 52 m.toNat 9999) 42 6 (m + 1)
def vSponsor (a s : zSt) (c v : Int) : zSt := if maySp a c v 0 ∧ a 2 4 < 16 then vSp1 s (a 2 4) c v 0 else s
def vSpsN (a s : zSt) (i : Nat) (f : Int) : Nat → zSt
  | 0 => s
  | k + 1 => vSp1 (vSpsN a s i f k) (a 2 4 + k) (cellF a i (f + 3 * k)) (cellF a i (f + 3 * k + 1)) (cellF a i (f + 3 * k + 2))
def vSponsors (a s : zSt) (i f n : Int) : zSt := if okSpsA i n ∧ ¬ refF a i.toNat 1 = -12 then vSpsN a s i.toNat f (numSps a i.toNat f n) else s
def setF (s : zSt) (w n v : Int) : zSt := if w = 0 then zU s 43 n.toNat v else if w = 1 then zU s 44 n.toNat v else if w = 2 then zU s 45 n.toNat v else if w = 3 then zU s 46 n.toNat v else if w = 4 then zU s 48 n.toNat v else if w = 5 then zU s 49 n.toNat v else if w = 6 then zU s 50 n.toNat v else if w = 7 then zU s 51 n.toNat v else if w = 8 then zU s 52 n.toNat v else if w = 9 then zU s 42 13 v else if w = 10 then zU s 42 14 v else if w = 11 then zU s 42 15 v else zU s 42 16 v
def addM (t : zSt) (w n b v : Int) : zSt := zU (zU (zU (zU (zU t 53 (t 42 17).toNat w) 54 (t 42 17).toNat n) 55 (t 42 17).toNat b) 56 (t 42 17).toNat v) 42 17 (t 42 17 + 1)
/-- room for one more change: the oldest is let go -/
def drpM (s t : zSt) : Prop := (s 42 17 < 40 ∧ t = zU s 42 18 0) ∨ (¬ s 42 17 < 40 ∧ zFr [53, 54, 55, 56] (zU (zU s 42 18 0) 42 17 39) t ∧ ∀ k : Nat, k < 39 → t 53 k = s 53 (k + 1) ∧ t 54 k = s 54 (k + 1) ∧ t 55 k = s 55 (k + 1) ∧ t 56 k = s 56 (k + 1))
theorem setF_P {P : zSt → Prop} {s : zSt} {w n v : Int} (h : ∀ q j, 42 ≤ q ∧ q ≤ 52 → (q = 42 → j = 13 ∨ j = 14 ∨ j = 15 ∨ j = 16) → P (zU s q j v)) : P (setF s w n v) := by
  unfold setF
  repeat' split
  all_goals exact h _ _ (by omega) (by omega)
theorem setF_42 {s : zSt} {w n v : Int} {k : Nat} (h : k ≠ 13 ∧ k ≠ 14 ∧ k ≠ 15 ∧ k ≠ 16) : setF s w n v 42 k = s 42 k := setF_P (P := fun t => t 42 k = s 42 k) (fun q j _ h2 => by
  by_cases e : q = 42
  · have h2 := h2 e
    subst e
    rw [zU_at]
    exact if_neg (by omega)
  · rw [zU_ne (fun g => e g.symm)])
theorem setF_o {s : zSt} {w n v : Int} {q : Nat} (h : ¬ (42 ≤ q ∧ q ≤ 52)) : setF s w n v q = s q := setF_P (P := fun t => t q = s q) (fun q' j h1 _ => zU_ne (by omega) _ _ _)
section ZMChange
variable {x : List Int} {d : Nat} {a s : zSt} {Q : zQ}
theorem m171s {c : Int} (h0 : 0 ≤ s 42 1 ∧ s 42 1 ≤ 6) (h : Q (some (.inl (if 0 ≤ c ∧ c < s 42 1 then 1 else 0))) s) : zE x (d + 2) 171 [.inr (.inl 42), .inl c] s Q := by
  refine N171 (B171_0 (m170 (B171_11 ⟨by omega, zQi h ?_⟩)))
  rw [wr_id (by unfold zR; omega)]
  omega
theorem m172s {c : Int} (h0 : 0 ≤ s 42 6 ∧ s 42 6 ≤ 16) (h : Q (some (.inl (if 0 ≤ c ∧ c < s 42 6 then 1 else 0))) s) : zE x (d + 2) 172 [.inr (.inl 42), .inl c] s Q := by
  refine N172 (B172_0 (m170 (B172_11 ⟨by omega, zQi h ?_⟩)))
  rw [wr_id (by unfold zR; omega)]
  omega
theorem e_child {v : Int} (hI : zFolk a) (hs : zSimM a s) (h : Q (some (.inl (rChild a v))) (vChild a s v)) : zE x (d + 3) 173 [.inr (.inl 42), .inl v] s Q := by
  have i1 := hI.1
  unfold zCnt at i1
  have e1 : s 42 1 = a 2 3 := (congrFun (hs 42 (by decide) rfl) 1).trans i1.2.2.1
  unfold rChild vChild at h
  refine N173 (B173_0 (m170 (B173_7 ⟨fun h0 => B173_12 ?_, fun h0 => ?_⟩)))
  · rw [if_pos (show 1 ≤ v ∧ v ≤ 30 by omega)] at h
    refine ⟨fun h1 => B173_24 ?_, fun h1 => ?_⟩
    · rw [if_pos (by omega), if_pos (by omega)] at h
      rw [e1, wr_id (x := a 2 3 + 1) (by unfold zR; omega), wr_id (x := a 2 3 + 1 - 1) (by unfold zR; omega)]
      refine ⟨by omega, by omega, by omega, by omega, by omega, by omega, by omega, by omega, zQi h (by omega)⟩
    · rw [if_neg (by omega), if_neg (by omega)] at h
      exact h
  · rw [if_neg (by omega), if_neg (by omega)] at h
    exact h
theorem m174 {m c v w : Int} (hm : s 42 6 = m) (h0 : 0 ≤ m ∧ m < 16) (h : Q (some (.inl m)) (vSp1 s m c v w)) : zE x (d + 1) 174 [.inr (.inl 42), .inl c, .inl v, .inl w] s Q := by
  refine N174 (B174_0 ?_)
  rw [hm, wr_id (x := m + 1) (by unfold zR; omega), wr_id (x := m + 1 - 1) (by unfold zR; omega)]
  exact ⟨by omega, by omega, by omega, by omega, by omega, by omega, by omega, by omega, by omega, by omega, by omega, by omega, zQi h (by omega)⟩
theorem e_sponsor {c v : Int} (hI : zFolk a) (hs : zSimM a s) (h : Q (some (.inl (rSponsor a c v))) (vSponsor a s c v)) : zE x (d + 3) 175 [.inr (.inl 42), .inl c, .inl v] s Q := by
  have i1 := hI.1
  unfold zCnt at i1
  have e1 : s 42 1 = a 2 3 := (congrFun (hs 42 (by decide) rfl) 1).trans i1.2.2.1
  have e6 : s 42 6 = a 2 4 := (congrFun (hs 42 (by decide) rfl) 6).trans i1.2.2.2
  unfold rSponsor vSponsor at h
  have bad : ¬ maySp a c v 0 → Q (some (.inl (-1))) s := fun e => by
    rw [if_neg e, if_neg (fun g => e g.1)] at h
    exact h
  refine N175 (B175_0 (m171s (by omega) (B175_5 ⟨fun h0 => B175_19 (bad (by omega)), fun h0 => m170 (B175_16 ⟨fun h1 => B175_21 ?_, fun h1 => B175_19 (bad (by omega))⟩)⟩)))
  have ho : maySp a c v 0 := by omega
  rw [if_pos ho] at h
  refine ⟨fun h1 => B175_35 (m174 e6 (by omega) (B175_42 ?_)), fun h1 => B175_42 ?_⟩
  · rw [if_pos (by omega), if_pos (by omega)] at h
    exact h
  · rw [if_neg (by omega), if_neg (by omega)] at h
    exact h
theorem vSps_42 {i : Nat} {f : Int} : ∀ (k j : Nat), vSpsN a s i f k 42 j = if k ≠ 0 ∧ j = 6 then a 2 4 + k else s 42 j
  | 0, j => by simp [vSpsN]
  | k + 1, j => by
    show (if j = 6 then a 2 4 + (k : Int) + 1 else vSpsN a s i f k 42 j) = _
    rw [vSps_42 k j]
    by_cases e : j = 6
    · rw [if_pos e, if_pos ⟨by omega, e⟩]; omega
    · rw [if_neg e, if_neg (fun g => e g.2), if_neg (fun g => e g.2)]
theorem vSps_o {i : Nat} {f : Int} {q : Nat} (hq : q ≠ 42 ∧ ¬ (47 ≤ q ∧ q ≤ 52)) : ∀ k : Nat, vSpsN a s i f k q = s q
  | 0 => rfl
  | k + 1 => by
    show vSp1 (vSpsN a s i f k) _ _ _ _ q = s q
    unfold vSp1
    rw [zU_ne hq.1, zU_ne (by omega), zU_ne (by omega), zU_ne (by omega), zU_ne (by omega), zU_ne (by omega), zU_ne (by omega)]
    exact vSps_o hq k
theorem m176_loop {i f n : Int} (hI : zFolk a) (hV : zShv a) (hs : zSimM a s) (hi : isSh i ∧ a 38 i.toNat = 1) (hf : 0 ≤ f ∧ f ≤ 2147483647) (hn : n ≤ 16) {N : Nat} (h : Q (some (.inl N)) (vSpsN a s i.toNat f N)) :
    ∀ (j k : Nat), (k : Int) + j = n → a 2 4 + k ≤ 16 → spsN a i.toNat f j k = N → ∀ o5 o7 : Option zV, zJ x (d + 5) 176 58 [some (.inr (.inl 42)), some (.inl i), some (.inl f), some (.inl n), some (.inl (k : Int)), o5, none, o7] [] (vSpsN a s i.toNat f k) Q := by
  have i1 := hI.1
  unfold zCnt at i1
  have hv := (hV.2 i.toNat (by omega)).2.2.2 (by omega)
  have e1 : s 42 1 = a 2 3 := (congrFun (hs 42 (by decide) rfl) 1).trans i1.2.2.1
  have e6 : s 42 6 = a 2 4 := (congrFun (hs 42 (by decide) rfl) 6).trans i1.2.2.2
  intro j
  induction j with
  | zero =>
    intro k hk h16 hN o5 o7
    have e : k = N := hN
    subst e
    exact B176_58 ⟨fun _ => B176_217 (zQi h (by omega)), fun e => absurd e (by omega)⟩
  | succ j ih =>
    intro k hk h16 hN o5 o7
    unfold spsN at hN
    have stop : ¬ okSps a i.toNat f k → ∀ (x5 : Int) (o7 : Option zV), zJ x (d + 5) 176 107 [some (.inr (.inl 42)), some (.inl i), some (.inl f), some (.inl n), some (.inl (k : Int)), some (.inr (.inr x5)), none, o7] [] (vSpsN a s i.toNat f k) Q := fun e _ _ => by
      rw [if_neg e] at hN
      subst hN
      exact B176_107 h
    have stop2 : ¬ okSps a i.toNat f k → ∀ (x5 : Int) (x7 : Int), zJ x (d + 5) 176 175 [some (.inr (.inl 42)), some (.inl i), some (.inl f), some (.inl n), some (.inl (k : Int)), some (.inr (.inr x5)), none, some (.inl x7)] [] (vSpsN a s i.toNat f k) Q := fun e _ _ => by
      rw [if_neg e] at hN
      subst hN
      exact B176_175 h
    have g1 : vSpsN a s i.toNat f k 42 1 = a 2 3 := by rw [vSps_42, if_neg (by omega)]; exact e1
    have g6 : vSpsN a s i.toNat f k 42 6 = a 2 4 + k := by
      rw [vSps_42]
      by_cases e : k = 0
      · rw [if_neg (by omega), e6]; omega
      · rw [if_pos ⟨e, rfl⟩]
    have g80 : vSpsN a s i.toNat f k 80 i.toNat = a 80 i.toNat := (congrFun (vSps_o (by decide) k) _).trans (congrFun (hs 80 (by decide) rfl) _)
    have g81 : ∀ p, vSpsN a s i.toNat f k 81 p = a 81 p := fun p => (congrFun (vSps_o (by decide) k) _).trans (congrFun (hs 81 (by decide) rfl) _)
    have eN : vSpsN a s i.toNat f (k + 1) = vSp1 (vSpsN a s i.toNat f k) (a 2 4 + k) (cellF a i.toNat (f + 3 * k)) (cellF a i.toNat (f + 3 * k + 1)) (cellF a i.toNat (f + 3 * k + 2)) := rfl
    refine B176_58 ⟨fun e => absurd e (by omega), fun _ => ?_⟩
    rw [wr_id (x := 3 * (k : Int)) (by unfold zR; omega), wl_id (x := f + 3 * (k : Int)) (by unfold zR64; omega), wl_id (x := f + 3 * (k : Int) + 2) (by unfold zR64; omega), g80, g6]
    refine ⟨fun e => absurd e (by split <;> (try split) <;> omega), fun _ => ⟨by omega, by omega, fun h1 => stop (fun g => ?_) _ _, fun h1 => ⟨fun h2 => B176_110 ?_, fun h2 => stop (fun g => ?_) _ _⟩⟩⟩
    · have g := g.1
      split at h1 <;> (try split at h1) <;> omega
    · have h1 : f + 3 * (k : Int) + 2 < a 80 i.toNat := by
        split at h1 <;> (try split at h1) <;> omega
      have e : wr (wr (60 * i) + wr (f + 3 * (k : Int))) = ((i.toNat * 60 + (f + 3 * (k : Int)).toNat : Nat) : Int) := by
        rw [wr_id (x := 60 * i) (by unfold zR; omega), wr_id (x := f + 3 * (k : Int)) (by unfold zR; omega), wr_id (by unfold zR; omega)]
        omega
      rw [e]
      clear e
      have c0 : wr (vSpsN a s i.toNat f k 81 ((i.toNat * 60 + (f + 3 * (k : Int)).toNat : Nat) : Int).toNat) = cellF a i.toNat (f + 3 * k) := by
        rw [g81, Int.toNat_natCast]
        rfl
      have p1 : wr (((i.toNat * 60 + (f + 3 * (k : Int)).toNat : Nat) : Int) + 1) = ((i.toNat * 60 + (f + 3 * (k : Int) + 1).toNat : Nat) : Int) := by
        rw [wr_id (by unfold zR; omega)]
        omega
      have c1 : wr (vSpsN a s i.toNat f k 81 ((i.toNat * 60 + (f + 3 * (k : Int) + 1).toNat : Nat) : Int).toNat) = cellF a i.toNat (f + 3 * k + 1) := by
        rw [g81, Int.toNat_natCast]
        rfl
      have p2 : wr (((i.toNat * 60 + (f + 3 * (k : Int)).toNat : Nat) : Int) + 2) = ((i.toNat * 60 + (f + 3 * (k : Int) + 2).toNat : Nat) : Int) := by
        rw [wr_id (by unfold zR; omega)]
        omega
      have c2 : wr (vSpsN a s i.toNat f k 81 ((i.toNat * 60 + (f + 3 * (k : Int) + 2).toNat : Nat) : Int).toNat) = cellF a i.toNat (f + 3 * k + 2) := by
        rw [g81, Int.toNat_natCast]
        rfl
      rw [c0]
      refine ⟨by clear p1 p2; omega, by clear p1 p2; omega, m171s (by clear p1 p2; omega) (B176_132 ?_)⟩
      rw [p1, c1]
      refine ⟨fun h3 => stop2 (fun g => ?_) _ _, fun h3 => ⟨by clear p1 p2; omega, by clear p1 p2; omega, m170 (B176_152 ?_)⟩⟩
      · have g3 := g.2.2.1
        clear p1 p2
        rw [g1] at h3
        rw [if_pos g3] at h3
        omega
      rw [p2, c2]
      refine ⟨fun h4 => stop2 (fun g => ?_) _ _, fun h4 => ⟨by clear p1 p2; omega, by clear p1 p2; omega, m170 (B176_172 ⟨fun h5 => B176_178 ?_, fun h5 => stop2 (fun g => ?_) _ _⟩)⟩⟩
      · have g3 := g.2.2.2.1
        clear p1 p2
        rw [if_pos g3] at h4
        omega
      · rw [p1, p2, c0, c1, c2]
        clear p1 p2
        have ho : okSps a i.toNat f k := by
          refine ⟨h1, by omega, ?_, ?_, ?_⟩
          · rw [g1] at h3
            exact Decidable.not_not.mp (fun e => by rw [if_neg e] at h3; omega)
          · exact Decidable.not_not.mp (fun e => by rw [if_neg e] at h4; omega)
          · exact Decidable.not_not.mp (fun e => by rw [if_neg e] at h5; omega)
        rw [if_pos ho] at hN
        have r := fun o5 o7 => ih (k + 1) (by omega) (by have := ho.2.1; omega) hN o5 o7
        rw [eN] at r
        refine ⟨by omega, by omega, by omega, by omega, by omega, by omega, m174 g6 (by omega) (B176_210 ?_)⟩
        rw [show wr ((k : Int) + 1) = ((k + 1 : Nat) : Int) by rw [wr_id (by unfold zR; omega)]; omega]
        exact r _ _
      · have g3 := g.2.2.2.2
        clear p1 p2
        rw [if_pos g3] at h5
        omega
    · have g := g.2.1
      omega
theorem e_sponsors {i f n : Int} (hI : zFolk a) (hV : zShv a) (hs : zSimM a s) (h : Q (some (.inl (rSponsors a i f n))) (vSponsors a s i f n)) : zE x (d + 7) 176 [.inr (.inl 42), .inl i, .inl f, .inl n] s Q := by
  have e79 : s 79 i.toNat = a 79 i.toNat := congrFun (hs 79 (by decide) rfl) _
  have bad : ¬ okSpsA i n → Q (some (.inl (-1))) s := fun e => by
    unfold rSponsors vSponsors at h
    rw [if_neg e, if_neg (fun g => e g.1)] at h
    exact h
  refine zE_ok (fun _ hT => ?_)
  have hfR : zR f := hT (.inl f) (by simp)
  refine N176 (B176_0 (m276 (B176_4 ⟨fun h0 => B176_17 (bad (by omega)), fun h0 => m170 (B176_14 ⟨fun h1 => B176_19 ?_, fun h1 => B176_17 (bad (by omega))⟩)⟩)))
  have ho : okSpsA i n := by omega
  unfold rSponsors vSponsors at h
  rw [if_pos ho] at h
  have q := hV.2 i.toNat (by omega)
  have q4 := fun e => (q.2.2.2 e).1
  have zero : numSps a i.toNat f n = 0 → ¬ refF a i.toNat 1 = -12 → Q (some (.inl 0)) s := fun e h2 => by
    rw [if_neg h2, if_pos ⟨ho, h2⟩] at h
    rw [e] at h
    exact h
  have r1 : refF a i.toNat 1 = -12 ↔ a 38 i.toNat ≠ 6 ∧ a 38 i.toNat ≠ 1 := by
    unfold refF
    by_cases e : a 38 i.toNat = 6
    · rw [if_pos e]; omega
    · rw [if_neg e]
      by_cases e2 : a 38 i.toNat = 1
      · rw [if_pos e2]; omega
      · rw [if_neg e2]; omega
  have go : (a 38 i.toNat = 6 ∨ a 38 i.toNat = 1) → zJ x (d + 6) 176 43 [some (.inr (.inl 42)), some (.inl i), some (.inl f), some (.inl n), none, none, none, none] [] s Q := fun hk => by
    refine B176_43 ?_
    rw [e79]
    have hnr : ¬ refF a i.toNat 1 = -12 := fun e => by have := r1.mp e; omega
    refine ⟨by omega, by omega, fun h3 => B176_55 ?_, fun h3 => zero (if_pos (Or.inl (by omega))) hnr⟩
    have h38 : a 38 i.toNat = 1 := by omega
    by_cases hf : 0 ≤ f
    · have en : numSps a i.toNat f n = spsN a i.toNat f n.toNat 0 := if_neg (by omega)
      rw [if_neg hnr, if_pos ⟨ho, hnr⟩, en] at h
      exact m176_loop (d := d + 1) hI hV hs ⟨ho.1, h38⟩ (by unfold zR at hfR; omega) (by omega) h n.toNat 0 (by omega) (by have := hI.1.2.1; omega) rfl none none
    · unfold zR at hfR
      have e : wl (f + wr (3 * 0)) = f := by
        rw [show wr (3 * 0) = 0 from rfl, wl_id (by unfold zR64; omega)]
        omega
      refine B176_58 ⟨fun e => absurd e (by omega), fun _ => ?_⟩
      rw [e]
      refine ⟨fun _ => B176_107 (zero (if_pos (Or.inr (by omega))) hnr), fun g => absurd ?_ g⟩
      split <;> (try split) <;> omega
  rw [e79]
  refine ⟨by omega, by omega, fun h2 => go (by omega), fun h2 => ⟨by omega, by omega, fun h3 => go (by omega), fun h3 => ?_⟩⟩
  have hr : refF a i.toNat 1 = -12 := r1.mpr (by omega)
  rw [if_pos hr, if_neg (fun g => g.2 hr)] at h
  exact h
theorem okN_R {w n : Int} (hI : zFolk a) (h : zOkN (a 2 3) (a 2 4) w n) : (0 ≤ w ∧ w ≤ 12) ∧ (w ≤ 3 → 0 ≤ n ∧ n < 6) ∧ (4 ≤ w → 0 ≤ n ∧ n < 16) := by
  have i1 := hI.1.1
  have i2 := hI.1.2.1
  unfold zOkN at h
  omega
theorem m177 {w n : Int} (hw : 0 ≤ w ∧ w ≤ 12) (h1 : w ≤ 3 → 0 ≤ n ∧ n < 6) (h2 : 4 ≤ w → 0 ≤ n ∧ n < 16) (h : Q (some (.inl (numF s w n))) s) : zE x (d + 1) 177 [.inr (.inl 42), .inl w, .inl n] s Q := by
  have hw2 : w = 0 ∨ w = 1 ∨ w = 2 ∨ w = 3 ∨ w = 4 ∨ w = 5 ∨ w = 6 ∨ w = 7 ∨ w = 8 ∨ w = 9 ∨ w = 10 ∨ w = 11 ∨ w = 12 := by omega
  rcases hw2 with rfl | rfl | rfl | rfl | rfl | rfl | rfl | rfl | rfl | rfl | rfl | rfl | rfl
  · exact N177 (B177_0 ⟨fun _ => B177_64 ⟨by omega, by omega, h⟩, fun e => absurd rfl e⟩)
  · exact N177 (B177_0 ⟨fun e => absurd e (by decide), fun _ => ⟨fun _ => B177_71 ⟨by omega, by omega, h⟩, fun e => absurd rfl e⟩⟩)
  · exact N177 (B177_0 ⟨fun e => absurd e (by decide), fun _ => ⟨fun e => absurd e (by decide), fun _ => ⟨fun _ => B177_78 ⟨by omega, by omega, h⟩, fun e => absurd rfl e⟩⟩⟩)
  · exact N177 (B177_0 ⟨fun e => absurd e (by decide), fun _ => ⟨fun e => absurd e (by decide), fun _ => ⟨fun e => absurd e (by decide), fun _ => ⟨fun _ => B177_85 ⟨by omega, by omega, h⟩, fun e => absurd rfl e⟩⟩⟩⟩)
  · exact N177 (B177_0 ⟨fun e => absurd e (by decide), fun _ => ⟨fun e => absurd e (by decide), fun _ => ⟨fun e => absurd e (by decide), fun _ => ⟨fun e => absurd e (by decide), fun _ => ⟨fun _ => B177_92 ⟨by omega, by omega, h⟩, fun e => absurd rfl e⟩⟩⟩⟩⟩)
  · exact N177 (B177_0 ⟨fun e => absurd e (by decide), fun _ => ⟨fun e => absurd e (by decide), fun _ => ⟨fun e => absurd e (by decide), fun _ => ⟨fun e => absurd e (by decide), fun _ => ⟨fun e => absurd e (by decide), fun _ => ⟨fun _ => B177_99 ⟨by omega, by omega, h⟩, fun e => absurd rfl e⟩⟩⟩⟩⟩⟩)
  · exact N177 (B177_0 ⟨fun e => absurd e (by decide), fun _ => ⟨fun e => absurd e (by decide), fun _ => ⟨fun e => absurd e (by decide), fun _ => ⟨fun e => absurd e (by decide), fun _ => ⟨fun e => absurd e (by decide), fun _ => ⟨fun e => absurd e (by decide), fun _ => ⟨fun _ => B177_106 ⟨by omega, by omega, h⟩, fun e => absurd rfl e⟩⟩⟩⟩⟩⟩⟩)
  · exact N177 (B177_0 ⟨fun e => absurd e (by decide), fun _ => ⟨fun e => absurd e (by decide), fun _ => ⟨fun e => absurd e (by decide), fun _ => ⟨fun e => absurd e (by decide), fun _ => ⟨fun e => absurd e (by decide), fun _ => ⟨fun e => absurd e (by decide), fun _ => ⟨fun e => absurd e (by decide), fun _ => ⟨fun _ => B177_113 ⟨by omega, by omega, h⟩, fun e => absurd rfl e⟩⟩⟩⟩⟩⟩⟩⟩)
  · exact N177 (B177_0 ⟨fun e => absurd e (by decide), fun _ => ⟨fun e => absurd e (by decide), fun _ => ⟨fun e => absurd e (by decide), fun _ => ⟨fun e => absurd e (by decide), fun _ => ⟨fun e => absurd e (by decide), fun _ => ⟨fun e => absurd e (by decide), fun _ => ⟨fun e => absurd e (by decide), fun _ => ⟨fun e => absurd e (by decide), fun _ => ⟨fun _ => B177_120 ⟨by omega, by omega, h⟩, fun e => absurd rfl e⟩⟩⟩⟩⟩⟩⟩⟩⟩)
  · exact N177 (B177_0 ⟨fun e => absurd e (by decide), fun _ => ⟨fun e => absurd e (by decide), fun _ => ⟨fun e => absurd e (by decide), fun _ => ⟨fun e => absurd e (by decide), fun _ => ⟨fun e => absurd e (by decide), fun _ => ⟨fun e => absurd e (by decide), fun _ => ⟨fun e => absurd e (by decide), fun _ => ⟨fun e => absurd e (by decide), fun _ => ⟨fun e => absurd e (by decide), fun _ => ⟨fun _ => B177_127 h, fun e => absurd rfl e⟩⟩⟩⟩⟩⟩⟩⟩⟩⟩)
  · exact N177 (B177_0 ⟨fun e => absurd e (by decide), fun _ => ⟨fun e => absurd e (by decide), fun _ => ⟨fun e => absurd e (by decide), fun _ => ⟨fun e => absurd e (by decide), fun _ => ⟨fun e => absurd e (by decide), fun _ => ⟨fun e => absurd e (by decide), fun _ => ⟨fun e => absurd e (by decide), fun _ => ⟨fun e => absurd e (by decide), fun _ => ⟨fun e => absurd e (by decide), fun _ => ⟨fun e => absurd e (by decide), fun _ => ⟨fun _ => B177_132 h, fun e => absurd rfl e⟩⟩⟩⟩⟩⟩⟩⟩⟩⟩⟩)
  · exact N177 (B177_0 ⟨fun e => absurd e (by decide), fun _ => ⟨fun e => absurd e (by decide), fun _ => ⟨fun e => absurd e (by decide), fun _ => ⟨fun e => absurd e (by decide), fun _ => ⟨fun e => absurd e (by decide), fun _ => ⟨fun e => absurd e (by decide), fun _ => ⟨fun e => absurd e (by decide), fun _ => ⟨fun e => absurd e (by decide), fun _ => ⟨fun e => absurd e (by decide), fun _ => ⟨fun e => absurd e (by decide), fun _ => ⟨fun e => absurd e (by decide), fun _ => ⟨fun _ => B177_137 h, fun e => absurd rfl e⟩⟩⟩⟩⟩⟩⟩⟩⟩⟩⟩⟩)
  · exact N177 (B177_0 ⟨fun e => absurd e (by decide), fun _ => ⟨fun e => absurd e (by decide), fun _ => ⟨fun e => absurd e (by decide), fun _ => ⟨fun e => absurd e (by decide), fun _ => ⟨fun e => absurd e (by decide), fun _ => ⟨fun e => absurd e (by decide), fun _ => ⟨fun e => absurd e (by decide), fun _ => ⟨fun e => absurd e (by decide), fun _ => ⟨fun e => absurd e (by decide), fun _ => ⟨fun e => absurd e (by decide), fun _ => ⟨fun e => absurd e (by decide), fun _ => ⟨fun e => absurd e (by decide), fun _ => B177_142 h⟩⟩⟩⟩⟩⟩⟩⟩⟩⟩⟩⟩)
theorem m178 {w n v : Int} (hw : 0 ≤ w ∧ w ≤ 12) (h1 : w ≤ 3 → 0 ≤ n ∧ n < 6) (h2 : 4 ≤ w → 0 ≤ n ∧ n < 16) (h : Q none (setF s w n v)) : zE x (d + 1) 178 [.inr (.inl 42), .inl w, .inl n, .inl v] s Q := by
  have hw2 : w = 0 ∨ w = 1 ∨ w = 2 ∨ w = 3 ∨ w = 4 ∨ w = 5 ∨ w = 6 ∨ w = 7 ∨ w = 8 ∨ w = 9 ∨ w = 10 ∨ w = 11 ∨ w = 12 := by omega
  rcases hw2 with rfl | rfl | rfl | rfl | rfl | rfl | rfl | rfl | rfl | rfl | rfl | rfl | rfl
  · exact N178 (B178_0 ⟨fun _ => B178_64 ⟨by omega, by omega, B178_183 h⟩, fun e => absurd rfl e⟩)
  · exact N178 (B178_0 ⟨fun e => absurd e (by decide), fun _ => ⟨fun _ => B178_74 ⟨by omega, by omega, B178_183 h⟩, fun e => absurd rfl e⟩⟩)
  · exact N178 (B178_0 ⟨fun e => absurd e (by decide), fun _ => ⟨fun e => absurd e (by decide), fun _ => ⟨fun _ => B178_84 ⟨by omega, by omega, B178_183 h⟩, fun e => absurd rfl e⟩⟩⟩)
  · exact N178 (B178_0 ⟨fun e => absurd e (by decide), fun _ => ⟨fun e => absurd e (by decide), fun _ => ⟨fun e => absurd e (by decide), fun _ => ⟨fun _ => B178_94 ⟨by omega, by omega, B178_183 h⟩, fun e => absurd rfl e⟩⟩⟩⟩)
  · exact N178 (B178_0 ⟨fun e => absurd e (by decide), fun _ => ⟨fun e => absurd e (by decide), fun _ => ⟨fun e => absurd e (by decide), fun _ => ⟨fun e => absurd e (by decide), fun _ => ⟨fun _ => B178_104 ⟨by omega, by omega, B178_183 h⟩, fun e => absurd rfl e⟩⟩⟩⟩⟩)
  · exact N178 (B178_0 ⟨fun e => absurd e (by decide), fun _ => ⟨fun e => absurd e (by decide), fun _ => ⟨fun e => absurd e (by decide), fun _ => ⟨fun e => absurd e (by decide), fun _ => ⟨fun e => absurd e (by decide), fun _ => ⟨fun _ => B178_114 ⟨by omega, by omega, B178_183 h⟩, fun e => absurd rfl e⟩⟩⟩⟩⟩⟩)
  · exact N178 (B178_0 ⟨fun e => absurd e (by decide), fun _ => ⟨fun e => absurd e (by decide), fun _ => ⟨fun e => absurd e (by decide), fun _ => ⟨fun e => absurd e (by decide), fun _ => ⟨fun e => absurd e (by decide), fun _ => ⟨fun e => absurd e (by decide), fun _ => ⟨fun _ => B178_124 ⟨by omega, by omega, B178_183 h⟩, fun e => absurd rfl e⟩⟩⟩⟩⟩⟩⟩)
  · exact N178 (B178_0 ⟨fun e => absurd e (by decide), fun _ => ⟨fun e => absurd e (by decide), fun _ => ⟨fun e => absurd e (by decide), fun _ => ⟨fun e => absurd e (by decide), fun _ => ⟨fun e => absurd e (by decide), fun _ => ⟨fun e => absurd e (by decide), fun _ => ⟨fun e => absurd e (by decide), fun _ => ⟨fun _ => B178_134 ⟨by omega, by omega, B178_183 h⟩, fun e => absurd rfl e⟩⟩⟩⟩⟩⟩⟩⟩)
  · exact N178 (B178_0 ⟨fun e => absurd e (by decide), fun _ => ⟨fun e => absurd e (by decide), fun _ => ⟨fun e => absurd e (by decide), fun _ => ⟨fun e => absurd e (by decide), fun _ => ⟨fun e => absurd e (by decide), fun _ => ⟨fun e => absurd e (by decide), fun _ => ⟨fun e => absurd e (by decide), fun _ => ⟨fun e => absurd e (by decide), fun _ => ⟨fun _ => B178_144 ⟨by omega, by omega, B178_183 h⟩, fun e => absurd rfl e⟩⟩⟩⟩⟩⟩⟩⟩⟩)
  · exact N178 (B178_0 ⟨fun e => absurd e (by decide), fun _ => ⟨fun e => absurd e (by decide), fun _ => ⟨fun e => absurd e (by decide), fun _ => ⟨fun e => absurd e (by decide), fun _ => ⟨fun e => absurd e (by decide), fun _ => ⟨fun e => absurd e (by decide), fun _ => ⟨fun e => absurd e (by decide), fun _ => ⟨fun e => absurd e (by decide), fun _ => ⟨fun e => absurd e (by decide), fun _ => ⟨fun _ => B178_154 (B178_183 h), fun e => absurd rfl e⟩⟩⟩⟩⟩⟩⟩⟩⟩⟩)
  · exact N178 (B178_0 ⟨fun e => absurd e (by decide), fun _ => ⟨fun e => absurd e (by decide), fun _ => ⟨fun e => absurd e (by decide), fun _ => ⟨fun e => absurd e (by decide), fun _ => ⟨fun e => absurd e (by decide), fun _ => ⟨fun e => absurd e (by decide), fun _ => ⟨fun e => absurd e (by decide), fun _ => ⟨fun e => absurd e (by decide), fun _ => ⟨fun e => absurd e (by decide), fun _ => ⟨fun e => absurd e (by decide), fun _ => ⟨fun _ => B178_162 (B178_183 h), fun e => absurd rfl e⟩⟩⟩⟩⟩⟩⟩⟩⟩⟩⟩)
  · exact N178 (B178_0 ⟨fun e => absurd e (by decide), fun _ => ⟨fun e => absurd e (by decide), fun _ => ⟨fun e => absurd e (by decide), fun _ => ⟨fun e => absurd e (by decide), fun _ => ⟨fun e => absurd e (by decide), fun _ => ⟨fun e => absurd e (by decide), fun _ => ⟨fun e => absurd e (by decide), fun _ => ⟨fun e => absurd e (by decide), fun _ => ⟨fun e => absurd e (by decide), fun _ => ⟨fun e => absurd e (by decide), fun _ => ⟨fun e => absurd e (by decide), fun _ => ⟨fun _ => B178_170 (B178_183 h), fun e => absurd rfl e⟩⟩⟩⟩⟩⟩⟩⟩⟩⟩⟩⟩)
  · exact N178 (B178_0 ⟨fun e => absurd e (by decide), fun _ => ⟨fun e => absurd e (by decide), fun _ => ⟨fun e => absurd e (by decide), fun _ => ⟨fun e => absurd e (by decide), fun _ => ⟨fun e => absurd e (by decide), fun _ => ⟨fun e => absurd e (by decide), fun _ => ⟨fun e => absurd e (by decide), fun _ => ⟨fun e => absurd e (by decide), fun _ => ⟨fun e => absurd e (by decide), fun _ => ⟨fun e => absurd e (by decide), fun _ => ⟨fun e => absurd e (by decide), fun _ => ⟨fun e => absurd e (by decide), fun _ => B178_178 (B178_183 h)⟩⟩⟩⟩⟩⟩⟩⟩⟩⟩⟩⟩)
theorem m182 {n w : Int} (hI : zFolk a) (hs : zSimM a s) (h1 : zOkN (a 2 3) (a 2 4) w n → Q (some (.inl 1)) s) (h0 : ¬ zOkN (a 2 3) (a 2 4) w n → Q (some (.inl 0)) s) : zE x (d + 3) 182 [.inr (.inl 42), .inl n, .inl w] s Q := by
  have i1 := hI.1
  unfold zCnt at i1
  have e1 : s 42 1 = a 2 3 := (congrFun (hs 42 (by decide) rfl) 1).trans i1.2.2.1
  have e6 : s 42 6 = a 2 4 := (congrFun (hs 42 (by decide) rfl) 6).trans i1.2.2.2
  have h1 : zOkN (a 2 3) (a 2 4) w n → ∀ v : Int, v = 1 → Q (some (.inl v)) s := fun e v g => by subst g; exact h1 e
  have h0 : ¬ zOkN (a 2 3) (a 2 4) w n → ∀ v : Int, v = 0 → Q (some (.inl v)) s := fun e v g => by subst g; exact h0 e
  unfold zOkN at h1 h0
  refine N182 (B182_0 (m170 (B182_6 ⟨fun g1 => B182_17 (m170 (B182_24 ⟨fun g2 => B182_35 (m170 (B182_43 ⟨fun g3 => B182_54 (B182_55 ⟨by omega, h0 (by omega) _ rfl⟩), fun g3 => ⟨fun g4 => B182_54 (B182_55 ⟨by omega, h0 (by omega) _ rfl⟩), fun g4 => B182_55 ⟨by omega, h1 (by omega) _ rfl⟩⟩⟩)), fun g2 => m172s (by omega) (B182_32 (B182_55 ⟨by omega, ?_⟩))⟩)), fun g1 => m171s (by omega) (B182_14 (B182_55 ⟨by omega, ?_⟩))⟩)))
  · by_cases e : 0 ≤ n ∧ n < s 42 6
    · exact h1 (by omega) _ (if_pos e)
    · exact h0 (by omega) _ (if_neg e)
  · by_cases e : 0 ≤ n ∧ n < s 42 1
    · exact h1 (by omega) _ (if_pos e)
    · exact h0 (by omega) _ (if_neg e)
theorem m183 {w v : Int} (hw : 0 ≤ w ∧ w ≤ 12) (h : Q (some (.inl (if zLEAST.getD w.toNat 0 ≤ v ∧ v ≤ zMOST.getD w.toNat 0 then 1 else 0))) s) : zE x (d + 2) 183 [.inl w, .inl v] s Q := by
  have hw2 : w = 0 ∨ w = 1 ∨ w = 2 ∨ w = 3 ∨ w = 4 ∨ w = 5 ∨ w = 6 ∨ w = 7 ∨ w = 8 ∨ w = 9 ∨ w = 10 ∨ w = 11 ∨ w = 12 := by omega
  rcases hw2 with rfl | rfl | rfl | rfl | rfl | rfl | rfl | rfl | rfl | rfl | rfl | rfl | rfl
  · exact N183 (B183_0 ⟨fun _ => B183_68 (m170 (B183_75 ⟨by omega, h⟩)), fun e => absurd rfl e⟩)
  · exact N183 (B183_0 ⟨fun e => absurd e (by decide), fun _ => ⟨fun _ => B183_76 (m170 (B183_83 ⟨by omega, h⟩)), fun e => absurd rfl e⟩⟩)
  · exact N183 (B183_0 ⟨fun e => absurd e (by decide), fun _ => ⟨fun e => absurd e (by decide), fun _ => ⟨fun _ => B183_84 (m170 (B183_91 ⟨by omega, h⟩)), fun e => absurd rfl e⟩⟩⟩)
  · exact N183 (B183_0 ⟨fun e => absurd e (by decide), fun _ => ⟨fun e => absurd e (by decide), fun _ => ⟨fun e => absurd e (by decide), fun _ => ⟨fun _ => B183_92 (m170 (B183_99 ⟨by omega, h⟩)), fun e => absurd rfl e⟩⟩⟩⟩)
  · exact N183 (B183_0 ⟨fun e => absurd e (by decide), fun _ => ⟨fun e => absurd e (by decide), fun _ => ⟨fun e => absurd e (by decide), fun _ => ⟨fun e => absurd e (by decide), fun _ => ⟨fun _ => B183_100 (m170 (B183_108 ⟨by omega, h⟩)), fun e => absurd rfl e⟩⟩⟩⟩⟩)
  · exact N183 (B183_0 ⟨fun e => absurd e (by decide), fun _ => ⟨fun e => absurd e (by decide), fun _ => ⟨fun e => absurd e (by decide), fun _ => ⟨fun e => absurd e (by decide), fun _ => ⟨fun e => absurd e (by decide), fun _ => ⟨fun _ => B183_109 (m170 (B183_117 ⟨by omega, h⟩)), fun e => absurd rfl e⟩⟩⟩⟩⟩⟩)
  · exact N183 (B183_0 ⟨fun e => absurd e (by decide), fun _ => ⟨fun e => absurd e (by decide), fun _ => ⟨fun e => absurd e (by decide), fun _ => ⟨fun e => absurd e (by decide), fun _ => ⟨fun e => absurd e (by decide), fun _ => ⟨fun e => absurd e (by decide), fun _ => ⟨fun _ => B183_118 (m170 (B183_125 ⟨by omega, h⟩)), fun e => absurd rfl e⟩⟩⟩⟩⟩⟩⟩)
  · exact N183 (B183_0 ⟨fun e => absurd e (by decide), fun _ => ⟨fun e => absurd e (by decide), fun _ => ⟨fun e => absurd e (by decide), fun _ => ⟨fun e => absurd e (by decide), fun _ => ⟨fun e => absurd e (by decide), fun _ => ⟨fun e => absurd e (by decide), fun _ => ⟨fun e => absurd e (by decide), fun _ => ⟨fun _ => B183_158 (m170 (B183_166 ⟨by omega, h⟩)), fun e => absurd rfl e⟩⟩⟩⟩⟩⟩⟩⟩)
  · exact N183 (B183_0 ⟨fun e => absurd e (by decide), fun _ => ⟨fun e => absurd e (by decide), fun _ => ⟨fun e => absurd e (by decide), fun _ => ⟨fun e => absurd e (by decide), fun _ => ⟨fun e => absurd e (by decide), fun _ => ⟨fun e => absurd e (by decide), fun _ => ⟨fun e => absurd e (by decide), fun _ => ⟨fun e => absurd e (by decide), fun _ => ⟨fun _ => B183_158 (m170 (B183_166 ⟨by omega, h⟩)), fun e => absurd rfl e⟩⟩⟩⟩⟩⟩⟩⟩⟩)
  · exact N183 (B183_0 ⟨fun e => absurd e (by decide), fun _ => ⟨fun e => absurd e (by decide), fun _ => ⟨fun e => absurd e (by decide), fun _ => ⟨fun e => absurd e (by decide), fun _ => ⟨fun e => absurd e (by decide), fun _ => ⟨fun e => absurd e (by decide), fun _ => ⟨fun e => absurd e (by decide), fun _ => ⟨fun e => absurd e (by decide), fun _ => ⟨fun e => absurd e (by decide), fun _ => ⟨fun _ => B183_126 (m170 (B183_133 ⟨by omega, h⟩)), fun e => absurd rfl e⟩⟩⟩⟩⟩⟩⟩⟩⟩⟩)
  · exact N183 (B183_0 ⟨fun e => absurd e (by decide), fun _ => ⟨fun e => absurd e (by decide), fun _ => ⟨fun e => absurd e (by decide), fun _ => ⟨fun e => absurd e (by decide), fun _ => ⟨fun e => absurd e (by decide), fun _ => ⟨fun e => absurd e (by decide), fun _ => ⟨fun e => absurd e (by decide), fun _ => ⟨fun e => absurd e (by decide), fun _ => ⟨fun e => absurd e (by decide), fun _ => ⟨fun e => absurd e (by decide), fun _ => ⟨fun _ => B183_134 (m170 (B183_141 ⟨by omega, h⟩)), fun e => absurd rfl e⟩⟩⟩⟩⟩⟩⟩⟩⟩⟩⟩)
  · exact N183 (B183_0 ⟨fun e => absurd e (by decide), fun _ => ⟨fun e => absurd e (by decide), fun _ => ⟨fun e => absurd e (by decide), fun _ => ⟨fun e => absurd e (by decide), fun _ => ⟨fun e => absurd e (by decide), fun _ => ⟨fun e => absurd e (by decide), fun _ => ⟨fun e => absurd e (by decide), fun _ => ⟨fun e => absurd e (by decide), fun _ => ⟨fun e => absurd e (by decide), fun _ => ⟨fun e => absurd e (by decide), fun _ => ⟨fun e => absurd e (by decide), fun _ => ⟨fun _ => B183_142 (m170 (B183_148 ⟨by omega, h⟩)), fun e => absurd rfl e⟩⟩⟩⟩⟩⟩⟩⟩⟩⟩⟩⟩)
  · exact N183 (B183_0 ⟨fun e => absurd e (by decide), fun _ => ⟨fun e => absurd e (by decide), fun _ => ⟨fun e => absurd e (by decide), fun _ => ⟨fun e => absurd e (by decide), fun _ => ⟨fun e => absurd e (by decide), fun _ => ⟨fun e => absurd e (by decide), fun _ => ⟨fun e => absurd e (by decide), fun _ => ⟨fun e => absurd e (by decide), fun _ => ⟨fun e => absurd e (by decide), fun _ => ⟨fun e => absurd e (by decide), fun _ => ⟨fun e => absurd e (by decide), fun _ => ⟨fun e => absurd e (by decide), fun _ => ⟨fun _ => B183_149 (m170 (B183_157 ⟨by omega, h⟩)), fun e => absurd rfl e⟩⟩⟩⟩⟩⟩⟩⟩⟩⟩⟩⟩⟩)
theorem e_of {n w : Int} (hI : zFolk a) (hs : zSimM a s) (h : Q (some (.inl (rOf a n w))) s) : zE x (d + 4) 185 [.inr (.inl 42), .inl n, .inl w] s Q := by
  have i1 := hI.1
  unfold zCnt at i1
  have e42 : s 42 = a 42 := hs 42 (by decide) rfl
  have e1 : s 42 1 = a 2 3 := (congrFun e42 1).trans i1.2.2.1
  have e6 : s 42 6 = a 2 4 := (congrFun e42 6).trans i1.2.2.2
  have e47 : s 47 = a 47 := hs 47 (by decide) rfl
  have e72 : s 72 = a 72 := hs 72 (by decide) rfl
  have e70 : s 70 = a 70 := hs 70 (by decide) rfl
  have e71 : s 71 = a 71 := hs 71 (by decide) rfl
  unfold rOf at h
  refine N185 (B185_0 (m170 (B185_7 ⟨fun h0 => B185_30 (m170 (B185_38 ⟨fun h1 => B185_75 (m170 (B185_83 ⟨fun h2 => B185_120 (zQi h ?_), fun h2 => m171s (by omega) (B185_91 ⟨fun h3 => B185_98 ?_, fun h3 => B185_119 (zQi h ?_)⟩)⟩)), fun h1 => m172s (by omega) (B185_46 ⟨fun h3 => B185_53 ?_, fun h3 => B185_74 (zQi h ?_)⟩)⟩)), fun h0 => ?_⟩)))
  · have h0 : ¬ (0 ≤ w ∧ w ≤ 12) := fun e => by rw [if_pos e] at h0; omega
    rw [if_neg h0, if_neg (by omega), if_neg (by omega), if_neg (by omega), if_neg (by omega)]
  · have hc : isCh a n := by omega
    have h0 : ¬ (0 ≤ w ∧ w ≤ 12) := fun e => by rw [if_pos e] at h0; omega
    rw [if_neg h0, if_neg (by omega), if_neg (by omega)] at h
    rw [e70]
    refine ⟨fun h4 => B185_113 ?_, fun h4 => ⟨by omega, by omega, B185_119 (zQi h ?_)⟩⟩
    · rw [e71]
      refine ⟨by omega, by omega, B185_119 (zQi h ?_)⟩
      rw [if_neg (by omega), if_pos (by omega), if_pos hc]
    · rw [if_pos (by omega), if_pos hc]
  · have hc : ¬ isCh a n := by omega
    have h0 : ¬ (0 ≤ w ∧ w ≤ 12) := fun e => by rw [if_pos e] at h0; omega
    rw [if_neg h0, if_neg (by omega), if_neg (by omega), if_neg hc, if_neg hc, ite_self, ite_self]
  · have hc : isSp a n := by omega
    have h0 : ¬ (0 ≤ w ∧ w ≤ 12) := fun e => by rw [if_pos e] at h0; omega
    rw [if_neg h0] at h
    rw [e47]
    refine ⟨fun h4 => B185_68 ?_, fun h4 => ⟨by omega, by omega, B185_74 (zQi h ?_)⟩⟩
    · rw [e72]
      refine ⟨by omega, by omega, B185_74 (zQi h ?_)⟩
      rw [if_neg (by omega), if_pos (by omega), if_pos hc]
    · rw [if_pos (by omega), if_pos hc]
  · have hc : ¬ isSp a n := by omega
    have h0 : ¬ (0 ≤ w ∧ w ≤ 12) := fun e => by rw [if_pos e] at h0; omega
    rw [if_neg h0, if_neg hc, if_neg hc, if_neg (show ¬ w = 15 by omega), if_neg (show ¬ w = 16 by omega), ite_self, ite_self]
  · have h0 : 0 ≤ w ∧ w ≤ 12 := Decidable.not_not.mp (fun e => by rw [if_neg e] at h0; omega)
    rw [if_pos h0] at h
    refine m182 hI hs (fun hw => B185_16 ⟨fun e => absurd e (by decide), fun _ => ?_⟩) (fun hw => B185_16 ⟨fun _ => B185_28 (B185_29 ?_), fun e => absurd rfl e⟩)
    · have r := okN_R hI hw
      refine m177 r.1 r.2.1 r.2.2 (B185_25 (B185_29 (zQi h ?_)))
      rw [if_pos hw]
      unfold numF
      rw [hs 43 (by decide) rfl, hs 44 (by decide) rfl, hs 45 (by decide) rfl, hs 46 (by decide) rfl, hs 48 (by decide) rfl, hs 49 (by decide) rfl, hs 50 (by decide) rfl, hs 51 (by decide) rfl, hs 52 (by decide) rfl, hs 42 (by decide) rfl]
    · rw [if_neg hw] at h
      exact h
end ZMChange
