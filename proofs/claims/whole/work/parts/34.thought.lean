/-! the class: a field thought of (Thought): laps timed once, minute by minute, drawn -/
def zEndC (a : zSt) (t : Int) (s : zSt) (c : Nat) : Prop := s 23 c = lapsBy a c t ∧ ∀ k : Nat, k ≤ lapsBy a c t → s 22 (c * 100 + k) = endF a c k
def zEnds (a : zSt) (t : Int) (s : zSt) : Prop := ∀ c : Nat, (c : Int) < a 2 3 → zEndC a t s c
theorem zEndC.fr {a s u : zSt} {t : Int} {c : Nat} {L : List Nat} (h : zEndC a t s c) (hf : zFr L s u) (h1 : L.contains 22 = false) (h2 : L.contains 23 = false) : zEndC a t u c := by
  unfold zEndC
  rw [hf 22 h1, hf 23 h2]
  exact h
theorem zEnds.fr {a s u : zSt} {t : Int} {L : List Nat} (h : zEnds a t s) (hf : zFr L s u) (h1 : L.contains 22 = false) (h2 : L.contains 23 = false) : zEnds a t u := fun c hc => (h c hc).fr hf h1 h2
theorem lapsBy_99 {a : zSt} (hI : zFolk a) {c : Nat} (hc : (c : Int) < a 2 3) (t : Int) : lapsBy a c t ≤ (a 45 c).toNat ∧ (a 45 c).toNat ≤ 99 := by
  have h := zN2 hI (c := (c : Int)) (by omega)
  rw [Int.toNat_natCast] at h
  have h2 := (lapsF_spec a c t (a 45 c).toNat 0).2.1
  unfold lapsBy
  omega
section ZThought2
variable {x : List Int} {d : Nat} {a s : zSt} {Q : zQ} {f : Nat → Int}
set_option maxHeartbeats 200000 in
theorem m105_in {t : Int} {c : Nat} (hI : zFolk a) (hL : zLaw a) (hs : zSim a s) (hc : (c : Int) < a 2 3)
    (hK : ∀ u (x4 : Int) o5 o6, zFr [14, 15, 22, 23] s u → (∀ c' : Nat, c' ≤ c → zEndC a t u c') → zJ x (d + 4) 105 126 [some (.inr (.inl 4)), some (.inl t), some (.inl (c : Int)), some (.inl (a 45 c)), some (.inl x4), o5, o6] [] u Q) :
    ∀ (j k : Nat) (o5 o6 : Option zV), k + j = (a 45 c).toNat → lapsF a c t j k = lapsBy a c t → ∀ u, zFr [14, 15, 22, 23] s u → u 23 c = k → (∀ k' : Nat, k' ≤ k → u 22 (c * 100 + k') = endF a c k') → (∀ c' : Nat, c' < c → zEndC a t u c') →
      zJ x (d + 4) 105 48 [some (.inr (.inl 4)), some (.inl t), some (.inl (c : Int)), some (.inl (a 45 c)), some (.inl (k : Int)), o5, o6] [] u Q := by
  have i1 := hI.1.1
  have h99 := lapsBy_99 hI hc t
  have h98 := zN2 hI (c := (c : Int)) (by omega)
  rw [Int.toNat_natCast] at h98
  have hdone : ∀ (k : Nat) (u : zSt), k = lapsBy a c t → u 23 c = k → (∀ k' : Nat, k' ≤ k → u 22 (c * 100 + k') = endF a c k') → (∀ c' : Nat, c' < c → zEndC a t u c') → (∀ c' : Nat, c' ≤ c → zEndC a t u c') := by
    intro k u e h1 h2 h3 c' hc'
    by_cases hcc : c' = c
    · subst hcc
      exact ⟨by rw [h1, e], fun k' hk' => h2 k' (by omega)⟩
    · exact h3 c' (by omega)
  intro j
  induction j with
  | zero =>
    intro k o5 o6 h1 h2 u hu p1 p2 p3
    refine B105_48 ⟨fun _ => hK u _ _ _ hu (hdone k u h2 p1 p2 p3), fun h => absurd h (by omega)⟩
  | succ j ih =>
    intro k o5 o6 h1 h2 u hu p1 p2 p3
    have e3 : True → wr (wr ((c : Int) * 100) + (k : Int)) = ((c * 100 + k : Nat) : Int) := fun _ => by
      rw [wr_id (x := (c : Int) * 100) (by unfold zR; omega), wr_id (by unfold zR; omega)]
      omega
    have e4 : True → wr (wr (wr ((c : Int) * 100) + (k : Int)) + 1) = ((c * 100 + (k + 1) : Nat) : Int) := fun _ => by
      rw [e3 trivial, wr_id (by unfold zR; omega)]
      omega
    refine B105_48 ⟨fun h => absurd h (by omega), fun _ => ?_⟩
    rw [e3 trivial, Int.toNat_natCast, p2 k (Nat.le_refl k)]
    refine ⟨by omega, by omega, m50 hI hL (hs.tr (hu.le _ rfl)) (by omega) (fun u' hu' => B105_82 ?_)⟩
    rw [Int.toNat_natCast]
    have h3 := endF_pos a c k
    have h4 := endF_pos a c (k + 1)
    have e1 : wr (endF a c k + lapF a c k (endF a c k)) = endF a c (k + 1) := wr_id (by unfold zR; unfold endF at h4; omega)
    have e2 : True → wr ((k : Int) + 1) = ((k + 1 : Nat) : Int) := fun _ => by unfold wr; omega
    rw [e1]
    clear e1
    have hu2 := hu.tr (hu'.le [14, 15, 22, 23] rfl)
    unfold lapsF at h2
    refine ⟨fun h5 => B105_94 ?_, fun h5 => hK u' _ _ _ hu2 ?_⟩
    · rw [if_neg (by omega)] at h2
      rw [e4 trivial, e2 trivial, Int.toNat_natCast, Int.toNat_natCast]
      refine ⟨by omega, by omega, by omega, by omega, ih (k + 1) _ _ (by omega) h2 _ ((hu2.U rfl _ _).U rfl _ _) ?_ (fun k' hk' => ?_) (fun c' hc' => ?_)⟩
      · rw [zU_at]; exact if_pos rfl
      · rw [zU_ne (by decide), zU_at]
        dsimp only
        split
        · rename_i e
          rw [show k' = k + 1 by omega]
        · rename_i e
          rw [hu' 22 rfl]
          exact p2 k' (by omega)
      · have hp := p3 c' hc'
        refine ⟨?_, fun k' hk' => ?_⟩
        · rw [zU_at]
          dsimp only
          rw [if_neg (by omega), zU_ne (by decide), hu' 23 rfl]
          exact hp.1
        · have h97 := lapsBy_99 hI (show (c' : Int) < a 2 3 by omega) t
          rw [zU_ne (by decide), zU_at]
          dsimp only
          rw [if_neg (by omega), hu' 22 rfl]
          exact hp.2 k' hk'
    · rw [if_pos (by omega)] at h2
      refine hdone k u' h2 (by rw [hu' 23 rfl]; exact p1) (fun k' hk' => by rw [hu' 22 rfl]; exact p2 k' hk') (fun c' hc' => (p3 c' hc').fr hu' rfl rfl)
theorem m105_loop {t : Int} (hI : zFolk a) (hL : zLaw a) (hs : zSim a s) (hQ : ∀ s', zFr [14, 15, 22, 23] s s' → zEnds a t s' → Q none s') :
    ∀ (j i : Nat) (o3 o4 o5 o6 : Option zV), (i : Int) + j = a 2 3 → ∀ u, zFr [14, 15, 22, 23] s u → (∀ c : Nat, c < i → zEndC a t u c) → zJ x (d + 4) 105 2 [some (.inr (.inl 4)), some (.inl t), some (.inl (i : Int)), o3, o4, o5, o6] [] u Q := by
  have i1 := hI.1.1
  intro j
  induction j with
  | zero =>
    intro i o3 o4 o5 o6 h1 u hu hn
    refine B105_2 (m38 (hs.tr (hu.le _ rfl)) (B105_10 ⟨fun _ => B105_132 (hQ u hu (fun c hc => hn c (by omega))), fun h => absurd h (by omega)⟩))
  | succ j ih =>
    intro i o3 o4 o5 o6 h1 u hu hn
    have hc : (i : Int) < a 2 3 := by omega
    have h98 := zN2 hI (c := (i : Int)) (by omega)
    rw [Int.toNat_natCast] at h98
    refine B105_2 (m38 (hs.tr (hu.le _ rfl)) (B105_10 ⟨fun h => absurd h (by omega), fun _ => m46 hI (hs.tr (hu.le _ rfl)) (by unfold zOkN; omega) (B105_22 ?_)⟩))
    have e3 : wr ((i : Int) * 100) = ((i * 100 : Nat) : Int) := by
      rw [wr_id (by unfold zR; omega)]
      omega
    rw [e3, Int.toNat_natCast, Int.toNat_natCast, show min (numF a 2 i) 99 = a 45 i by
      show min (a 45 (i : Int).toNat) 99 = a 45 i
      rw [Int.toNat_natCast]; omega]
    refine ⟨by omega, by omega, by omega, by omega, ?_⟩
    refine m105_in (s := s) hI hL hs hc (fun u' x4 o5 o6 hu' hg => B105_126 ?_) (a 45 i).toNat 0 o5 o6 (by omega) rfl _ ((hu.U rfl _ _).U rfl _ _) ?_ ?_ ?_
    · have e2 : wr ((i : Int) + 1) = ((i + 1 : Nat) : Int) := by unfold wr; omega
      rw [e2]
      exact ih (i + 1) _ _ _ _ (by omega) u' hu' (fun c hc => hg c (by omega))
    · rw [zU_ne (by decide), zU_at]; exact if_pos rfl
    · intro k' hk'
      rw [zU_at]
      dsimp only
      rw [if_pos (by omega), show k' = 0 by omega]
      rfl
    · intro c' hc'
      have hp := hn c' hc'
      refine ⟨?_, fun k' hk' => ?_⟩
      · rw [zU_ne (by decide), zU_at]
        dsimp only
        rw [if_neg (by omega)]
        exact hp.1
      · have h97 := lapsBy_99 hI (show (c' : Int) < a 2 3 by omega) t
        rw [zU_at]
        dsimp only
        rw [if_neg (by omega), zU_ne (by decide)]
        exact hp.2 k' hk'
theorem m105 {t : Int} (hI : zFolk a) (hL : zLaw a) (hs : zSim a s) (hQ : ∀ s', zFr [14, 15, 22, 23] s s' → zEnds a t s' → Q none s') : zE x (d + 5) 105 [.inr (.inl 4), .inl t] s Q := by
  have i1 := hI.1.1
  exact N105 (B105_0 (m105_loop hI hL hs hQ (a 2 3).toNat 0 _ _ _ _ (by omega) s zFr.rf (fun c hc => by omega)))
theorem m106 {c t : Int} (hI : zFolk a) (hs : zSim a s) (hn : zEnds a t s) (hc : 0 ≤ c ∧ c < a 2 3) (h : Q (some (.inl (lapsBy a c.toNat t))) s) : zE x (d + 2) 106 [.inr (.inl 4), .inl c] s Q := by
  have i1 := hI.1.1
  refine N106 (B106_0 (m40 hs (B106_8 ⟨fun h => absurd h (by omega), fun _ => ⟨by omega, by omega, B106_21 (zQi h ?_)⟩⟩)))
  exact (hn c.toNat (by omega)).1.symm
theorem m107 {c k : Int} (hI : zFolk a) (hs : zSim a s) (hc : 0 ≤ c ∧ c < a 2 3) (hk : 0 ≤ k ∧ k ≤ 99) (h : Q (some (.inl (s 22 (c.toNat * 100 + k.toNat)))) s) : zE x (d + 2) 107 [.inr (.inl 4), .inl c, .inl k] s Q := by
  have i1 := hI.1.1
  have e3 : wr (wr (c * 100) + k) = ((c.toNat * 100 + k.toNat : Nat) : Int) := by
    rw [wr_id (x := c * 100) (by unfold zR; omega), wr_id (by unfold zR; omega)]
    omega
  refine N107 (B107_0 (m40 hs (B107_8 ⟨fun h => absurd h (by omega), fun _ => m118 (B107_18 ⟨fun h => absurd h (by omega), fun _ => ?_⟩)⟩)))
  rw [e3, Int.toNat_natCast]
  exact ⟨by omega, by omega, B107_36 h⟩
theorem m108_loop (hQ : ∀ s', zFr [21] s s' → zNow a (fun _ => 0) s' → Q none s') (h6 : a 2 3 ≤ 6) {t : Int} :
    ∀ (j i : Nat), i + j = 6 → ∀ u, zFr [21] s u → (∀ c : Nat, c < i → u 21 c = 0) → zJ x d 108 7 [some (.inr (.inl 4)), some (.inl t), some (.inl (i : Int))] [] u Q := by
  intro j
  induction j with
  | zero =>
    intro i h1 u hu hn
    exact B108_7 ⟨fun _ => B108_26 (hQ u hu (fun c hc => hn c (by omega))), fun h => absurd h (by omega)⟩
  | succ j ih =>
    intro i h1 u hu hn
    have e2 : wr ((i : Int) + 1) = ((i + 1 : Nat) : Int) := by unfold wr; omega
    refine B108_7 ⟨fun h => absurd h (by omega), fun _ => ⟨by omega, by omega, ?_⟩⟩
    rw [e2, Int.toNat_natCast]
    refine ih (i + 1) (by omega) _ (hu.U rfl _ _) (fun c hc => ?_)
    rw [zU_at]
    dsimp only
    split
    · rfl
    · exact hn c (by omega)
theorem m108 {t : Int} (hI : zFolk a) (hL : zLaw a) (hs : zSim a s) (hQ : ∀ s', zFr [14, 15, 21, 22, 23] s s' → zEnds a t s' → zNow a (fun _ => 0) s' → Q none s') : zE x (d + 6) 108 [.inr (.inl 4), .inl t] s Q := by
  have i1 := hI.1.1
  refine N108 (B108_0 (m105 hI hL hs (fun s1 h1 h2 => B108_5 (m108_loop (s := s1) (fun s2 h3 h4 => hQ s2 ((h1.le _ rfl).tr (h3.le _ rfl)) (h2.fr h3 rfl rfl) h4) i1.2 6 0 (by omega) s1 zFr.rf (fun c hc => by omega)))))
/-- laps by the minute before -/
def preF (a : zSt) (t : Int) (c : Nat) : Int := if t = 0 then 0 else lapsBy a c (t - 1)
theorem preF_next {t : Int} {c : Nat} (ht : 0 ≤ t ∧ t ≤ 999) : (preF a t c < lapsBy a c 999 ∧ endF a c (preF a t c + 1).toNat ≤ t → lapsBy a c t = preF a t c + 1 ∧ t ≠ 0) ∧ (¬ (preF a t c < lapsBy a c 999 ∧ endF a c (preF a t c + 1).toNat ≤ t) → lapsBy a c t = preF a t c) := by
  obtain ⟨g1, g2, g3⟩ := lapsBy_spec a c 999 (by omega)
  by_cases h0 : t = 0
  · subst h0
    have hp : preF a 0 c = 0 := if_pos rfl
    have h1 := endF_lt a c 0
    have hz : endF a c 0 = 0 := rfl
    rw [hp]
    refine ⟨fun h => absurd h.2 ?_, fun _ => ?_⟩
    · show ¬ endF a c (0 + 1) ≤ 0
      omega
    · have := lapsBy_eq (a := a) (c := c) (t := 0) (r := 0) (by omega) (by omega) (by omega) (fun _ => by omega)
      omega
  · have hp : preF a t c = lapsBy a c (t - 1) := if_neg h0
    obtain ⟨k1, k2, k3⟩ := lapsBy_spec a c (t - 1) (by omega)
    rw [hp]
    rw [show ((lapsBy a c (t - 1) : Int) + 1).toNat = lapsBy a c (t - 1) + 1 by omega]
    generalize hr : lapsBy a c (t - 1) = r at *
    refine ⟨fun h => ?_, fun h => ?_⟩
    · have h5 := endF_lt a c (r + 1)
      have := lapsBy_eq (a := a) (c := c) (t := t) (r := r + 1) (by omega) (by omega) h.2 (fun _ => by have := k3 (by omega); omega)
      omega
    · have := lapsBy_eq (a := a) (c := c) (t := t) (r := r) (by omega) k1 (by omega) (fun hlt => by
        by_cases hx : (r : Int) < lapsBy a c 999
        · have h7 : ¬ endF a c (r + 1) ≤ t := fun e => h ⟨hx, e⟩
          omega
        · have h8 := endF_le a c (lapsBy a c 999 + 1) (r - lapsBy a c 999)
          rw [show lapsBy a c 999 + 1 + (r - lapsBy a c 999) = r + 1 by omega] at h8
          have := g3 (by omega)
          omega)
      omega
theorem m109_loop {t : Int} (hI : zFolk a) (hs : zSim a s) (he : zEnds a 999 s) (ht : 0 ≤ t ∧ t ≤ 999)
    (hQ : ∀ s' b, zFr [21] s s' → zNow a (fun c => lapsBy a c t) s' → (b = 1 ∨ b = 0 ∧ t ≠ 0 ∧ ∀ c : Nat, (c : Int) < a 2 3 → (lapsBy a c t : Int) = lapsBy a c (t - 1)) → Q (some (.inl b)) s') :
    ∀ (j i : Nat) (b : Int), (i : Int) + j = a 2 3 → ∀ u, zFr [21] s u → (∀ c : Nat, c < i → u 21 c = lapsBy a c t) → (∀ c : Nat, i ≤ c → (c : Int) < a 2 3 → u 21 c = preF a t c) → (b = 1 ∨ b = 0 ∧ t ≠ 0 ∧ ∀ c : Nat, c < i → (lapsBy a c t : Int) = lapsBy a c (t - 1)) → zJ x (d + 2) 109 12 [some (.inr (.inl 4)), some (.inl t), some (.inl b), some (.inl (i : Int))] [] u Q := by
  have i1 := hI.1.1
  intro j
  induction j with
  | zero =>
    intro i b h1 u hu p1 p2 p3
    refine B109_12 (m38 (hs.tr (hu.le _ rfl)) (B109_20 ⟨fun _ => B109_73 ⟨by omega, hQ u b hu (fun c hc => p1 c (by omega)) ?_⟩, fun h => absurd h (by omega)⟩))
    rcases p3 with p3 | ⟨p4, p5, p6⟩
    · exact Or.inl p3
    · exact Or.inr ⟨p4, p5, fun c hc => p6 c (by omega)⟩
  | succ j ih =>
    intro i b h1 u hu p1 p2 p3
    have hc : (i : Int) < a 2 3 := by omega
    have e2 : wr ((i : Int) + 1) = ((i + 1 : Nat) : Int) := by unfold wr; omega
    have h99 := lapsBy_99 hI hc 999
    obtain ⟨n1, n2⟩ := preF_next (a := a) (c := i) ht
    have q1 := p2 i (Nat.le_refl i) hc
    have q2 : u 23 i = lapsBy a i 999 := by rw [hu 23 rfl]; exact (he i hc).1
    have q0 : 0 ≤ preF a t i := by unfold preF; split <;> omega
    have keep : (lapsBy a i t : Int) = preF a t i → zJ x (d + 2) 109 67 [some (.inr (.inl 4)), some (.inl t), some (.inl b), some (.inl (i : Int))] [] u Q := fun e => by
      refine B109_67 ?_
      rw [e2]
      refine ih (i + 1) b (by omega) u hu (fun c hc => ?_) (fun c h9 h10 => p2 c (by omega) h10) ?_
      · by_cases hci : c = i
        · rw [hci, q1, e]
        · exact p1 c (by omega)
      · rcases p3 with p3 | ⟨p4, p5, p6⟩
        · exact Or.inl p3
        · refine Or.inr ⟨p4, p5, fun c hc => ?_⟩
          by_cases hci : c = i
          · rw [hci, e]; exact if_neg p5
          · exact p6 c (by omega)
    refine B109_12 (m38 (hs.tr (hu.le _ rfl)) (B109_20 ⟨fun h => absurd h (by omega), fun _ => ⟨by omega, by omega, by omega, by omega, ?_⟩⟩))
    rw [Int.toNat_natCast, q1, q2]
    refine ⟨fun h5 => keep (n2 (fun e => by omega)), fun h5 => ⟨by omega, by omega, ?_⟩⟩
    have e5 : wr (preF a t i + 1) = preF a t i + 1 := wr_id (by unfold zR; omega)
    rw [e5]
    refine m107 hI (hs.tr (hu.le _ rfl)) (by omega) (by omega) (B109_51 ?_)
    rw [Int.toNat_natCast, hu 22 rfl, (he i hc).2 (preF a t i + 1).toNat (by omega)]
    refine ⟨fun h6 => keep (n2 (fun e => by omega)), fun h6 => ⟨by omega, by omega, by omega, by omega, B109_67 ?_⟩⟩
    rw [q1, e2, e5]
    obtain ⟨n3, n4⟩ := n1 ⟨by omega, by omega⟩
    refine ih (i + 1) 1 (by omega) _ (hu.U rfl _ _) (fun c hc => ?_) (fun c h9 h10 => ?_) (Or.inl rfl)
    · rw [zU_at]
      dsimp only
      split
      · rename_i e; rw [e, n3]
      · exact p1 c (by omega)
    · rw [zU_at]
      dsimp only
      rw [if_neg (by omega)]
      exact p2 c (by omega) h10
theorem m109 {t : Int} (hI : zFolk a) (hs : zSim a s) (he : zEnds a 999 s) (hn : zNow a (preF a t) s) (ht : 0 ≤ t ∧ t ≤ 999)
    (hQ : ∀ s' b, zFr [21] s s' → zNow a (fun c => lapsBy a c t) s' → (b = 1 ∨ b = 0 ∧ t ≠ 0 ∧ ∀ c : Nat, (c : Int) < a 2 3 → (lapsBy a c t : Int) = lapsBy a c (t - 1)) → Q (some (.inl b)) s') : zE x (d + 3) 109 [.inr (.inl 4), .inl t] s Q := by
  have i1 := hI.1.1
  refine N109 (B109_0 ⟨fun h0 => B109_8 (B109_9 ?_), fun h0 => B109_9 ?_⟩)
  · exact m109_loop hI hs he ht hQ (a 2 3).toNat 0 0 (by omega) s zFr.rf (fun c hc => by omega) (fun c _ hc => hn c hc) (Or.inr ⟨rfl, h0, fun c hc => by omega⟩)
  · exact m109_loop hI hs he ht hQ (a 2 3).toNat 0 1 (by omega) s zFr.rf (fun c hc => by omega) (fun c _ hc => hn c hc) (Or.inl rfl)
/-! drawn -/
def drwT (a : zSt) (c k : Nat) (m z : Int) : Int := if wr ((zUsh z 8).tmod 12) < a 46 c then max 1 (wr ((lapF a c k m).tdiv 2)) else lapF a c k m
def drwF (a : zSt) (c : Nat) (t : Int) : Nat → Nat → Int → Int → Nat × Int
  | 0, k, _, z => (k, z)
  | n + 1, k, m, z => if t < wr (m + drwT a c k m (wr (wr (z * 1103515245) + 12345))) then (k, wr (wr (z * 1103515245) + 12345)) else drwF a c t n (k + 1) (wr (m + drwT a c k m (wr (wr (z * 1103515245) + 12345)))) (wr (wr (z * 1103515245) + 12345))
def drwZ (a : zSt) (t z : Int) : Nat → Int
  | 0 => z
  | i + 1 => (drwF a i t (a 45 i).toNat 0 0 (drwZ a t z i)).2
def drwN (a : zSt) (t z : Int) (i : Nat) : Int := (drwF a i t (a 45 i).toNat 0 0 (drwZ a t z i)).1
theorem m111_loop {c t z0 : Int} (hI : zFolk a) (hL : zLaw a) (hs : zSim a s) (hc : 0 ≤ c ∧ c < a 2 3) {R : Nat × Int}
    (hQ : ∀ s', zFr [14, 15, 21] s s' → s' 21 c.toNat = R.1 → (∀ c', c' ≠ c.toNat → s' 21 c' = s 21 c') → Q (some (.inl R.2)) s') :
    ∀ (j k : Nat) (m z : Int) (o : Option zV), k + j = (a 45 c.toNat).toNat → drwF a c.toNat t j k m z = R → ∀ u, zFr [14, 15, 21] s u → u 21 c.toNat = k → (∀ c', c' ≠ c.toNat → u 21 c' = s 21 c') →
      zJ x (d + 4) 111 38 [some (.inr (.inl 4)), some (.inl c), some (.inl z0), some (.inl t), some (.inl z), some (.inl (a 45 c.toNat)), some (.inl (a 46 c.toNat)), some (.inl m), some (.inl (k : Int)), o] [] u Q := by
  have i1 := hI.1.1
  have h99 := zN2 hI hc
  intro j
  induction j with
  | zero =>
    intro k m z o h1 h2 u hu p1 p2
    refine B111_38 ⟨fun _ => B111_126 ?_, fun h => absurd h (by omega)⟩
    have h3 : (k, z) = R := h2
    subst h3
    exact hQ u hu p1 p2
  | succ j ih =>
    intro k m z o h1 h2 u hu p1 p2
    unfold drwF at h2
    refine B111_38 ⟨fun h => absurd h (by omega), fun _ => m50 hI hL (hs.tr (hu.le _ rfl)) hc (fun u' hu' => B111_68 ?_)⟩
    have hu2 := hu.tr (hu'.le [14, 15, 21] rfl)
    have q1 : u' 21 c.toNat = k := by rw [hu' 21 rfl]; exact p1
    have q2 : ∀ c', c' ≠ c.toNat → u' 21 c' = s 21 c' := fun c' h => by rw [hu' 21 rfl]; exact p2 c' h
    have e2 : wr ((k : Int) + 1) = ((k + 1 : Nat) : Int) := by unfold wr; omega
    generalize hz : wr (wr (z * 1103515245) + 12345) = z' at h2 ⊢
    have go : ∀ (v : Int) (o9 : Option zV), v = drwT a c.toNat k m z' → ∀ y9 : Int, o9 = some (.inl y9) → zJ x (d + 4) 111 98 [some (.inr (.inl 4)), some (.inl c), some (.inl z0), some (.inl t), some (.inl z'), some (.inl (a 45 c.toNat)), some (.inl (a 46 c.toNat)), some (.inl m), some (.inl (k : Int)), o9] [.inl v, .inl m] u' Q := by
      intro v o9 hv y9 ho
      subst ho
      refine B111_98 ⟨fun h5 => B111_110 ⟨by omega, by omega, ?_⟩, fun h5 => B111_126 ?_⟩
      · rw [hv] at h5 ⊢
        rw [if_neg (by omega)] at h2
        rw [e2]
        refine ih (k + 1) _ z' _ (by omega) h2 _ (hu2.U rfl _ _) ?_ (fun c' hc' => ?_)
        · rw [zU_at]; exact if_pos rfl
        · rw [zU_at]
          dsimp only
          rw [if_neg hc']
          exact q2 c' hc'
      · rw [hv] at h5
        rw [if_pos (by omega)] at h2
        subst h2
        exact hQ u' hu2 q1 q2
    refine ⟨fun h5 => B111_96 (go _ _ ?_ _ rfl), fun h5 => go _ _ ?_ _ rfl⟩
    · unfold drwT; rw [if_neg (by omega)]
    · unfold drwT; rw [if_pos (by omega)]
theorem m111 {c t z : Int} (hI : zFolk a) (hL : zLaw a) (hs : zSim a s) (hc : 0 ≤ c ∧ c < a 2 3)
    (hQ : ∀ s', zFr [14, 15, 21] s s' → s' 21 c.toNat = (drwF a c.toNat t (a 45 c.toNat).toNat 0 0 z).1 → (∀ c', c' ≠ c.toNat → s' 21 c' = s 21 c') → Q (some (.inl (drwF a c.toNat t (a 45 c.toNat).toNat 0 0 z).2)) s') : zE x (d + 5) 111 [.inr (.inl 4), .inl c, .inl z, .inl t] s Q := by
  have i1 := hI.1.1
  refine N111 (B111_0 (m46 hI hs (by unfold zOkN; omega) (B111_12 (m46 hI hs (by unfold zOkN; omega) (B111_23 ⟨by omega, by omega, ?_⟩)))))
  refine m111_loop (s := s) hI hL hs hc hQ (a 45 c.toNat).toNat 0 0 z none (by omega) rfl _ (zFr.rf.U rfl _ _) ?_ (fun c' hc' => ?_)
  · rw [zU_at]; exact if_pos rfl
  · rw [zU_at]
    dsimp only
    rw [if_neg hc']
theorem m110_loop {t z0 : Int} (hI : zFolk a) (hL : zLaw a) (hs : zSim a s)
    (hQ : ∀ s', zFr [14, 15, 21] s s' → zNow a (drwN a t z0) s' → Q (some (.inl (drwZ a t z0 (a 2 3).toNat))) s') :
    ∀ (j i : Nat), (i : Int) + j = a 2 3 → ∀ u, zFr [14, 15, 21] s u → (∀ c : Nat, c < i → u 21 c = drwN a t z0 c) → zJ x (d + 5) 110 5 [some (.inr (.inl 4)), some (.inl z0), some (.inl t), some (.inl (drwZ a t z0 i)), some (.inl (i : Int))] [] u Q := by
  have i1 := hI.1.1
  intro j
  induction j with
  | zero =>
    intro i h1 u hu hn
    refine B110_5 (m38 (hs.tr (hu.le _ rfl)) (B110_14 ⟨fun _ => B110_32 (zQi (hQ u hu (fun c hc => hn c (by omega))) ?_), fun h => absurd h (by omega)⟩))
    rw [show (a 2 3).toNat = i by omega]
  | succ j ih =>
    intro i h1 u hu hn
    have e2 : wr ((i : Int) + 1) = ((i + 1 : Nat) : Int) := by unfold wr; omega
    refine B110_5 (m38 (hs.tr (hu.le _ rfl)) (B110_14 ⟨fun h => absurd h (by omega), fun _ => m111 hI hL (hs.tr (hu.le _ rfl)) (by omega) (fun u' hu' p1 p2 => B110_25 ?_)⟩))
    rw [Int.toNat_natCast] at p1 p2 ⊢
    rw [e2]
    refine ih (i + 1) (by omega) u' (hu.tr hu') (fun c hc => ?_)
    by_cases hci : c = i
    · rw [hci, p1]; rfl
    · rw [p2 c hci]; exact hn c (by omega)
theorem m110 {t z : Int} (hI : zFolk a) (hL : zLaw a) (hs : zSim a s)
    (hQ : ∀ s', zFr [14, 15, 21] s s' → zNow a (drwN a t z) s' → Q (some (.inl (drwZ a t z (a 2 3).toNat))) s') : zE x (d + 6) 110 [.inr (.inl 4), .inl z, .inl t] s Q := by
  have i1 := hI.1.1
  exact N110 (B110_0 (m110_loop hI hL hs hQ (a 2 3).toNat 0 (by omega) s zFr.rf (fun c hc => by omega)))
/-- two numbers told as one -/
theorem m119 {p u f g : Int} (hu : 0 < u) (h : Q (some (.inl (if 0 ≤ p ∧ p / u ≤ f ∧ p % u ≤ g then 1 else 0))) s) (hr : u ≤ 1000) : zE x (d + 1) 119 [.inl p, .inl u, .inl f, .inl g] s Q := by
  refine zE_ok (fun _ ht => ?_)
  have hp : zR p := ht _ List.mem_cons_self
  unfold zR at hp
  refine N119 (B119_0 ⟨fun h0 => B119_26 (B119_27 ⟨by omega, zQi h ?_⟩), fun h0 => ⟨fun h1 => absurd h1 (by omega), fun _ => ?_⟩⟩)
  · rw [if_neg (by omega)]
  · have hp0 : 0 ≤ p := by omega
    have d1 : p / u ≤ p := Int.ediv_le_self u hp0
    have d2 : 0 ≤ p / u := Int.ediv_nonneg hp0 (by omega)
    have d3 : 0 ≤ p % u := Int.emod_nonneg p (by omega)
    have d4 : p % u < u := Int.emod_lt_of_pos p hu
    rw [if_neg (by omega), Int.tdiv_eq_ediv_of_nonneg hp0, Int.tmod_eq_emod_of_nonneg hp0, wr_id (by unfold zR; omega), wr_id (by unfold zR; omega)]
    refine ⟨fun h1 => B119_26 (B119_27 ⟨by omega, zQi h ?_⟩), fun h1 => ?_⟩
    · rw [if_neg (by omega)]
    · rw [if_neg (by omega)]
      refine ⟨fun h2 => B119_26 (B119_27 ⟨by omega, zQi h ?_⟩), fun h2 => B119_27 ⟨by omega, zQi h ?_⟩⟩
      · rw [if_neg (by omega)]
      · rw [if_pos (by omega)]
end ZThought2
