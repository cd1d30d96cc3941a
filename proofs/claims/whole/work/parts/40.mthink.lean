/-! the reference: laps, pence, its calls in thought -/
def zMow (a : zSt) (f : Nat → Int) (s : zSt) : Prop := ∀ c : Nat, (c : Int) < a 2 3 → s 65 c = f c
theorem zMow.fr {a s t : zSt} {f : Nat → Int} {L : List Nat} (h : zMow a f s) (hf : zFr L s t) (hL : L.contains 65 = false) : zMow a f t := fun c hc => by rw [hf 65 hL]; exact h c hc
theorem plainF_R {a : zSt} (hI : zFolk a) {p : Nat} (hp : (p : Int) < a 2 4) {n : Int} (hn : 0 ≤ n ∧ n ≤ 1000) : plainF a p n = a 48 p * n + (if a 50 p ≤ n then a 49 p else 0) ∧ 0 ≤ plainF a p n ∧ plainF a p n ≤ 201000 := by
  have h4 := zN4 hI (c := (p : Int)) (by omega)
  have h5 := zN5 hI (c := (p : Int)) (by omega)
  rw [Int.toNat_natCast] at h4 h5
  have m1 : 0 ≤ a 48 p * n := Int.mul_nonneg h4.1 hn.1
  have m2 : a 48 p * n ≤ 200 * 1000 := Int.mul_le_mul h4.2 hn.2 hn.1 (by omega)
  unfold plainF
  rw [wr_id (x := a 48 p * n) (by unfold zR; omega)]
  generalize a 48 p * n = q at *
  rw [wr_id (by unfold zR; omega)]
  omega
theorem paysF_R {a : zSt} (hI : zFolk a) {p : Nat} (hp : (p : Int) < a 2 4) {n : Int} (hn : 0 ≤ n ∧ n ≤ 1000) : 0 ≤ paysF a p n ∧ paysF a p n ≤ 9999 := by
  have h1 := (plainF_R hI hp hn).2
  have h7 := zN7 hI (c := (p : Int)) (by omega)
  have h8 := zN8 hI (c := (p : Int)) (by omega)
  rw [Int.toNat_natCast] at h7 h8
  unfold paysF owesF
  omega
theorem paidF_P {a : zSt} (hI : zFolk a) (c : Int) {n : Int} (hn : 0 ≤ n ∧ n ≤ 1000) : ∀ k : Nat, (k : Int) ≤ a 2 4 → 0 ≤ paidF a c n k ∧ paidF a c n k ≤ 9999 * k
  | 0, _ => by simp [paidF]
  | k + 1, hk => by
    have h := paidF_P hI c hn k (by omega)
    have h2 := paysF_R hI (p := k) (by omega) hn
    have i2 := hI.1.2.1
    unfold paidF
    split
    · rw [wr_id (by unfold zR; omega)]; omega
    · omega
theorem paidTo_P {a : zSt} (hI : zFolk a) (c : Int) {n : Int} (hn : 0 ≤ n ∧ n ≤ 1000) : 0 ≤ paidTo a c n ∧ paidTo a c n ≤ 159984 := by
  have i2 := hI.1.2.1
  have i4 := hI.1.2.2.2
  have h := paidF_P hI c hn (a 42 6).toNat (by omega)
  unfold paidTo
  omega
section ZMThink
variable {x : List Int} {d : Nat} {a s : zSt} {Q : zQ} {f : Nat → Int}
theorem m170 {v lo hi : Int} (h : Q (some (.inl (if lo ≤ v ∧ v ≤ hi then 1 else 0))) s) : zE x (d + 1) 170 [.inl v, .inl lo, .inl hi] s Q := by
  refine N170 ?_
  repeat' (first | with_reducible refine B170_0 ?_ | with_reducible refine B170_14 ?_ | with_reducible refine B170_15 ?_ | with_reducible refine ⟨fun _ => ?_, fun _ => ?_⟩ | (refine ⟨by omega, ?_⟩) | refine ⟨by omega, by omega, ?_⟩ | fail)
  all_goals exact zQi h (by omega)
theorem z42 {k : Nat} (hs : zSim a s) : s 42 k = a 42 k := congrFun (hs 42 rfl) k
theorem m171 {c : Int} (hI : zFolk a) (hs : zSim a s) (h : Q (some (.inl (if isCh a c then 1 else 0))) s) : zE x (d + 2) 171 [.inr (.inl 42), .inl c] s Q := by
  have i1 := hI.1.1
  have i3 := hI.1.2.2.1
  have e : s 42 1 = a 42 1 := z42 hs
  refine N171 (B171_0 (m170 (B171_11 ⟨by omega, zQi h ?_⟩)))
  rw [wr_id (by unfold zR; omega)]
  omega
theorem m172 {c : Int} (hI : zFolk a) (hs : zSim a s) (h : Q (some (.inl (if isSp a c then 1 else 0))) s) : zE x (d + 2) 172 [.inr (.inl 42), .inl c] s Q := by
  have i1 := hI.1.2.1
  have i3 := hI.1.2.2.2
  have e : s 42 6 = a 42 6 := z42 hs
  refine N172 (B172_0 (m170 (B172_11 ⟨by omega, zQi h ?_⟩)))
  rw [wr_id (by unfold zR; omega)]
  omega
theorem m207 {t : Int} (h : Q (some (.inl (if 0 ≤ t ∧ t ≤ 999 then 1 else 0))) s) : zE x (d + 2) 207 [.inl t] s Q :=
  N207 (B207_0 (m170 (B207_8 ⟨by omega, h⟩)))
theorem m205 {c k m : Int} (hI : zFolk a) (hL : zLaw a) (hs : zSim a s) (hc : isCh a c) (hQ : ∀ s', zFr [63, 64] s s' → Q (some (.inl (lapF a c.toNat k m))) s') : zE x (d + 4) 205 [.inr (.inl 42), .inl c, .inl k, .inl m] s Q := by
  have i1 := hI.1.1
  have e43 : s 43 = a 43 := hs 43 rfl
  have e44 : s 44 = a 44 := hs 44 rfl
  have e13 : s 42 13 = a 42 13 := z42 hs
  have e36 : s 42 36 = a 42 36 := z42 hs
  have fin : ∀ (v : Int) (u : zSt), max 1 (min 99 v) = lapF a c.toNat k m → zFr [63, 64] s u → zJ x (d + 3) 205 93 [some (.inr (.inl 42)), some (.inl c), some (.inl k), some (.inl m), some (.inl v)] [] u Q := by
    intro v u hv hu
    refine B205_93 ⟨fun h1 => B205_103 ⟨fun h2 => B205_115 (B205_117 (zQi (hQ u hu) ?_)), fun h2 => B205_117 (zQi (hQ u hu) ?_)⟩, fun h1 => B205_117 (zQi (hQ u hu) ?_)⟩
    · omega
    · omega
    · omega
  refine N205 (B205_0 ?_)
  rw [e43, e44, e13, e36]
  refine ⟨by omega, by omega, by omega, by omega, fun h0 => fin _ _ ?_ zFr.rf, fun h0 => ⟨by omega, by omega, by omega, by omega, by omega, by omega, by omega, by omega, by omega, by omega, by omega, by omega, by omega, by omega, by omega, by omega, ?_⟩⟩
  · unfold lapF; rw [if_pos h0]
  · have hf : zFr [63, 64] s (zU (zU (zU (zU (zU (zU s 63 0 (a 43 c.toNat)) 63 1 (a 44 c.toNat)) 63 2 k) 63 3 m) 63 4 (a 42 13)) 63 5 c) := (((((zFr.rf.U rfl _ _).U rfl _ _).U rfl _ _).U rfl _ _).U rfl _ _).U rfl _ _
    have h1 : a 42 36 = 1 := by rcases hL.2 with h | h <;> omega
    refine m203 (g := fctF (a 43 c.toNat) (a 44 c.toNat) k m (a 42 13) c) hL (hs.tr (hf.le _ rfl)) h1 (fun i hi => ?_) (fun s' hs' => B205_91 (fin _ _ ?_ (hf.tr (hs'.le _ rfl))))
    · match i, hi with
      | 0, _ => rfl
      | 1, _ => rfl
      | 2, _ => rfl
      | 3, _ => rfl
      | 4, _ => rfl
      | 5, _ => rfl
    · unfold lapF
      rw [if_neg h0, show (c.toNat : Int) = c by omega]
theorem m208_loop {c t : Int} (hI : zFolk a) (hL : zLaw a) (hs : zSim a s) (hc : isCh a c) (hQ : ∀ s', zFr [63, 64] s s' → Q (some (.inl (lapsBy a c.toNat t))) s') :
    ∀ (j i : Nat), i + j = (a 45 c.toNat).toNat → lapsF a c.toNat t j i = lapsBy a c.toNat t → ∀ u, zFr [63, 64] s u → zJ x (d + 4) 208 5 [some (.inr (.inl 42)), some (.inl c), some (.inl t), some (.inl (endF a c.toNat i)), some (.inl (i : Int))] [] u Q := by
  have h99 := zN2 hI hc
  have i1 := hI.1.1
  intro j
  induction j with
  | zero =>
    intro i h1 h2 u hu
    have e45 : u 45 = a 45 := (hs.tr (hu.le _ rfl)) 45 rfl
    refine B208_5 ⟨by omega, by omega, fun _ => B208_41 (zQi (hQ u hu) ?_), fun h => absurd h (by rw [e45]; omega)⟩
    have h3 : i = lapsBy a c.toNat t := h2
    omega
  | succ j ih =>
    intro i h1 h2 u hu
    have e45 : u 45 = a 45 := (hs.tr (hu.le _ rfl)) 45 rfl
    refine B208_5 ⟨by omega, by omega, fun h => absurd h (by rw [e45]; omega), fun _ => m205 hI hL (hs.tr (hu.le _ rfl)) hc (fun u' hu' => B208_25 ?_)⟩
    have h3 := endF_pos a c.toNat i
    have h4 := endF_pos a c.toNat (i + 1)
    have e1 : wr (endF a c.toNat i + lapF a c.toNat i (endF a c.toNat i)) = endF a c.toNat (i + 1) := wr_id (by unfold zR; unfold endF at h4; omega)
    have e2 : True → wr ((i : Int) + 1) = ((i + 1 : Nat) : Int) := fun _ => by unfold wr; omega
    rw [e1]
    clear e1
    unfold lapsF at h2
    refine ⟨fun h5 => B208_35 ?_, fun h5 => zQi (hQ u' (hu.tr hu')) ?_⟩
    · rw [e2 trivial]
      rw [if_neg (by omega)] at h2
      exact ih (i + 1) (by omega) h2 u' (hu.tr hu')
    · rw [if_pos (by omega)] at h2
      rw [h2]
theorem m208 {c t : Int} (hI : zFolk a) (hL : zLaw a) (hs : zSim a s) (hc : isCh a c) (hQ : ∀ s', zFr [63, 64] s s' → Q (some (.inl (lapsBy a c.toNat t))) s') : zE x (d + 5) 208 [.inr (.inl 42), .inl c, .inl t] s Q :=
  N208 (B208_0 (m208_loop hI hL hs hc hQ (a 45 c.toNat).toNat 0 (by omega) rfl s zFr.rf))
theorem m209_loop {c n : Int} (hI : zFolk a) (hL : zLaw a) (hs : zSim a s) (hc : isCh a c) (hn : n ≤ 1000) (hQ : ∀ s', zFr [63, 64] s s' → Q (some (.inl (endF a c.toNat n.toNat))) s') :
    ∀ (j i : Nat), (i : Int) ≤ max n 0 → n ≤ i + j → ∀ t, zFr [63, 64] s t → zJ x (d + 4) 209 5 [some (.inr (.inl 42)), some (.inl c), some (.inl n), some (.inl (endF a c.toNat i)), some (.inl (i : Int))] [] t Q := by
  intro j
  induction j with
  | zero =>
    intro i h1 h2 t ht
    refine B209_5 ⟨fun _ => B209_28 (zQi (hQ t ht) ?_), fun h => absurd h (by omega)⟩
    rw [show n.toNat = i by omega]
  | succ j ih =>
    intro i h1 h2 t ht
    refine B209_5 ⟨fun _ => B209_28 (zQi (hQ t ht) ?_), fun h => ?_⟩
    · rw [show n.toNat = i by omega]
    · refine m205 hI hL (hs.tr (ht.le _ rfl)) hc (fun s' hs' => B209_20 ?_)
      have h3 := endF_pos a c.toNat i
      have h4 := endF_pos a c.toNat (i + 1)
      have e1 : wr (endF a c.toNat i + lapF a c.toNat i (endF a c.toNat i)) = endF a c.toNat (i + 1) := wr_id (by unfold zR; unfold endF at h4; omega)
      rw [e1, show wr ((i : Int) + 1) = ((i + 1 : Nat) : Int) by unfold wr; omega]
      clear e1
      exact ih (i + 1) (by omega) (by omega) s' (ht.tr hs')
theorem m209 {c n : Int} (hI : zFolk a) (hL : zLaw a) (hs : zSim a s) (hc : isCh a c) (hn : n ≤ 1000) (hQ : ∀ s', zFr [63, 64] s s' → Q (some (.inl (endF a c.toNat n.toNat))) s') : zE x (d + 5) 209 [.inr (.inl 42), .inl c, .inl n] s Q :=
  N209 (B209_0 (m209_loop hI hL hs hc hn hQ n.toNat 0 (by omega) (by omega) s zFr.rf))
theorem m211 {p n : Int} (hI : zFolk a) (hs : zSim a s) (hp : isSp a p) (h : Q (some (.inl (plainF a p.toNat n))) s) : zE x (d + 1) 211 [.inr (.inl 42), .inl p, .inl n] s Q := by
  have i2 := hI.1.2.1
  refine N211 (B211_0 ?_)
  rw [show s 50 = a 50 from hs 50 rfl, show s 48 = a 48 from hs 48 rfl, show s 49 = a 49 from hs 49 rfl]
  refine ⟨by omega, by omega, by omega, by omega, fun h0 => B211_27 (B211_28 (zQi h ?_)), fun h0 => ⟨by omega, by omega, B211_28 (zQi h ?_)⟩⟩
  · unfold plainF; rw [if_neg (by omega)]
  · unfold plainF; rw [if_pos (by omega)]
theorem m212 {p n : Int} (hI : zFolk a) (hs : zSim a s) (hp : isSp a p) (h : Q (some (.inl (owesF a p.toNat n))) s) : zE x (d + 2) 212 [.inr (.inl 42), .inl p, .inl n] s Q := by
  have i2 := hI.1.2.1
  refine N212 (B212_0 (m211 hI hs hp (B212_6 ?_)))
  rw [show s 51 = a 51 from hs 51 rfl]
  refine ⟨by omega, by omega, fun h0 => B212_35 (B212_36 (zQi h ?_)), fun h0 => ⟨by omega, by omega, fun h1 => B212_35 (B212_36 (zQi h ?_)), fun h1 => ⟨by omega, by omega, B212_36 (zQi h ?_)⟩⟩⟩
  · unfold owesF; rw [if_neg (by omega)]
  · unfold owesF; rw [if_neg (by omega)]
  · unfold owesF; rw [if_pos (by omega)]
theorem m213 {p n : Int} (hI : zFolk a) (hs : zSim a s) (hp : isSp a p) (h : Q (some (.inl (paysF a p.toNat n))) s) : zE x (d + 3) 213 [.inr (.inl 42), .inl p, .inl n] s Q := by
  have i2 := hI.1.2.1
  refine N213 (B213_0 (m212 hI hs hp (B213_6 ?_)))
  rw [show s 52 = a 52 from hs 52 rfl]
  refine ⟨by omega, by omega, fun h0 => B213_26 (B213_27 (zQi h ?_)), fun h0 => ⟨by omega, by omega, B213_27 (zQi h ?_)⟩⟩
  · unfold paysF; rw [if_neg (by omega)]
  · unfold paysF; rw [if_pos (by omega)]
theorem m215_loop {c n : Int} (hI : zFolk a) (hs : zSim a s) (h : Q (some (.inl (owedTo a c n))) s) :
    ∀ (j i : Nat), (i : Int) + j = a 2 4 → zJ x (d + 2) 215 5 [some (.inr (.inl 42)), some (.inl c), some (.inl n), some (.inl (owedF a c n i)), some (.inl (i : Int))] [] s Q := by
  have e6 : s 42 6 = a 42 6 := z42 hs
  have e47 : s 47 = a 47 := hs 47 rfl
  have i2 := hI.1.2.1
  have i4 := hI.1.2.2.2
  intro j
  induction j with
  | zero =>
    intro i hi
    refine B215_5 ⟨fun _ => B215_41 (zQi h ?_), fun h => absurd h (by omega)⟩
    unfold owedTo
    rw [show (a 42 6).toNat = i by omega]
  | succ j ih =>
    intro i hi
    have e2 : True → wr ((i : Int) + 1) = ((i + 1 : Nat) : Int) := fun _ => by unfold wr; omega
    refine B215_5 ⟨fun h => absurd h (by omega), fun _ => ⟨by omega, by omega, ?_⟩⟩
    rw [e47, show ((i : Int)).toNat = i by omega]
    have h2 := ih (i + 1) (by omega)
    unfold owedF at h2
    refine ⟨fun h0 => B215_35 ?_, fun h0 => m212 hI hs (by omega) (B215_33 (B215_35 ?_))⟩
    · rw [if_neg h0] at h2
      rw [e2 trivial]; exact h2
    · rw [if_pos (Decidable.not_not.mp h0)] at h2
      rw [e2 trivial]; exact h2
theorem m215 {c n : Int} (hI : zFolk a) (hs : zSim a s) (h : Q (some (.inl (owedTo a c n))) s) : zE x (d + 3) 215 [.inr (.inl 42), .inl c, .inl n] s Q := by
  have i2 := hI.1.2.1
  exact N215 (B215_0 (m215_loop hI hs h (a 2 4).toNat 0 (by omega)))
theorem m216_loop {c n : Int} (hI : zFolk a) (hs : zSim a s) (h : Q (some (.inl (paidTo a c n))) s) :
    ∀ (j i : Nat), (i : Int) + j = a 2 4 → zJ x (d + 3) 216 5 [some (.inr (.inl 42)), some (.inl c), some (.inl n), some (.inl (paidF a c n i)), some (.inl (i : Int))] [] s Q := by
  have e6 : s 42 6 = a 42 6 := z42 hs
  have e47 : s 47 = a 47 := hs 47 rfl
  have i2 := hI.1.2.1
  have i4 := hI.1.2.2.2
  intro j
  induction j with
  | zero =>
    intro i hi
    refine B216_5 ⟨fun _ => B216_41 (zQi h ?_), fun h => absurd h (by omega)⟩
    unfold paidTo
    rw [show (a 42 6).toNat = i by omega]
  | succ j ih =>
    intro i hi
    have e2 : True → wr ((i : Int) + 1) = ((i + 1 : Nat) : Int) := fun _ => by unfold wr; omega
    refine B216_5 ⟨fun h => absurd h (by omega), fun _ => ⟨by omega, by omega, ?_⟩⟩
    rw [e47, show ((i : Int)).toNat = i by omega]
    have h2 := ih (i + 1) (by omega)
    unfold paidF at h2
    refine ⟨fun h0 => B216_35 ?_, fun h0 => m213 hI hs (by omega) (B216_33 (B216_35 ?_))⟩
    · rw [if_neg h0] at h2
      rw [e2 trivial]; exact h2
    · rw [if_pos (Decidable.not_not.mp h0)] at h2
      rw [e2 trivial]; exact h2
theorem m216 {c n : Int} (hI : zFolk a) (hs : zSim a s) (h : Q (some (.inl (paidTo a c n))) s) : zE x (d + 4) 216 [.inr (.inl 42), .inl c, .inl n] s Q := by
  have i2 := hI.1.2.1
  exact N216 (B216_0 (m216_loop hI hs h (a 2 4).toNat 0 (by omega)))
theorem m217_loop {t : Int} (hI : zFolk a) (hL : zLaw a) (hs : zSim a s) (hQ : ∀ s', zFr [63, 64, 65] s s' → zMow a (lapN a t) s' → Q none s') :
    ∀ (j i : Nat), (i : Int) + j = a 2 3 → ∀ u, zFr [63, 64, 65] s u → (∀ c : Nat, c < i → u 65 c = lapsBy a c t) → zJ x (d + 5) 217 2 [some (.inr (.inl 42)), some (.inl t), some (.inl (i : Int))] [] u Q := by
  have i1 := hI.1.1
  have i3 := hI.1.2.2.1
  intro j
  induction j with
  | zero =>
    intro i h1 u hu hn
    have e1 : u 42 1 = a 42 1 := z42 (hs.tr (hu.le _ rfl))
    refine B217_2 ⟨fun _ => B217_28 (hQ u hu (fun c hc => hn c (by omega))), fun h => absurd h (by omega)⟩
  | succ j ih =>
    intro i h1 u hu hn
    have e1 : u 42 1 = a 42 1 := z42 (hs.tr (hu.le _ rfl))
    refine B217_2 ⟨fun h => absurd h (by omega), fun _ => m208 hI hL (hs.tr (hu.le _ rfl)) (by omega) (fun u' hu' => B217_21 ⟨by omega, by omega, ?_⟩)⟩
    rw [show wr ((i : Int) + 1) = ((i + 1 : Nat) : Int) by unfold wr; omega, show ((i : Int)).toNat = i by omega]
    refine ih (i + 1) (by omega) _ ((hu.tr (hu'.le _ rfl)).U rfl _ _) (fun c hc => ?_)
    rw [zU_at]
    dsimp only
    split
    · rename_i e; rw [e]
    · rw [hu' 65 rfl]; exact hn c (by omega)
theorem m217 {t : Int} (hI : zFolk a) (hL : zLaw a) (hs : zSim a s) (hQ : ∀ s', zFr [63, 64, 65] s s' → zMow a (lapN a t) s' → Q none s') : zE x (d + 6) 217 [.inr (.inl 42), .inl t] s Q := by
  have i1 := hI.1.1
  exact N217 (B217_0 (m217_loop hI hL hs hQ (a 2 3).toNat 0 (by omega) s zFr.rf (fun c hc => by omega)))
theorem m218_loop (hI : zFolk a) (hs : zSim a s) (hn : zMow a f s) (h : Q (some (.inl (sumN f (a 2 3).toNat))) s) :
    ∀ (j i : Nat), (i : Int) + j = a 2 3 → zJ x d 218 4 [some (.inr (.inl 42)), some (.inl (sumN f i)), some (.inl (i : Int))] [] s Q := by
  have i1 := hI.1.1
  have i3 := hI.1.2.2.1
  have e1 : s 42 1 = a 42 1 := z42 hs
  intro j
  induction j with
  | zero =>
    intro i h1
    refine B218_4 ⟨fun _ => B218_27 (zQi h ?_), fun h => absurd h (by omega)⟩
    rw [show (a 2 3).toNat = i by omega]
  | succ j ih =>
    intro i h1
    refine B218_4 ⟨fun h => absurd h (by omega), fun _ => ⟨by omega, by omega, ?_⟩⟩
    rw [show wr ((i : Int) + 1) = ((i + 1 : Nat) : Int) by unfold wr; omega, show ((i : Int)).toNat = i by omega, hn i (by omega)]
    exact ih (i + 1) (by omega)
theorem m218 (hI : zFolk a) (hs : zSim a s) (hn : zMow a f s) (h : Q (some (.inl (sumN f (a 2 3).toNat))) s) : zE x (d + 1) 218 [.inr (.inl 42)] s Q := by
  have i1 := hI.1.1
  exact N218 (B218_0 (m218_loop hI hs hn h (a 2 3).toNat 0 (by omega)))
theorem m219_loop (hI : zFolk a) (hs : zSim a s) (hn : zMow a f s) (h : Q (some (.inl (topF f 0 (a 2 3).toNat).1)) s) :
    ∀ (j i : Nat), (i : Int) + j = a 2 3 → zJ x d 219 5 [some (.inr (.inl 42)), some (.inl (topF f 0 i).1), some (.inl (i : Int))] [] s Q := by
  have i1 := hI.1.1
  have i3 := hI.1.2.2.1
  have e1 : s 42 1 = a 42 1 := z42 hs
  intro j
  induction j with
  | zero =>
    intro i h1
    refine B219_5 ⟨fun _ => B219_49 (zQi h ?_), fun h => absurd h (by omega)⟩
    rw [show (a 2 3).toNat = i by omega]
  | succ j ih =>
    intro i h1
    have e2 : True → wr ((i : Int) + 1) = ((i + 1 : Nat) : Int) := fun _ => by unfold wr; omega
    have ht := topF_in f 0 i
    have h2 := ih (i + 1) (by omega)
    unfold topF at h2
    refine B219_5 ⟨fun h => absurd h (by omega), fun _ => ⟨by omega, by omega, ?_⟩⟩
    rw [show ((i : Int)).toNat = i by omega, hn i (by omega)]
    refine ⟨fun h5 => B219_43 ?_, fun h5 => ⟨fun h6 => B219_41 (B219_43 ?_), fun h6 => ⟨by omega, by omega, by omega, by omega, ?_⟩⟩⟩
    · rw [if_neg (by omega)] at h2
      rw [e2 trivial]; exact h2
    · rw [if_pos (by omega)] at h2
      rw [e2 trivial]; exact h2
    · rw [hn (topF f 0 i).1.toNat (by omega)]
      refine ⟨fun h7 => B219_43 ?_, fun h7 => B219_41 (B219_43 ?_)⟩
      · rw [if_neg (by omega)] at h2
        rw [e2 trivial]; exact h2
      · rw [if_pos (by omega)] at h2
        rw [e2 trivial]; exact h2
theorem m219 (hI : zFolk a) (hs : zSim a s) (hn : zMow a f s) (h : Q (some (.inl (topF f 0 (a 2 3).toNat).1)) s) : zE x (d + 1) 219 [.inr (.inl 42)] s Q := by
  have i1 := hI.1.1
  exact N219 (B219_0 (m219_loop hI hs hn h (a 2 3).toNat 0 (by omega)))
theorem m220_loop (hI : zFolk a) (hs : zSim a s) (hn : zMow a f s) (h : Q (some (.inl (paidAll a f))) s) :
    ∀ (j i : Nat), (i : Int) + j = a 2 3 → zJ x (d + 4) 220 4 [some (.inr (.inl 42)), some (.inl (sumN (fun c => paidTo a c (f c)) i)), some (.inl (i : Int))] [] s Q := by
  have i1 := hI.1.1
  have i3 := hI.1.2.2.1
  have e1 : s 42 1 = a 42 1 := z42 hs
  have e16 : s 42 16 = a 42 16 := z42 hs
  intro j
  induction j with
  | zero =>
    intro i h1
    have ht := topF_in f 0 (a 2 3).toNat
    refine B220_4 ⟨fun _ => B220_32 (m219 hI hs hn (B220_36 ⟨fun h2 => B220_43 (B220_49 (zQi h ?_)), fun h2 => B220_49 (zQi h ?_)⟩)), fun h => absurd h (by omega)⟩
    · unfold paidAll
      rw [if_neg (by omega), e16, show (a 2 3).toNat = i by omega]
    · unfold paidAll
      rw [if_pos (by omega), show (a 2 3).toNat = i by omega]
  | succ j ih =>
    intro i h1
    refine B220_4 ⟨fun h => absurd h (by omega), fun _ => ⟨by omega, by omega, m216 hI hs (B220_24 ?_)⟩⟩
    rw [show wr ((i : Int) + 1) = ((i + 1 : Nat) : Int) by unfold wr; omega, show ((i : Int)).toNat = i by omega, hn i (by omega)]
    exact ih (i + 1) (by omega)
theorem m220 (hI : zFolk a) (hs : zSim a s) (hn : zMow a f s) (h : Q (some (.inl (paidAll a f))) s) : zE x (d + 5) 220 [.inr (.inl 42)] s Q := by
  have i1 := hI.1.1
  exact N220 (B220_0 (m220_loop hI hs hn h (a 2 3).toNat 0 (by omega)))
theorem m222_loop (hI : zFolk a) (hs : zSim a s) (hn : zMow a f s) (h : Q (some (.inl (sprF a f))) s) :
    ∀ (j i : Nat), (i : Int) + j = a 2 4 → zJ x (d + 2) 222 4 [some (.inr (.inl 42)), some (.inl (bitF (fun p => a 52 p < owesF a p (f (a 47 p).toNat)) i)), some (.inl (i : Int))] [] s Q := by
  have i1 := hI.1.1
  have i2 := hI.1.2.1
  have i4 := hI.1.2.2.2
  have e6 : s 42 6 = a 42 6 := z42 hs
  have e47 : s 47 = a 47 := hs 47 rfl
  have e52 : s 52 = a 52 := hs 52 rfl
  intro j
  induction j with
  | zero =>
    intro i h1
    refine B222_4 ⟨fun _ => B222_49 (zQi h ?_), fun h => absurd h (by omega)⟩
    unfold sprF
    rw [show (a 2 4).toNat = i by omega]
  | succ j ih =>
    intro i h1
    have i7 := hI.2.2 i (by omega)
    have e2 : True → wr ((i : Int) + 1) = ((i + 1 : Nat) : Int) := fun _ => by unfold wr; omega
    have h2 := ih (i + 1) (by omega)
    unfold bitF at h2
    refine B222_4 ⟨fun h => absurd h (by omega), fun _ => ?_⟩
    rw [e47, Int.toNat_natCast, hn (a 47 i).toNat (by omega)]
    refine ⟨by omega, by omega, by omega, by omega, m212 hI hs (by omega) (B222_28 ?_)⟩
    rw [e52, Int.toNat_natCast]
    refine ⟨by omega, by omega, fun h5 => B222_43 ?_, fun h5 => B222_43 ?_⟩
    · rw [if_neg (by omega)] at h2
      rw [e2 trivial]
      rw [show zOr (bitF (fun p => a 52 p < owesF a p (f (a 47 p).toNat)) i) 0 = bitF (fun p => a 52 p < owesF a p (f (a 47 p).toNat)) i by
        have hR : ∀ k, zR (bitF (fun p => a 52 p < owesF a p (f (a 47 p).toNat)) k) := fun k => by
          cases k with
          | zero => exact zR0
          | succ k => exact zR_of _
        show (Int32.ofInt _ ||| Int32.ofInt 0).toInt = _
        rw [show (Int32.ofInt 0) = (0 : Int32) from rfl, Int32.or_zero, z32 (hR i)]] at h2
      exact h2
    · rw [if_pos (by omega)] at h2
      rw [e2 trivial]; exact h2
theorem m222 (hI : zFolk a) (hs : zSim a s) (hn : zMow a f s) (h : Q (some (.inl (sprF a f))) s) : zE x (d + 3) 222 [.inr (.inl 42)] s Q := by
  have i1 := hI.1.2.1
  exact N222 (B222_0 (m222_loop hI hs hn h (a 2 4).toNat 0 (by omega)))
theorem m223_loop (hI : zFolk a) (hs : zSim a s) (hn : zMow a f s) (hf : ∀ c : Nat, (c : Int) < a 2 3 → 0 ≤ f c ∧ f c ≤ 1000) (h : Q (some (.inl (topF (fun c => paidTo a c (f c)) (-1) (a 2 3).toNat).1)) s) :
    ∀ (j i : Nat), (i : Int) + j = a 2 3 → zJ x (d + 4) 223 5 [some (.inr (.inl 42)), some (.inl (topF (fun c => paidTo a c (f c)) (-1) i).1), some (.inl (i : Int))] [] s Q := by
  have i1 := hI.1.1
  have i3 := hI.1.2.2.1
  have e1 : s 42 1 = a 42 1 := z42 hs
  intro j
  induction j with
  | zero =>
    intro i h1
    refine B223_5 ⟨fun _ => B223_50 (zQi h ?_), fun h => absurd h (by omega)⟩
    rw [show (a 2 3).toNat = i by omega]
  | succ j ih =>
    intro i h1
    have e2 : True → wr ((i : Int) + 1) = ((i + 1 : Nat) : Int) := fun _ => by unfold wr; omega
    have ht := topF_in (fun c => paidTo a c (f c)) (-1) i
    have hp := (paidTo_P hI i (hf i (by omega))).1
    have h2 := ih (i + 1) (by omega)
    unfold topF at h2
    refine B223_5 ⟨fun h => absurd h (by omega), fun _ => ⟨fun h6 => B223_42 (B223_44 ?_), fun h6 => ⟨by omega, by omega, ?_⟩⟩⟩
    · rw [if_pos (by omega)] at h2
      rw [e2 trivial]; exact h2
    · rw [Int.toNat_natCast, hn i (by omega)]
      refine m216 hI hs (B223_28 ⟨by omega, by omega, ?_⟩)
      rw [hn (topF (fun c => paidTo a c (f c)) (-1) i).1.toNat (by omega)]
      refine m216 hI hs (B223_39 ?_)
      have h8 : (topF (fun c => paidTo a c (f c)) (-1) i).2 = paidTo a (topF (fun c => paidTo a c (f c)) (-1) i).1 (f (topF (fun c => paidTo a c (f c)) (-1) i).1.toNat) := by
        rcases ht with ht | ht
        · omega
        · have h9 := ht.2.2.1
          try dsimp only at h9
          rw [show (((topF (fun c => paidTo a c (f c)) (-1) i).1.toNat : Nat) : Int) = (topF (fun c => paidTo a c (f c)) (-1) i).1 by omega] at h9
          exact h9
      refine ⟨fun h7 => B223_44 ?_, fun h7 => B223_42 (B223_44 ?_)⟩
      · rw [if_neg (by omega)] at h2
        rw [e2 trivial]; exact h2
      · rw [if_pos (by omega)] at h2
        rw [e2 trivial]; exact h2
theorem m223 (hI : zFolk a) (hs : zSim a s) (hn : zMow a f s) (hf : ∀ c : Nat, (c : Int) < a 2 3 → 0 ≤ f c ∧ f c ≤ 1000) (h : Q (some (.inl (topF (fun c => paidTo a c (f c)) (-1) (a 2 3).toNat).1)) s) : zE x (d + 5) 223 [.inr (.inl 42)] s Q := by
  have i1 := hI.1.1
  exact N223 (B223_0 (m223_loop hI hs hn hf h (a 2 3).toNat 0 (by omega)))
end ZMThink
