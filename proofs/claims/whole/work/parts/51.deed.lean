/-! laps that are run, pence that are asked for, the ledger, the image: the reference -/
section ZMDeed
variable {x : List Int} {d : Nat} {a s : zSt} {Q : zQ}
theorem e_run {c : Int} (hI : zFolk a) (hL : zLaw a) (hs : zSim a s) (h : ∀ s', zFr [63, 64] (vRun a s c) s' → Q (some (.inl (rRun a c))) s') : zE x (d + 6) 252 [.inr (.inl 42), .inl c] s Q := by
  have e70 : s 70 = a 70 := hs 70 rfl
  have e71 : s 71 = a 71 := hs 71 rfl
  have e45 : s 45 = a 45 := hs 45 rfl
  unfold vRun rRun at h
  refine N252 (B252_0 (m171 hI hs (B252_5 ⟨fun h0 => B252_10 ?_, fun h0 => ?_⟩)))
  · have hc : isCh a c := by omega
    have i1 := hI.1.1
    have bad : ¬ (a 70 c.toNat < a 45 c.toNat ∧ nxtF a c.toNat ≤ 9999) → ∀ s', zFr [63, 64] s s' → Q (some (.inl (-5))) s' := fun hn s' hs' => by
      have h := h s' (by rw [if_neg (fun e : okRun a c => hn e.2)]; exact hs')
      rw [if_pos hc, if_neg hn] at h
      exact h
    rw [e70, e45]
    refine ⟨by omega, by omega, by omega, by omega, fun h1 => B252_28 ?_, fun h1 => bad (fun e => h1 e.1) s zFr.rf⟩
    rw [e70, e71]
    refine ⟨by omega, by omega, by omega, by omega, m205 hI hL hs hc (fun s1 h1' => B252_45 ?_)⟩
    have g70 : ∀ k, s1 70 k = s 70 k := fun k => congrFun (h1' 70 rfl) k
    have g71 : s1 71 c.toNat = a 71 c.toNat := (congrFun (h1' 71 rfl) _).trans (congrFun e71 _)
    have g73 : ∀ k, s1 73 k = s 73 k := fun k => congrFun (h1' 73 rfl) k
    rw [g71]
    refine ⟨by omega, by omega, fun h2 => B252_63 ?_, fun h2 => bad (fun e => h2 e.2) s1 h1'⟩
    have ho : okRun a c := ⟨hc, h1, h2⟩
    rw [g71, g70, g73, g73, zU_at]
    have h := h _ (by
      rw [if_pos ho]
      exact (((h1'.UU 70 _ _).UU 71 _ _).UU 73 _ _).UU 73 _ _)
    rw [if_pos hc, if_pos ho.2] at h
    refine ⟨by omega, by omega, by omega, by omega, by omega, by omega, by omega, by omega, by omega, by omega, by omega, by omega, by omega, by omega, by omega, by omega, by omega, by omega, ?_⟩
    refine zQi h ?_
    exact (if_pos rfl).symm
  · have hc : ¬ isCh a c := by omega
    have h := h s (by rw [if_neg (fun e : okRun a c => hc e.1)]; exact zFr.rf)
    rw [if_neg hc] at h
    exact h
theorem e_ask {p : Int} (hI : zFolk a) (hs : zSim a s) (h : Q (some (.inl (rAsk a p))) (vAsk a s p)) : zE x (d + 6) 253 [.inr (.inl 42), .inl p] s Q := by
  have e70 : s 70 = a 70 := hs 70 rfl
  have e47 : s 47 = a 47 := hs 47 rfl
  have e52 : s 52 = a 52 := hs 52 rfl
  have e72 : s 72 = a 72 := hs 72 rfl
  unfold vAsk rAsk at h
  refine N253 (B253_0 (m172 hI hs (B253_5 ⟨fun h0 => B253_10 ?_, fun h0 => ?_⟩)))
  · have hp : isSp a p := by omega
    have i1 := hI.1.1
    have i2 := hI.1.2.1
    have i3 := hI.2.2 p.toNat (by omega)
    rw [if_pos hp, if_pos hp] at h
    rw [e47, e70]
    have go : zJ x (d + 5) 253 42 [some (.inr (.inl 42)), some (.inl p), some (.inl (askN a p.toNat)), some (.inl (askV a p.toNat))] [] s Q := by
      refine B253_42 ⟨by omega, by omega, by omega, by omega, by omega, by omega, by omega, by omega, ?_⟩
      have hs2 : zSim (zU (zU a 72 p.toNat (wr (s 72 p.toNat + askV a p.toNat))) 73 1 (wr (s 73 1 + askV a p.toNat))) (zU (zU s 72 p.toNat (wr (s 72 p.toNat + askV a p.toNat))) 73 1 (wr (s 73 1 + askV a p.toNat))) := (hs.UU _ _ _).UU _ _ _
      have hI2 : zFolk (zU (zU a 72 p.toNat (wr (s 72 p.toNat + askV a p.toNat))) 73 1 (wr (s 73 1 + askV a p.toNat))) := hI
      refine m212 hI2 hs2 hp (B253_68 ?_)
      show 0 ≤ p ∧ p < 16 ∧ ((owesF a p.toNat (askN a p.toNat) ≤ s 52 p.toNat → _) ∧ (¬ owesF a p.toNat (askN a p.toNat) ≤ s 52 p.toNat → _))
      rw [e52]
      refine ⟨by omega, by omega, fun h1 => B253_87 ?_, fun h1 => ⟨by omega, by omega, by omega, by omega, B253_87 ?_⟩⟩
      · rw [if_neg (by omega)] at h
        exact h
      · rw [if_pos (by omega)] at h
        exact h
    refine ⟨by omega, by omega, by omega, by omega, m213 hI hs hp (B253_28 ?_)⟩
    rw [e72]
    have eV : max 0 (wr (paysF a p.toNat (a 70 (a 47 p.toNat).toNat) - a 72 p.toNat)) = askV a p.toNat := rfl
    refine ⟨by omega, by omega, fun h1 => ?_, fun h1 => ?_⟩
    · rw [← eV] at go
      rw [Int.max_eq_right h1] at go
      exact go
    · rw [← eV] at go
      rw [Int.max_eq_left (Int.le_of_lt (Int.not_le.mp h1))] at go
      exact go
  · rw [if_neg (by omega), if_neg (by omega)] at h
    exact h
theorem m254_a {f : Nat → Int} (hf : ∀ c, c < 6 → s 70 c = f c) (h : ∀ s', zFr [70, 71] s s' → (∀ c : Nat, c < 6 → s' 70 c = 0 ∧ s' 71 c = 0) → zJ x d 254 41 [some (.inr (.inl 42)), some (.inl (sumN f 6)), some (.inl 0)] [] s' Q) : ∀ (j k : Nat) (t : zSt), k + j = 6 → zFr [70, 71] s t → (∀ c : Nat, c < k → t 70 c = 0 ∧ t 71 c = 0) → (∀ c : Nat, k ≤ c → t 70 c = s 70 c) → zJ x d 254 4 [some (.inr (.inl 42)), some (.inl (sumN f k)), some (.inl (k : Int))] [] t Q := by
  intro j
  induction j with
  | zero =>
    intro k t hk ht h0 _
    refine B254_4 ⟨fun _ => B254_39 ?_, fun e => absurd e (by omega)⟩
    rw [show k = 6 by omega]
    exact h t ht (fun c hc => h0 c (by omega))
  | succ j ih =>
    intro k t hk ht h0 h1
    refine B254_4 ⟨fun e => absurd e (by omega), fun _ => ?_⟩
    rw [Int.toNat_natCast, h1 k (Nat.le_refl k), hf k (by omega), show wr ((k : Int) + 1) = ((k + 1 : Nat) : Int) by rw [wr_id (by unfold zR; omega)]; omega]
    refine ⟨by omega, by omega, by omega, by omega, by omega, by omega, ih (k + 1) _ (by omega) ((ht.U rfl _ _).U rfl _ _) (fun c hc => ?_) (fun c hc => ?_)⟩
    · by_cases e : c = k
      · subst e
        rw [zU_at, zU_ne (by decide), zU_at]
        exact ⟨if_pos rfl, if_pos rfl⟩
      · have q := h0 c (by omega)
        rw [zU_at, zU_ne (by decide), zU_at, zU_ne (by decide)]
        exact ⟨(if_neg e).trans q.1, (if_neg e).trans q.2⟩
    · rw [zU_ne (by decide), zU_at]
      exact (if_neg (by omega)).trans (h1 c (by omega))
theorem m254_b {v : Int} (h : ∀ s', zFr [72] s s' → (∀ c : Nat, c < 16 → s' 72 c = 0) → Q (some (.inl v)) (zU s' 73 2 (wr (s' 73 2 + 1)))) : ∀ (j k : Nat) (t : zSt), k + j = 16 → zFr [72] s t → (∀ c : Nat, c < k → t 72 c = 0) → zJ x d 254 41 [some (.inr (.inl 42)), some (.inl v), some (.inl (k : Int))] [] t Q := by
  intro j
  induction j with
  | zero => intro k t hk ht h0; exact B254_41 ⟨fun _ => B254_60 ⟨by omega, by omega, by omega, by omega, h t ht (fun c hc => h0 c (by omega))⟩, fun e => absurd e (by omega)⟩
  | succ j ih =>
    intro k t hk ht h0
    refine B254_41 ⟨fun e => absurd e (by omega), fun _ => ?_⟩
    rw [Int.toNat_natCast, show wr ((k : Int) + 1) = ((k + 1 : Nat) : Int) by rw [wr_id (by unfold zR; omega)]; omega]
    refine ⟨by omega, by omega, ih (k + 1) _ (by omega) (ht.U rfl _ _) (fun c hc => ?_)⟩
    rw [zU_at]
    by_cases e : c = k
    · exact if_pos e
    · exact (if_neg e).trans (h0 c (by omega))
theorem e_anew (hs : zSimM a s) (h : ∀ s', zFr [70, 71, 72, 73] s s' → (∀ c : Nat, c < 6 → s' 70 c = 0 ∧ s' 71 c = 0) → (∀ c : Nat, c < 16 → s' 72 c = 0) → (∀ k, s' 73 k = if k = 2 then wr (s 73 2 + 1) else s 73 k) → Q (some (.inl (rAnew a))) s') : zE x (d + 2) 254 [.inr (.inl 42)] s Q := by
  have e70 : s 70 = a 70 := hs 70 (by decide) rfl
  refine N254 (B254_0 (m254_a (s := s) (f := fun c => a 70 c) (fun c hc => congrFun e70 c) (fun s1 h1 z1 => m254_b (s := s1) (fun s2 h2 z2 => h _ ?_ ?_ ?_ ?_) 16 0 s1 (by omega) zFr.rf (fun c hc => absurd hc (by omega))) 6 0 s (by omega) zFr.rf (fun c hc => absurd hc (by omega)) (fun _ _ => rfl)))
  · exact ((h1.le [70, 71, 72, 73] rfl).tr (h2.le _ rfl)).U rfl _ _
  · intro c hc
    rw [zU_ne (by decide), zU_ne (by decide), h2 70 rfl, h2 71 rfl]
    exact z1 c hc
  · intro c hc
    rw [zU_ne (by decide)]
    exact z2 c hc
  · intro k
    rw [zU_at, h2 73 rfl, h1 73 rfl]
theorem e_led {w : Int} (hs : zSimM a s) (h : Q (some (.inl (rLed a w))) s) : zE x (d + 2) 255 [.inr (.inl 42), .inl w] s Q := by
  have e73 : s 73 = a 73 := hs 73 (by decide) rfl
  unfold rLed at h
  refine N255 (B255_0 (m170 (B255_6 ⟨fun h0 => B255_18 (B255_19 (zQi h ?_)), fun h0 => ?_⟩)))
  · rw [if_neg (by omega)]
  · rw [e73]
    refine ⟨by omega, by omega, B255_19 (zQi h ?_)⟩
    rw [if_pos (by omega)]
theorem m256_a (h : ∀ s', zFr [74] s s' → (∀ c : Nat, c < 6 → s' 74 (2 * c) = s 70 c ∧ s' 74 (2 * c + 1) = s 71 c) → zJ x d 256 51 [some (.inr (.inl 42)), some (.inl 0)] [] s' Q) : ∀ (j k : Nat) (t : zSt), k + j = 6 → zFr [74] s t → (∀ c : Nat, c < k → t 74 (2 * c) = s 70 c ∧ t 74 (2 * c + 1) = s 71 c) → zJ x d 256 7 [some (.inr (.inl 42)), some (.inl (k : Int))] [] t Q := by
  intro j
  induction j with
  | zero => intro k t hk ht h0; exact B256_7 ⟨fun _ => B256_49 (h t ht (fun c hc => h0 c (by omega))), fun e => absurd e (by omega)⟩
  | succ j ih =>
    intro k t hk ht h0
    refine B256_7 ⟨fun e => absurd e (by omega), fun _ => ?_⟩
    rw [Int.toNat_natCast, show wr (2 * (k : Int)) = ((2 * k : Nat) : Int) by rw [wr_id (by unfold zR; omega)]; omega, show wr (((2 * k : Nat) : Int) + 1) = ((2 * k + 1 : Nat) : Int) by rw [wr_id (by unfold zR; omega)]; omega, show wr ((k : Int) + 1) = ((k + 1 : Nat) : Int) by rw [wr_id (by unfold zR; omega)]; omega, Int.toNat_natCast, Int.toNat_natCast, ht 70 rfl, ht 71 rfl]
    refine ⟨by omega, by omega, by omega, by omega, by omega, by omega, by omega, by omega, ih (k + 1) _ (by omega) ((ht.U rfl _ _).U rfl _ _) (fun c hc => ?_)⟩
    rw [zU_at, zU_at]
    by_cases e : c = k
    · subst e
      refine ⟨(if_neg (by omega)).trans (if_pos rfl), if_pos rfl⟩
    · have q := h0 c (by omega)
      exact ⟨(if_neg (by omega)).trans ((if_neg (by omega)).trans q.1), (if_neg (by omega)).trans ((if_neg (by omega)).trans q.2)⟩
theorem m256_b (h : ∀ s', zFr [75] s s' → (∀ c : Nat, c < 16 → s' 75 c = s 72 c) → zJ x d 256 77 [some (.inr (.inl 42)), some (.inl 0)] [] s' Q) : ∀ (j k : Nat) (t : zSt), k + j = 16 → zFr [75] s t → (∀ c : Nat, c < k → t 75 c = s 72 c) → zJ x d 256 51 [some (.inr (.inl 42)), some (.inl (k : Int))] [] t Q := by
  intro j
  induction j with
  | zero => intro k t hk ht h0; exact B256_51 ⟨fun _ => B256_75 (h t ht (fun c hc => h0 c (by omega))), fun e => absurd e (by omega)⟩
  | succ j ih =>
    intro k t hk ht h0
    refine B256_51 ⟨fun e => absurd e (by omega), fun _ => ?_⟩
    rw [Int.toNat_natCast, show wr ((k : Int) + 1) = ((k + 1 : Nat) : Int) by rw [wr_id (by unfold zR; omega)]; omega, ht 72 rfl]
    refine ⟨by omega, by omega, by omega, by omega, ih (k + 1) _ (by omega) (ht.U rfl _ _) (fun c hc => ?_)⟩
    rw [zU_at]
    by_cases e : c = k
    · subst e; exact if_pos rfl
    · exact (if_neg e).trans (h0 c (by omega))
theorem m256_c (h : ∀ s', zFr [76] s s' → (∀ c : Nat, c < 5 → s' 76 c = s 73 c) → Q (some (.inl (s' 73 0))) s') : ∀ (j k : Nat) (t : zSt), k + j = 5 → zFr [76] s t → (∀ c : Nat, c < k → t 76 c = s 73 c) → zJ x d 256 77 [some (.inr (.inl 42)), some (.inl (k : Int))] [] t Q := by
  intro j
  induction j with
  | zero => intro k t hk ht h0; exact B256_77 ⟨fun _ => B256_100 ⟨by omega, by omega, h t ht (fun c hc => h0 c (by omega))⟩, fun e => absurd e (by omega)⟩
  | succ j ih =>
    intro k t hk ht h0
    refine B256_77 ⟨fun e => absurd e (by omega), fun _ => ?_⟩
    rw [Int.toNat_natCast, show wr ((k : Int) + 1) = ((k + 1 : Nat) : Int) by rw [wr_id (by unfold zR; omega)]; omega, ht 73 rfl]
    refine ⟨by omega, by omega, by omega, by omega, ih (k + 1) _ (by omega) (ht.U rfl _ _) (fun c hc => ?_)⟩
    rw [zU_at]
    by_cases e : c = k
    · subst e; exact if_pos rfl
    · exact (if_neg e).trans (h0 c (by omega))
theorem e_image (hs : zSimM a s) (h : ∀ s', zFr [74, 75, 76] (zU s 42 47 1) s' → (∀ c : Nat, c < 6 → s' 74 (2 * c) = s 70 c ∧ s' 74 (2 * c + 1) = s 71 c) → (∀ c : Nat, c < 16 → s' 75 c = s 72 c) → (∀ c : Nat, c < 5 → s' 76 c = s 73 c) → Q (some (.inl (a 73 0))) s') : zE x (d + 1) 256 [.inr (.inl 42)] s Q := by
  have e73 : s 73 = a 73 := hs 73 (by decide) rfl
  refine N256 (B256_0 ⟨by omega, m256_a (s := zU s 42 47 1) (fun s1 h1 z1 => m256_b (s := s1) (fun s2 h2 z2 => m256_c (s := s2) (fun s3 h3 z3 => zQi (h s3 ?_ ?_ ?_ ?_) ?_) 5 0 s2 (by omega) zFr.rf (fun c hc => absurd hc (by omega))) 16 0 s1 (by omega) zFr.rf (fun c hc => absurd hc (by omega))) 6 0 _ (by omega) zFr.rf (fun c hc => absurd hc (by omega))⟩)
  · exact ((h1.le [74, 75, 76] rfl).tr (h2.le _ rfl)).tr (h3.le _ rfl)
  · intro c hc
    rw [h3 74 rfl, h2 74 rfl]
    exact z1 c hc
  · intro c hc
    rw [h3 75 rfl, z2 c hc, h1 72 rfl]
    rfl
  · intro c hc
    rw [z3 c hc, h2 73 rfl, h1 73 rfl]
    rfl
  · rw [h3 73 rfl, h2 73 rfl, h1 73 rfl, ← e73]
    rfl
theorem m257_a (h : ∀ s', zFr [70, 71] s s' → (∀ c : Nat, c < 6 → s' 70 c = s 74 (2 * c) ∧ s' 71 c = s 74 (2 * c + 1)) → zJ x d 257 56 [some (.inr (.inl 42)), some (.inl 0)] [] s' Q) : ∀ (j k : Nat) (t : zSt), k + j = 6 → zFr [70, 71] s t → (∀ c : Nat, c < k → t 70 c = s 74 (2 * c) ∧ t 71 c = s 74 (2 * c + 1)) → zJ x d 257 12 [some (.inr (.inl 42)), some (.inl (k : Int))] [] t Q := by
  intro j
  induction j with
  | zero => intro k t hk ht h0; exact B257_12 ⟨fun _ => B257_54 (h t ht (fun c hc => h0 c (by omega))), fun e => absurd e (by omega)⟩
  | succ j ih =>
    intro k t hk ht h0
    refine B257_12 ⟨fun e => absurd e (by omega), fun _ => ?_⟩
    rw [Int.toNat_natCast, show wr (2 * (k : Int)) = ((2 * k : Nat) : Int) by rw [wr_id (by unfold zR; omega)]; omega, show wr (((2 * k : Nat) : Int) + 1) = ((2 * k + 1 : Nat) : Int) by rw [wr_id (by unfold zR; omega)]; omega, show wr ((k : Int) + 1) = ((k + 1 : Nat) : Int) by rw [wr_id (by unfold zR; omega)]; omega, Int.toNat_natCast, Int.toNat_natCast, ht 74 rfl]
    refine ⟨by omega, by omega, by omega, by omega, by omega, by omega, by omega, by omega, ih (k + 1) _ (by omega) ((ht.U rfl _ _).U rfl _ _) (fun c hc => ?_)⟩
    rw [zU_at, zU_ne (by decide), zU_at]
    by_cases e : c = k
    · subst e
      exact ⟨if_pos rfl, if_pos rfl⟩
    · have q := h0 c (by omega)
      refine ⟨(if_neg e).trans q.1, (if_neg e).trans ?_⟩
      rw [zU_ne (by decide)]
      exact q.2
theorem m257_b (h : ∀ s', zFr [72] s s' → (∀ c : Nat, c < 16 → s' 72 c = s 75 c) → zJ x d 257 82 [some (.inr (.inl 42)), some (.inl 0)] [] s' Q) : ∀ (j k : Nat) (t : zSt), k + j = 16 → zFr [72] s t → (∀ c : Nat, c < k → t 72 c = s 75 c) → zJ x d 257 56 [some (.inr (.inl 42)), some (.inl (k : Int))] [] t Q := by
  intro j
  induction j with
  | zero => intro k t hk ht h0; exact B257_56 ⟨fun _ => B257_80 (h t ht (fun c hc => h0 c (by omega))), fun e => absurd e (by omega)⟩
  | succ j ih =>
    intro k t hk ht h0
    refine B257_56 ⟨fun e => absurd e (by omega), fun _ => ?_⟩
    rw [Int.toNat_natCast, show wr ((k : Int) + 1) = ((k + 1 : Nat) : Int) by rw [wr_id (by unfold zR; omega)]; omega, ht 75 rfl]
    refine ⟨by omega, by omega, by omega, by omega, ih (k + 1) _ (by omega) (ht.U rfl _ _) (fun c hc => ?_)⟩
    rw [zU_at]
    by_cases e : c = k
    · subst e; exact if_pos rfl
    · exact (if_neg e).trans (h0 c (by omega))
theorem m257_c (h : ∀ s', zFr [73] s s' → (∀ c : Nat, c < 5 → s' 73 c = s 76 c) → Q (some (.inl (s' 73 0))) s') : ∀ (j k : Nat) (t : zSt), k + j = 5 → zFr [73] s t → (∀ c : Nat, c < k → t 73 c = s 76 c) → zJ x d 257 82 [some (.inr (.inl 42)), some (.inl (k : Int))] [] t Q := by
  intro j
  induction j with
  | zero => intro k t hk ht h0; exact B257_82 ⟨fun _ => B257_105 ⟨by omega, by omega, h t ht (fun c hc => h0 c (by omega))⟩, fun e => absurd e (by omega)⟩
  | succ j ih =>
    intro k t hk ht h0
    refine B257_82 ⟨fun e => absurd e (by omega), fun _ => ?_⟩
    rw [Int.toNat_natCast, show wr ((k : Int) + 1) = ((k + 1 : Nat) : Int) by rw [wr_id (by unfold zR; omega)]; omega, ht 76 rfl]
    refine ⟨by omega, by omega, by omega, by omega, ih (k + 1) _ (by omega) (ht.U rfl _ _) (fun c hc => ?_)⟩
    rw [zU_at]
    by_cases e : c = k
    · subst e; exact if_pos rfl
    · exact (if_neg e).trans (h0 c (by omega))
theorem e_back (hs : zSimM a s) (h0 : a 42 47 = 0 → Q (some (.inl (-5))) s) (h : a 42 47 ≠ 0 → ∀ s', zFr [70, 71, 72, 73] s s' → (∀ c : Nat, c < 6 → s' 70 c = s 74 (2 * c) ∧ s' 71 c = s 74 (2 * c + 1)) → (∀ c : Nat, c < 16 → s' 72 c = s 75 c) → (∀ c : Nat, c < 5 → s' 73 c = s 76 c) → Q (some (.inl (a 76 0))) s') : zE x (d + 1) 257 [.inr (.inl 42)] s Q := by
  have e47 : s 42 47 = a 42 47 := congrFun (hs 42 (by decide) rfl) 47
  have e76 : s 76 = a 76 := hs 76 (by decide) rfl
  refine N257 (B257_0 ?_)
  rw [e47]
  refine ⟨fun h4 => B257_10 (m257_a (s := s) (fun s1 h1 z1 => m257_b (s := s1) (fun s2 h2 z2 => m257_c (s := s2) (fun s3 h3 z3 => zQi (h h4 s3 ?_ ?_ ?_ ?_) ?_) 5 0 s2 (by omega) zFr.rf (fun c hc => absurd hc (by omega))) 16 0 s1 (by omega) zFr.rf (fun c hc => absurd hc (by omega))) 6 0 _ (by omega) zFr.rf (fun c hc => absurd hc (by omega))), fun h4 => h0 (Decidable.not_not.mp h4)⟩
  · exact ((h1.le [70, 71, 72, 73] rfl).tr (h2.le _ rfl)).tr (h3.le _ rfl)
  · intro c hc
    rw [h3 70 rfl, h2 70 rfl, h3 71 rfl, h2 71 rfl]
    exact z1 c hc
  · intro c hc
    rw [h3 72 rfl, z2 c hc, h1 75 rfl]
  · intro c hc
    rw [z3 c hc, h2 76 rfl, h1 76 rfl]
  · rw [z3 0 (by omega), h2 76 rfl, h1 76 rfl, e76]
end ZMDeed
