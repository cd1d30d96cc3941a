/-! sheets, oak, drawn: the reference -/
theorem runF_congr {a b : zSt} {f : Nat → Int} (h1 : b 58 = a 58) (h2 : b 59 = a 59) : ∀ (n k : Nat) (st : List Int), runF b f n k st = runF a f n k st
  | 0, _, _ => rfl
  | n + 1, k, st => by
    unfold runF
    rw [h1, h2, runF_congr h1 h2 n]
theorem givF_congr {a b : zSt} {f : Nat → Int} (h1 : b 58 = a 58) (h2 : b 59 = a 59) (h3 : b 61 = a 61) (h4 : b 62 = a 62) : ∀ (n l : Nat) (first : Int), givF b f n l first = givF a f n l first
  | 0, _, _ => rfl
  | n + 1, l, first => by
    unfold givF workF
    rw [h3, h4, givF_congr h1 h2 h3 h4 n, runF_congr h1 h2, runF_congr h1 h2]
theorem lawF_congr {a b : zSt} {f : Nat → Int} (h1 : b 58 = a 58) (h2 : b 59 = a 59) (h3 : b 61 = a 61) (h4 : b 62 = a 62) (h5 : b 60 = a 60) : lawF b f = lawF a f := by
  unfold lawF
  rw [h5, givF_congr h1 h2 h3 h4]
theorem lapF_z (a : zSt) (z : Int) (c : Nat) (k m : Int) : lapF (zU a 42 42 z) c k m = lapF a c k m := by
  have h := lawF_congr (a := a) (b := zU a 42 42 z) (f := fctF (a 43 c) (a 44 c) k m (a 42 13) c) rfl rfl rfl rfl rfl
  unfold lapF
  show max 1 (min 99 (if a 42 36 = 0 then _ else lawF (zU a 42 42 z) (fctF (a 43 c) (a 44 c) k m (a 42 13) c))) = _
  rw [h]
  rfl
theorem zFolk_z {a : zSt} (z : Int) (h : zFolk a) : zFolk (zU a 42 42 z) := h
theorem zLaw_z {a : zSt} (z : Int) (h : zLaw a) : zLaw (zU a 42 42 z) := h
theorem paidF_z (a : zSt) (v c n : Int) : ∀ k, paidF (zU a 42 42 v) c n k = paidF a c n k
  | 0 => rfl
  | k + 1 => by
    unfold paidF
    rw [paidF_z a v c n k]
    rfl
theorem paidAll_z (a : zSt) (v : Int) (f : Nat → Int) : paidAll (zU a 42 42 v) f = paidAll a f := by
  have h : (fun c : Nat => paidTo (zU a 42 42 v) c (f c)) = fun c : Nat => paidTo a c (f c) := by
    funext c
    exact paidF_z a v c (f c) _
  unfold paidAll
  rw [h]
  rfl
section ZSheets2
variable {x : List Int} {d : Nat} {a s : zSt} {Q : zQ} {f : Nat → Int}
theorem m243_loop {i t : Int} (hI : zFolk a) (hV : zShv a) (hs : zSim a s) (hi : isSh i) (hr : a 38 i.toNat = 1) (hn : zMow a f s) {R : Int} (h : Q (some (.inl R)) s) :
    ∀ (j k : Nat) (o : Option zV), k + j = 31 → wshF a i.toNat f j k = R → zJ x (d + 5) 243 7 [some (.inr (.inl 42)), some (.inl i), some (.inl t), some (.inl (k : Int)), o] [] s Q := by
  have hv := (hV.2 i.toNat (by omega)).2.2.2 (by omega)
  have i1 := hI.1.1
  have e80 : s 80 = a 80 := hs 80 rfl
  intro j
  induction j with
  | zero =>
    intro k o h1 h2
    refine B243_7 ?_
    rw [e80, show wr (2 * (k : Int)) = ((2 * k : Nat) : Int) by rw [wr_id (by unfold zR; omega)]; omega]
    refine ⟨by omega, by omega, fun _ => B243_88 (zQi h ?_), fun h => absurd h (by omega)⟩
    rw [← h2]; rfl
  | succ j ih =>
    intro k o h1 h2
    unfold wshF at h2
    have e2k : True → wr (2 * (k : Int)) = ((2 * k : Nat) : Int) := fun _ => by rw [wr_id (by unfold zR; omega)]; omega
    have e2k1 : True → wr (((2 * k : Nat) : Int) + 1) = ((2 * k + 1 : Nat) : Int) := fun _ => by rw [wr_id (by unfold zR; omega)]; omega
    refine B243_7 ?_
    rw [e80, e2k trivial, e2k1 trivial]
    by_cases hk : a 80 i.toNat ≤ ((2 * k : Nat) : Int)
    · rw [if_pos hk] at h2
      exact ⟨by omega, by omega, fun _ => B243_88 (zQi h h2.symm), fun h => absurd hk h⟩
    · rw [if_neg hk] at h2
      have q1 := hv.2.2.2.2 (2 * k) (by omega)
      have r1 := q1.2.2 hr
      have done : badP a i.toNat f k → Q (some (.inl (k : Int))) s := fun hb => by
        rw [if_pos hb] at h2
        exact zQi h h2.symm
      refine ⟨by omega, by omega, fun h => absurd h hk, fun _ => ⟨by omega, by omega, fun h3 => B243_35 ?_, fun h3 => done (fun e => by omega)⟩⟩
      rw [e2k trivial]
      refine m234 hs hi (by omega) (B243_43 (m171 hI hs (B243_51 ⟨fun h4 => B243_80 (done ?_), fun h4 => ?_⟩)))
      · rw [Int.toNat_natCast] at h4
        intro e
        have e1 := e.2.1
        omega
      · rw [Int.toNat_natCast] at h4 ⊢
        have hc : isCh a (wr (a 81 (i.toNat * 60 + 2 * k))) := by omega
        refine ⟨by omega, by omega, ?_⟩
        rw [hn (wr (a 81 (i.toNat * 60 + 2 * k))).toNat (by omega)]
        refine m216 hI hs (B243_67 ?_)
        rw [e2k trivial, e2k1 trivial]
        refine m234 hs hi (by omega) (B243_77 ?_)
        rw [Int.toNat_natCast]
        refine ⟨fun h5 => B243_82 ?_, fun h5 => B243_80 (done (fun e => h5 e.2.2))⟩
        rw [show wr ((k : Int) + 1) = ((k + 1 : Nat) : Int) by unfold wr; omega]
        rw [if_neg (fun hb : badP a i.toNat f k => hb ⟨by omega, hc, h5⟩)] at h2
        exact ih (k + 1) _ (by omega) h2
theorem m243 {i t : Int} (hI : zFolk a) (hL : zLaw a) (hV : zShv a) (hs : zSim a s) (hi : isSh i) (hr : a 38 i.toNat = 1) (hQ : ∀ s', zFr [63, 64, 65] s s' → Q (some (.inl (wshF a i.toNat (lapN a t) 31 0))) s') : zE x (d + 7) 243 [.inr (.inl 42), .inl i, .inl t] s Q :=
  N243 (B243_0 (m217 hI hL hs (fun s1 h1 n1 => B243_5 (m243_loop (d := d + 1) hI hV (hs.tr (h1.le _ rfl)) hi hr n1 (hQ s1 h1) 31 0 none (by omega) rfl))))
theorem e_judge {i t : Int} (hI : zFolk a) (hL : zLaw a) (hV : zShv a) (hs : zSim a s) (h : ∀ s', zSim a s' → Q (some (.inl (rJudge a i t))) s') : zE x (d + 8) 244 [.inr (.inl 42), .inl i, .inl t] s Q := by
  have bad : ¬ (isSh i ∧ (0 ≤ t ∧ t ≤ 999)) → Q (some (.inl (-1))) s := fun e => zQi (h s hs) (by unfold rJudge; rw [if_neg e])
  refine N244 (B244_0 (m276 (B244_4 ⟨fun h0 => B244_14 (bad (by omega)), fun h0 => m207 (B244_11 ⟨fun h1 => B244_16 ?_, fun h1 => B244_14 (bad (by omega))⟩)⟩)))
  have hg : isSh i ∧ (0 ≤ t ∧ t ≤ 999) := by omega
  have h := fun s' hs' => zQi (h s' hs') (if_pos hg)
  refine m233 hV hs hg.1 (by omega) (B244_22 ⟨fun h2 => B244_31 ?_, fun h2 => B244_37 (zQi (h s hs) ?_)⟩)
  · have h3 : refF a i.toNat 1 = 0 := by unfold refF at h2 ⊢; omega
    have hr : a 38 i.toNat = 1 := by unfold refF at h3; omega
    refine m243 hI hL hV hs hg.1 hr (fun s' hs' => B244_37 (zQi (h s' (hs.tr (hs'.le _ rfl))) ?_))
    rw [if_pos h3]
  · rw [if_neg (by omega)]
theorem e_minutesFor_loop {i x2 : Int} {R : Int} (hI : zFolk a) (hL : zLaw a) (hV : zShv a) (hs : zSim a s) (hi : isSh i) (hr : a 38 i.toNat = 1) (h : ∀ s', zFr [63, 64, 65] s s' → Q (some (.inl R)) s') :
    ∀ (j k : Nat), k + j = 1000 → fstF (fun t => wshF a i.toNat (lapN a t) 31 0 = -2) j k = R → ∀ u, zFr [63, 64, 65] s u → zJ x (d + 7) 246 24 [some (.inr (.inl 42)), some (.inl i), some (.inl x2), some (.inl (k : Int))] [] u Q := by
  intro j
  induction j with
  | zero => intro k h1 h2 u hu; exact B246_24 ⟨fun _ => B246_48 (zQi (h u hu) h2.symm), fun h => absurd h (by omega)⟩
  | succ j ih =>
    intro k h1 h2 u hu
    unfold fstF at h2
    have hin := wshF_in (a := a) (i := i.toNat) (f := lapN a k) 31 0
    refine B246_24 ⟨fun h => absurd h (by omega), fun _ => m243 hI hL hV (hs.tr (hu.le _ rfl)) hi hr (fun u' hu' => B246_37 ⟨fun h4 => B246_42 ?_, fun h4 => zQi (h u' (hu.tr hu')) ?_⟩)⟩
    · rw [show wr ((k : Int) + 1) = ((k + 1 : Nat) : Int) by unfold wr; omega]
      rw [if_neg (by omega)] at h2
      exact ih (k + 1) (by omega) h2 u' (hu.tr hu')
    · rw [if_pos (by omega)] at h2
      exact h2.symm
theorem e_minutesFor {i : Int} (hI : zFolk a) (hL : zLaw a) (hV : zShv a) (hs : zSim a s) (h : ∀ s', zSim a s' → Q (some (.inl (rMinutesFor a i))) s') : zE x (d + 8) 246 [.inr (.inl 42), .inl i] s Q := by
  refine N246 (B246_0 (m276 (B246_4 ⟨fun h0 => B246_9 ?_, fun h0 => zQi (h s hs) ?_⟩)))
  · have hg : isSh i := by omega
    have h := fun s' hs' => zQi (h s' hs') (if_pos hg)
    refine m233 hV hs hg (by omega) (B246_15 ⟨fun h2 => B246_22 ?_, fun h2 => zQi (h s hs) ?_⟩)
    · have h3 : refF a i.toNat 1 = 0 := by unfold refF at h2 ⊢; omega
      have hr : a 38 i.toNat = 1 := by unfold refF at h3; omega
      exact e_minutesFor_loop hI hL hV hs hg hr (fun u hu => zQi (h u (hs.tr (hu.le _ rfl))) (if_pos h3)) 1000 0 (by omega) rfl s zFr.rf
    · rw [if_neg (by omega)]
  · unfold rMinutesFor; rw [if_neg (by omega)]
theorem e_lapsFor_loop {c v w F : Int} (hI : zFolk a) (hs : zSim a s) (hF : fstF (fun n => paidTo a c n = v) 100 0 = F) (h : Q (some (.inl (if w = 0 then cntF a c v 100 else F))) s) :
    ∀ (j k : Nat) (g : Int), k + j = 100 → (cntF a c v k = 0 → g = -2 ∧ fstF (fun n => paidTo a c n = v) j k = F) → (cntF a c v k ≠ 0 → g = F) → zJ x (d + 5) 245 40 [some (.inr (.inl 42)), some (.inl c), some (.inl v), some (.inl w), some (.inl (cntF a c v k)), some (.inl g), some (.inl (k : Int))] [] s Q := by
  intro j
  induction j with
  | zero =>
    intro k g h1 h2 h3
    refine B245_40 ⟨fun _ => B245_79 ⟨fun h4 => B245_88 (B245_90 (zQi h ?_)), fun h4 => B245_90 (zQi h ?_)⟩, fun h => absurd h (by omega)⟩
    · rw [if_neg h4]
      by_cases hz : cntF a c v k = 0
      · obtain ⟨e1, e2⟩ := h2 hz
        rw [e1, ← e2]; rfl
      · exact (h3 hz).symm
    · rw [if_pos (Decidable.not_not.mp h4), show k = 100 by omega]
  | succ j ih =>
    intro k g h1 h2 h3
    have e2 : True → wr ((k : Int) + 1) = ((k + 1 : Nat) : Int) := fun _ => by unfold wr; omega
    have hcn := cntF_R a c v k
    refine B245_40 ⟨fun h => absurd h (by omega), fun _ => m216 hI hs (B245_54 ⟨fun h4 => B245_61 ?_, fun h4 => B245_73 ?_⟩)⟩
    · have hc : cntF a c v (k + 1) = cntF a c v k + 1 := if_pos h4
      have h5 := fun g => ih (k + 1) g (by omega)
      rw [hc] at h5
      refine ⟨fun h6 => B245_70 (B245_73 ?_), fun h6 => B245_70 (B245_73 ?_)⟩
      · rw [e2 trivial, wr_id (by unfold zR; omega)]
        exact h5 g (fun e => by omega) (fun _ => h3 h6)
      · rw [e2 trivial, wr_id (by unfold zR; omega)]
        refine h5 k (fun e => by omega) (fun _ => ?_)
        rw [← (h2 (Decidable.not_not.mp h6)).2]
        exact (fstF_hit (p := fun n => paidTo a c n = v) h4).symm
    · have hc : cntF a c v (k + 1) = cntF a c v k := if_neg h4
      have h5 := ih (k + 1) g (by omega)
      rw [hc] at h5
      rw [e2 trivial]
      refine h5 (fun e => ⟨(h2 e).1, ?_⟩) h3
      rw [← (h2 e).2]
      exact (fstF_miss (p := fun n => paidTo a c n = v) h4).symm
theorem e_lapsFor {c v w : Int} (hI : zFolk a) (hs : zSim a s) (h : ∀ s', zSim a s' → Q (some (.inl (rLapsFor a c v w))) s') : zE x (d + 6) 245 [.inr (.inl 42), .inl c, .inl v, .inl w] s Q := by
  have bad : ¬ (isCh a c ∧ (0 ≤ v ∧ v ≤ 99999) ∧ (0 ≤ w ∧ w ≤ 1)) → Q (some (.inl (-1))) s := fun e => zQi (h s hs) (by unfold rLapsFor; rw [if_neg e])
  refine N245 (B245_0 (m171 hI hs (B245_5 ⟨fun h0 => B245_28 (bad (by omega)), fun h0 => m170 (B245_16 ⟨fun h1 => B245_28 (bad (by omega)), fun h1 => m170 (B245_25 ⟨fun h2 => B245_30 ?_, fun h2 => B245_28 (bad (by omega))⟩)⟩)⟩)))
  exact e_lapsFor_loop hI hs rfl (zQi (h s hs) (if_pos (by omega))) 100 0 (-2) (by omega) (fun _ => ⟨rfl, rfl⟩) (fun e => absurd rfl e)
theorem e_whose_loop {c t v : Int} {n : Int} {m R : Int} (h : Q (some (.inl R)) s) :
    ∀ (j k : Nat), k + j = 201 → fstF (fun p => wr (m + min (wr ((p : Int) * n)) 9999) = v) j k = R → zJ x d 247 48 [some (.inr (.inl 42)), some (.inl c), some (.inl t), some (.inl v), some (.inl n), some (.inl m), some (.inl (k : Int))] [] s Q := by
  intro j
  induction j with
  | zero => intro k h1 h2; exact B247_48 ⟨fun _ => B247_94 (zQi h h2.symm), fun h => absurd h (by omega)⟩
  | succ j ih =>
    intro k h1 h2
    unfold fstF at h2
    have go : ∀ y : Int, y = min (wr ((k : Int) * n)) 9999 → zJ x d 247 80 [some (.inr (.inl 42)), some (.inl c), some (.inl t), some (.inl v), some (.inl n), some (.inl m), some (.inl (k : Int))] [.inl y, .inl m] s Q := by
      intro y hy
      subst hy
      refine B247_80 ⟨fun h3 => B247_88 ?_, fun h3 => zQi h ?_⟩
      · rw [show wr ((k : Int) + 1) = ((k + 1 : Nat) : Int) by unfold wr; omega]
        rw [if_neg h3] at h2
        exact ih (k + 1) (by omega) h2
      · rw [if_pos (Decidable.not_not.mp h3)] at h2
        exact h2.symm
    exact B247_48 ⟨fun h => absurd h (by omega), fun _ => ⟨fun h3 => B247_75 (go _ (by omega)), fun h3 => go _ (by omega)⟩⟩
theorem e_whose {c t v : Int} (hI : zFolk a) (hL : zLaw a) (hs : zSim a s) (h : ∀ s', zSim a s' → Q (some (.inl (rWhose a c t v))) s') : zE x (d + 6) 247 [.inr (.inl 42), .inl c, .inl t, .inl v] s Q := by
  have bad : ¬ (isCh a c ∧ (0 ≤ t ∧ t ≤ 999) ∧ (0 ≤ v ∧ v ≤ 99999)) → Q (some (.inl (-1))) s := fun e => zQi (h s hs) (by unfold rWhose; rw [if_neg e])
  refine N247 (B247_0 (m171 hI hs (B247_5 ⟨fun h0 => B247_26 (bad (by omega)), fun h0 => m207 (B247_12 ⟨fun h1 => B247_26 (bad (by omega)), fun h1 => m170 (B247_23 ⟨fun h2 => B247_28 ?_, fun h2 => B247_26 (bad (by omega))⟩)⟩)⟩)))
  refine m208 hI hL hs (by omega) (fun s' hs' => B247_34 (m216 hI (hs.tr (hs'.le _ rfl)) (B247_43 ?_)))
  exact e_whose_loop (zQi (h s' (hs.tr (hs'.le _ rfl))) (if_pos (by omega))) 201 0 (by omega) rfl
theorem m248 {i c : Int} (hV : zShv a) (hs : zSim a s) (hi : isSh i) (hr : a 38 i.toNat ≤ 4) (hc : 0 ≤ c ∧ c < 6) (h : Q (some (.inl (sadF a i.toNat c.toNat))) s) : zE x (d + 2) 248 [.inr (.inl 42), .inl i, .inl c] s Q := by
  have hv := (hV.2 i.toNat (by omega)).2.2.2 hr
  refine N248 (B248_0 ?_)
  rw [show s 80 = a 80 from hs 80 rfl]
  refine ⟨by omega, by omega, fun h0 => B248_19 (B248_20 (zQi h ?_)), fun h0 => m234 hs hi (by omega) (B248_16 (B248_20 (zQi h ?_)))⟩
  · unfold sadF; rw [if_neg (by omega)]
  · unfold sadF; rw [if_pos (by omega)]
theorem zOr_0 {v : Int} (h : zR v) : zOr v 0 = v := by
  show (Int32.ofInt v ||| Int32.ofInt 0).toInt = _
  rw [show (Int32.ofInt 0) = (0 : Int32) from rfl, Int32.or_zero, z32 h]
theorem bitF_R (g : Nat → Prop) [DecidablePred g] : ∀ k, zR (bitF g k)
  | 0 => zR0
  | _ + 1 => zR_of _
theorem e_oak_loop {i t x3 x4 : Int} (hI : zFolk a) (hV : zShv a) (hs : zSim a s) (hi : isSh i) (hr : a 38 i.toNat ≤ 4) (hn : zMow a (lapN a t) s) (hQ : Q (some (.inl (bitF (fun c => (lapsBy a c t : Int) < sadF a i.toNat c) (a 2 3).toNat))) s) :
    ∀ (j k : Nat), (k : Int) + j = a 2 3 → zJ x (d + 2) 249 94 [some (.inr (.inl 42)), some (.inl i), some (.inl t), some (.inl x3), some (.inl x4), some (.inl (bitF (fun c => (lapsBy a c t : Int) < sadF a i.toNat c) k)), some (.inl (k : Int))] [] s Q := by
  have i1 := hI.1.1
  have i3 := hI.1.2.2.1
  have e1 : s 42 1 = a 42 1 := z42 hs
  intro j
  induction j with
  | zero =>
    intro k h1
    refine B249_94 ⟨fun _ => B249_135 (zQi hQ ?_), fun h => absurd h (by omega)⟩
    rw [show (a 2 3).toNat = k by omega]
  | succ j ih =>
    intro k h1
    have h2 := ih (k + 1) (by omega)
    unfold bitF at h2
    refine B249_94 ⟨fun h => absurd h (by omega), fun _ => m248 hV hs hi hr (by omega) (B249_110 ?_)⟩
    rw [Int.toNat_natCast, hn k (by omega)]
    refine ⟨by omega, by omega, fun h3 => B249_129 ?_, fun h3 => B249_129 ?_⟩
    · have h4 : sadF a i.toNat k ≤ lapsBy a k t := h3
      rw [if_neg (by omega), zOr_0 (bitF_R _ k)] at h2
      rw [show wr ((k : Int) + 1) = ((k + 1 : Nat) : Int) by unfold wr; omega]
      exact h2
    · have h4 : ¬ sadF a i.toNat k ≤ lapsBy a k t := h3
      rw [if_pos (by omega)] at h2
      rw [show wr ((k : Int) + 1) = ((k + 1 : Nat) : Int) by unfold wr; omega]
      exact h2
theorem e_oak {i t c : Int} (hI : zFolk a) (hL : zLaw a) (hV : zShv a) (hs : zSim a s) (h : ∀ s', zSim a s' → Q (some (.inl (rOak a i t c))) s') : zE x (d + 7) 249 [.inr (.inl 42), .inl i, .inl t, .inl c] s Q := by
  have i1 := hI.1.1
  have i3 := hI.1.2.2.1
  have e1 : s 42 1 = a 42 1 := z42 hs
  have bad : ¬ (isSh i ∧ (0 ≤ t ∧ t ≤ 999) ∧ (c = -1 ∨ isCh a c)) → Q (some (.inl (-1))) s := fun e => zQi (h s hs) (by unfold rOak; rw [if_neg e])
  refine N249 (B249_0 (m276 (B249_4 ⟨fun h0 => B249_28 (bad (by omega)), fun h0 => m207 (B249_11 ⟨fun h1 => B249_28 (bad (by omega)), fun h1 => ?_⟩)⟩)))
  rw [wr_id (by unfold zR; omega)]
  refine m170 (B249_25 ⟨fun h1 => B249_30 ?_, fun h1 => B249_28 (bad (by omega))⟩)
  have hg : isSh i ∧ (0 ≤ t ∧ t ≤ 999) ∧ (c = -1 ∨ isCh a c) := by omega
  have h := fun s' hs' => zQi (h s' hs') (if_pos hg)
  refine m233 hV hs hg.1 (by omega) (B249_36 ⟨fun h2 => B249_46 (m217 hI hL hs (fun s' hs' hn => B249_51 ?_)), fun h2 => zQi (h s hs) ?_⟩)
  · have h3 : refF a i.toNat 0 = 0 := by unfold refF at h2 ⊢; omega
    have hr : a 38 i.toNat = 0 := by unfold refF at h3; omega
    have hs2 : zSim a s' := hs.tr (hs'.le _ rfl)
    have h := fun s' hs' => zQi (h s' hs') (if_pos h3)
    refine ⟨fun h4 => B249_88 ?_, fun h4 => m248 hV hs2 hg.1 (by omega) (by omega) (B249_61 ?_)⟩
    · refine e_oak_loop hI hV hs2 hg.1 (by omega) hn (zQi (h s' hs2) ?_) (a 2 3).toNat 0 (by omega)
      rw [if_pos (by omega)]
    · have h := fun s' hs' => zQi (h s' hs') (if_neg (show ¬ c = -1 by omega))
      have hsd := sadF_R hV hg.1 hr c.toNat
      have en := hn c.toNat (by omega)
      rw [en]
      refine ⟨by omega, by omega, fun h5 => B249_86 (B249_87 (zQi (h s' hs2) ?_)), fun h5 => m248 hV hs2 hg.1 (by omega) (by omega) (B249_79 (m209 hI hL hs2 (by omega) (by omega) (fun s3 h6 => B249_82 (B249_87 (zQi (h s3 (hs2.tr (h6.le _ rfl))) ?_)))))⟩
      · have h6 : sadF a i.toNat c.toNat ≤ lapsBy a c.toNat t := h5
        rw [if_neg (by omega)]
      · have h6 : ¬ sadF a i.toNat c.toNat ≤ lapsBy a c.toNat t := h5
        rw [if_pos (by omega)]
  · rw [if_neg (by omega)]
/-! drawn: the reference's seed lies in a slot of its own -/
theorem zSim_z {u : zSt} {z v : Int} (h : zSim (zU a 42 42 z) u) : zSim (zU a 42 42 v) (zU u 42 42 v) := fun q hq => by
  by_cases hq2 : q = 42
  · subst hq2
    have h1 := h 42 rfl
    rw [zU_at] at h1
    rw [zU_at, zU_at]
    funext k
    by_cases hk : k = 42
    · rw [if_pos hk, if_pos hk]
    · rw [if_neg hk, if_neg hk]
      have := congrFun h1 k
      rw [if_neg hk] at this
      exact this
  · rw [zU_ne hq2, zU_ne hq2]
    have := h q hq
    rw [zU_ne hq2] at this
    exact this
theorem m250_loop {c t : Int} (hI : zFolk a) (hL : zLaw a) (hc : isCh a c) {R : Nat × Int} {z0 : Int} (hs0 : zSim (zU a 42 42 z0) s)
    (hQ : ∀ u, zSim (zU a 42 42 R.2) u → zFr [63, 64, 42] s u → Q (some (.inl R.1)) u) :
    ∀ (j k : Nat) (m z : Int) (o : Option zV), k + j = (a 45 c.toNat).toNat → drwF a c.toNat t j k m z = R → ∀ u, zSim (zU a 42 42 z) u → zFr [63, 64, 42] s u →
      zJ x (d + 4) 250 5 [some (.inr (.inl 42)), some (.inl c), some (.inl t), some (.inl m), some (.inl (k : Int)), o] [] u Q := by
  have i1 := hI.1.1
  have h99 := zN2 hI hc
  intro j
  induction j with
  | zero =>
    intro k m z o h1 h2 u hu hf
    have e45 : u 45 = a 45 := hu 45 rfl
    refine B250_5 ?_
    rw [e45]
    refine ⟨by omega, by omega, fun _ => B250_96 ?_, fun h => absurd h (by omega)⟩
    have h3 : (k, z) = R := h2
    subst h3
    exact hQ u hu hf
  | succ j ih =>
    intro k m z o h1 h2 u hu hf
    have e45 : u 45 = a 45 := hu 45 rfl
    have e42 : u 42 42 = z := congrFun (hu 42 rfl) 42
    refine B250_5 ?_
    rw [e45, e42]
    unfold drwF at h2
    generalize hz : wr (wr (z * 1103515245) + 12345) = z' at h2 ⊢
    have hu1 : zSim (zU a 42 42 z') (zU u 42 42 z') := zSim_z hu
    refine ⟨by omega, by omega, fun h => absurd h (by omega), fun _ => m205 (a := zU a 42 42 z') (zFolk_z z' hI) (zLaw_z z' hL) hu1 hc (fun u' hu' => B250_40 ?_)⟩
    rw [lapF_z]
    have hu2 : zSim (zU a 42 42 z') u' := hu1.tr (hu'.le _ rfl)
    have hf2 : zFr [63, 64, 42] s u' := (hf.U rfl _ _).tr (hu'.le _ rfl)
    have e46 : u' 46 = a 46 := hu2 46 rfl
    have e42' : u' 42 42 = z' := congrFun (hu2 42 rfl) 42
    have hl := lapF_1 a c.toNat k m
    rw [e46, e42']
    have go : ∀ (v : Int), v = drwT a c.toNat k m z' → zJ x (d + 4) 250 77 [some (.inr (.inl 42)), some (.inl c), some (.inl t), some (.inl m), some (.inl (k : Int)), some (.inl v)] [] u' Q := by
      intro v hv
      subst hv
      refine B250_77 ⟨fun h5 => B250_90 ?_, fun h5 => ?_⟩
      · rw [if_neg (by omega)] at h2
        rw [show wr ((k : Int) + 1) = ((k + 1 : Nat) : Int) by unfold wr; omega]
        exact ih (k + 1) _ z' _ (by omega) h2 u' hu2 hf2
      · rw [if_pos (by omega)] at h2
        subst h2
        exact hQ u' hu2 hf2
    refine ⟨by omega, by omega, fun h5 => go _ ?_, fun h5 => ⟨fun h6 => B250_71 (B250_75 (go _ ?_)), fun h6 => B250_75 (go _ ?_)⟩⟩
    · unfold drwT; rw [if_neg (by omega)]
    · unfold drwT
      rw [if_pos (by omega), Int.tdiv_eq_ediv_of_nonneg (by omega), wr_id (by unfold zR; omega)]
      omega
    · unfold drwT
      rw [if_pos (by omega), Int.tdiv_eq_ediv_of_nonneg (by omega), wr_id (by unfold zR; omega)]
      omega
theorem m250 {c t z : Int} (hI : zFolk a) (hL : zLaw a) (hc : isCh a c) (hs : zSim (zU a 42 42 z) s)
    (hQ : ∀ u, zSim (zU a 42 42 (drwF a c.toNat t (a 45 c.toNat).toNat 0 0 z).2) u → zFr [63, 64, 42] s u → Q (some (.inl (drwF a c.toNat t (a 45 c.toNat).toNat 0 0 z).1)) u) : zE x (d + 5) 250 [.inr (.inl 42), .inl c, .inl t] s Q :=
  N250 (B250_0 (m250_loop hI hL hc hs hQ (a 45 c.toNat).toNat 0 0 z none (by omega) rfl s hs zFr.rf))
theorem e_drawn_in {z nt w : Int} {t : Int} (hI : zFolk a) (hL : zLaw a) (ht : wr (nt.tmod 1000) = t) {x1 x4 x5 : Int}
    (hK : ∀ u, zSim (zU a 42 42 (drwZ a t z (a 2 3).toNat)) u → zMow a (drwN a t z) u → zJ x (d + 5) 251 86 [some (.inr (.inl 42)), some (.inl x1), some (.inl nt), some (.inl w), some (.inl x4), some (.inl x5), some (.inl (a 2 3))] [] u Q) :
    ∀ (j i : Nat), (i : Int) + j = a 2 3 → ∀ u, zSim (zU a 42 42 (drwZ a t z i)) u → (∀ c : Nat, c < i → u 65 c = drwN a t z c) →
      zJ x (d + 5) 251 53 [some (.inr (.inl 42)), some (.inl x1), some (.inl nt), some (.inl w), some (.inl x4), some (.inl x5), some (.inl (i : Int))] [] u Q := by
  have i1 := hI.1.1
  have i3 := hI.1.2.2.1
  intro j
  induction j with
  | zero =>
    intro i h1 u hu hn
    have e1 : u 42 1 = a 42 1 := congrFun (hu 42 rfl) 1
    refine B251_53 ⟨fun _ => ?_, fun h => absurd h (by omega)⟩
    have := hK u (by rw [show (a 2 3).toNat = i by omega]; exact hu) (fun c hc => hn c (by omega))
    rw [show a 2 3 = (i : Int) by omega] at this
    exact this
  | succ j ih =>
    intro i h1 u hu hn
    have e1 : u 42 1 = a 42 1 := congrFun (hu 42 rfl) 1
    refine B251_53 ⟨fun h => absurd h (by omega), fun _ => ?_⟩
    rw [ht]
    refine m250 hI hL (by omega) hu (fun u' hu' hf => B251_79 ⟨by omega, by omega, ?_⟩)
    rw [Int.toNat_natCast] at hu' ⊢
    rw [show wr ((i : Int) + 1) = ((i + 1 : Nat) : Int) by unfold wr; omega]
    refine ih (i + 1) (by omega) _ (zFr.U hu' rfl _ _) (fun c hc => ?_)
    rw [zU_at]
    dsimp only
    split
    · rename_i e; rw [e]; rfl
    · rw [hf 65 rfl]; exact hn c (by omega)
theorem e_drawn_loop {z nt w R : Int} (hI : zFolk a) (hL : zLaw a) (hw : w = 0 ∨ w = 1) {N : Nat} {t : Int} (hN : wr (nt.tdiv 1000) = N) (ht : wr (nt.tmod 1000) = t) (hN2 : N ≤ 30) (hR : drS a t z w N = R) (hQ : ∀ v s', zSim (zU a 42 42 v) s' → Q (some (.inl R)) s') {x1 : Int} :
    ∀ (j n : Nat) (o : Option zV), n + j = N → ∀ u, zSim (zU a 42 42 (drZ a t z n)) u → zJ x (d + 5) 251 40 [some (.inr (.inl 42)), some (.inl x1), some (.inl nt), some (.inl w), some (.inl (drS a t z w n)), some (.inl (n : Int)), o] [] u Q := by
  have i1 := hI.1.1
  intro j
  induction j with
  | zero =>
    intro n o h1 u hu
    refine B251_40 ⟨fun _ => B251_112 (zQi (hQ _ u hu) ?_), fun h => absurd h (by rw [hN]; omega)⟩
    rw [← hR, show N = n by omega]
  | succ j ih =>
    intro n o h1 u hu
    refine B251_40 ⟨fun h => absurd h (by rw [hN]; omega), fun _ => ?_⟩
    refine e_drawn_in (z := drZ a t z n) hI hL ht (fun u' hu' n1 => B251_86 ?_) (a 2 3).toNat 0 (by omega) u hu (fun c hc => by omega)
    have h2 := fun o => ih (n + 1) o (by omega) u' hu'
    unfold drS at h2
    have hI' := zFolk_z (drwZ a t (drZ a t z n) (a 2 3).toNat) hI
    refine ⟨fun h3 => B251_99 (m220 (a := zU a 42 42 (drwZ a t (drZ a t z n) (a 2 3).toNat)) hI' hu' n1 (B251_103 ?_)), fun h3 => m218 (a := zU a 42 42 (drwZ a t (drZ a t z n) (a 2 3).toNat)) hI' hu' n1 (B251_96 (B251_103 ?_))⟩
    · rw [if_neg h3] at h2
      rw [show wr ((n : Int) + 1) = ((n + 1 : Nat) : Int) by unfold wr; omega, paidAll_z]
      exact h2 _
    · rw [if_pos (Decidable.not_not.mp h3)] at h2
      rw [show wr ((n : Int) + 1) = ((n + 1 : Nat) : Int) by unfold wr; omega]
      exact h2 _
theorem zSim_z0 (h : zSim a s) : zSim (zU a 42 42 (a 42 42)) s := fun q hq => by
  by_cases hq2 : q = 42
  · subst hq2
    rw [h 42 rfl, zU_at]
    funext k
    by_cases hk : k = 42
    · rw [if_pos hk, hk]
    · rw [if_neg hk]
  · rw [zU_ne hq2]; exact h q hq
theorem e_drawn {z nt w : Int} (hI : zFolk a) (hL : zLaw a) (hs : zSim a s) (h : ∀ v s', zSim (zU a 42 42 v) s' → Q (some (.inl (rDrawn a z nt w))) s') : zE x (d + 6) 251 [.inr (.inl 42), .inl z, .inl nt, .inl w] s Q := by
  refine zE_ok (fun _ ht => ?_)
  have hkm : zR nt := ht (.inl nt) (List.mem_of_getElem? (i := 2) rfl)
  unfold zR at hkm
  have bad : ¬ ((0 ≤ nt ∧ 1 ≤ nt / 1000 ∧ nt / 1000 ≤ 30) ∧ (0 ≤ w ∧ w ≤ 1)) → Q (some (.inl (-1))) s := fun e => zQi (h _ s (zSim_z0 hs)) (by unfold rDrawn; rw [if_neg e])
  refine N251 (B251_0 ⟨fun h0 => B251_27 (bad (by omega)), fun h0 => ?_⟩)
  have hp : 0 ≤ nt := by omega
  have ed : wr (nt.tdiv 1000) = nt / 1000 := by rw [Int.tdiv_eq_ediv_of_nonneg hp, wr_id (by unfold zR; omega)]
  rw [ed]
  refine m170 (B251_15 ⟨fun h1 => B251_27 (bad (by omega)), fun h1 => m170 (B251_24 ⟨fun h2 => B251_29 ?_, fun h2 => B251_27 (bad (by omega))⟩)⟩)
  have hg : (0 ≤ nt ∧ 1 ≤ nt / 1000 ∧ nt / 1000 ≤ 30) ∧ (0 ≤ w ∧ w ≤ 1) := by omega
  refine e_drawn_loop (N := (nt / 1000).toNat) (t := nt % 1000) hI hL (by omega) ?_ ?_ (by omega) rfl (fun v s' hs' => zQi (h v s' hs') (if_pos hg)) (nt / 1000).toNat 0 none (by omega) _ (zSim_z (zSim_z0 hs))
  · rw [ed]; omega
  · rw [Int.tmod_eq_emod_of_nonneg hp, wr_id (by unfold zR; omega)]
end ZSheets2
