/-! coming in: by which week (class); the reference's side -/
section ZComing2
variable {x : List Int} {d : Nat} {a s : zSt} {Q : zQ}
theorem m23_loop2 {r : Nat → Int} {m : Nat → Bool} {w R : Int} (hI : zFolk a) (hs : zSim a s) (hm : ∀ k : Nat, k < 60 → s 29 k = if m k then 1 else 0)
    (hQ : ∀ s', zFr [28] s s' → Q (some (.inl R)) s') :
    ∀ (j k : Nat), k + j = 61 → fstF (fun k => wr (w * sumN r (a 2 4).toNat) ≤ wr (12 * wkT a m r k)) j k = R → ∀ (z : Int) u, zFr [28] s u → (k ≤ 60 → z = wkT a m r k ∧ ∀ p : Nat, (p : Int) < a 2 4 → u 28 p = wkR a m r k p) →
      zJ x (d + 3) 23 39 [some (.inr (.inl 6)), some (.inl w), some (.inl (sumN r (a 2 4).toNat)), some (.inl z), some (.inl (k : Int))] [] u Q := by
  intro j
  induction j with
  | zero =>
    intro k h1 h2 z u hu p1
    exact B23_39 ⟨fun _ => B23_90 (zQi (hQ u hu) h2.symm), fun h => absurd h (by omega)⟩
  | succ j ih =>
    intro k h1 h2 z u hu p1
    obtain ⟨p2, p3⟩ := p1 (by omega)
    unfold fstF at h2
    subst p2
    refine B23_39 ⟨fun h => absurd h (by omega), fun _ => ?_⟩
    rw [Int.mul_comm (wkT a m r k) 12, Int.mul_comm (sumN r (a 2 4).toNat) w]
    refine ⟨fun h3 => B23_59 ⟨fun h4 => B23_81 (B23_82 ?_), fun h4 => ⟨by omega, by omega, ?_⟩⟩, fun h3 => zQi (hQ u hu) ?_⟩
    · rw [if_neg (by omega)] at h2
      rw [show wr ((k : Int) + 1) = ((k + 1 : Nat) : Int) by unfold wr; omega]
      exact ih (k + 1) (by omega) h2 _ u hu (fun h => absurd h (by omega))
    · rw [if_neg (by omega)] at h2
      rw [Int.toNat_natCast, hu 29 rfl, hm k (by omega)]
      refine m22 (b := m k) hI (hs.tr (hu.le _ rfl)) rfl p3 (fun u' hu' p4 => B23_78 (B23_82 ?_))
      rw [show wr ((k : Int) + 1) = ((k + 1 : Nat) : Int) by unfold wr; omega]
      exact ih (k + 1) (by omega) h2 _ u' (hu.tr hu') (fun _ => ⟨rfl, p4⟩)
    · rw [if_pos (by omega)] at h2
      exact h2.symm
theorem m23_loop {r : Nat → Int} {w : Int} (hI : zFolk a) (hs : zSim a s) (hr : ∀ p : Nat, (p : Int) < a 2 4 → s 27 p = r p)
    (hK : zJ x (d + 3) 23 39 [some (.inr (.inl 6)), some (.inl w), some (.inl (sumN r (a 2 4).toNat)), some (.inl 0), some (.inl 0)] [] s Q) :
    ∀ (j i : Nat), (i : Int) + j = a 2 4 → zJ x (d + 3) 23 8 [some (.inr (.inl 6)), some (.inl w), some (.inl (sumN r i)), some (.inl (i : Int)), none] [] s Q := by
  have i2 := hI.1.2.1
  intro j
  induction j with
  | zero =>
    intro i h1
    refine B23_8 (m39 hs (B23_16 ⟨fun _ => B23_34 ?_, fun h => absurd h (by omega)⟩))
    rw [show i = (a 2 4).toNat by omega]
    exact hK
  | succ j ih =>
    intro i h1
    refine B23_8 (m39 hs (B23_16 ⟨fun h => absurd h (by omega), fun _ => ⟨by omega, by omega, ?_⟩⟩))
    rw [show wr ((i : Int) + 1) = ((i + 1 : Nat) : Int) by unfold wr; omega, Int.toNat_natCast, hr i (by omega)]
    exact ih (i + 1) (by omega)
theorem c_by {i tx : Int} (hI : zFolk a) (hL : zLaw a) (hV : zShv a) (hs : zSim a s) (h : ∀ s', zSim a s' → Q (some (.inl (rBy a i tx))) s') : zE x (d + 8) 140 [.inr (.inl 0), .inl i, .inl tx] s Q := by
  refine zE_ok (fun _ ht => ?_)
  have hkm : zR tx := ht (.inl tx) (List.mem_of_getElem? (i := 2) rfl)
  unfold zR at hkm
  have i2 := hI.1.2.1
  have bad : ¬ (isSh i ∧ (0 ≤ tx ∧ tx / 100 ≤ 999 ∧ tx % 100 ≤ 12)) → Q (some (.inl (-1))) s := fun e => zQi (h s hs) (by unfold rBy; rw [if_neg e])
  refine N140 (B140_0 (m86 (B140_8 ⟨fun h0 => B140_25 (bad (by omega)), fun h0 => m119 (by decide) (B140_22 ⟨fun h1 => B140_27 ?_, fun h1 => B140_25 (bad (by omega))⟩) (by decide)⟩)))
  have hg : isSh i ∧ (0 ≤ tx ∧ tx / 100 ≤ 999 ∧ tx % 100 ≤ 12) := by omega
  have h := fun s' hs' => zQi (h s' hs') (if_pos hg)
  refine m90 hs hg.1 (B140_36 ⟨fun h2 => B140_43 ?_, fun h2 => zQi (h s hs) ?_⟩)
  · rw [Int.tdiv_eq_ediv_of_nonneg hg.2.1, wr_id (by unfold zR; omega)]
    have hr : a 38 i.toNat ≤ 4 := by unfold refF at h2; omega
    refine m142 hI hL hV hs hg.1 hr (fun s' hs' n1 n2 => B140_52 ?_)
    rw [Int.tmod_eq_emod_of_nonneg hg.2.1, wr_id (by unfold zR; omega)]
    have hs2 : zSim a s' := hs.tr (hs'.le _ rfl)
    refine N23 (B23_0 (m21 hI hs2 n1 (fun s3 h3 n3 => B23_4 ?_)))
    have hs3 : zSim a s3 := hs2.tr (h3.le _ rfl)
    refine m23_loop hI hs3 (r := dueF a (tx / 100)) (fun p hp => by rw [h3 27 rfl]; exact n1 p hp) ?_ (a 2 4).toNat 0 (by omega)
    refine m23_loop2 (m := remF a i.toNat) hI hs3 (fun k hk => by rw [h3 29 rfl]; exact n2 k hk) (R := byF a i.toNat (tx / 100) (tx % 100)) (fun s4 h4 => B140_63 (zQi (h s4 (hs3.tr (h4.le _ rfl))) ?_)) 61 0 (by omega) rfl 0 s3 zFr.rf (fun _ => ⟨rfl, n3⟩)
    rw [if_pos h2]
  · rw [if_neg h2]
/-! the reference -/
theorem m276 {i : Int} (h : Q (some (.inl (if isSh i then 1 else 0))) s) : zE x (d + 2) 276 [.inl i] s Q :=
  N276 (B276_0 (m170 (B276_6 ⟨by omega, h⟩)))
theorem m233 {i sort : Int} (hV : zShv a) (hs : zSim a s) (hi : isSh i) (hsort : 0 ≤ sort ∧ sort ≤ 4) (h : Q (some (.inl (refF a i.toNat sort))) s) : zE x (d + 1) 233 [.inr (.inl 42), .inl i, .inl sort] s Q := by
  have e : s 79 = a 79 := hs 79 rfl
  have hv := hV.2 i.toNat (by omega)
  refine N233 (B233_0 ?_)
  rw [e]
  refine ⟨by omega, by omega, fun h0 => B233_15 ?_, fun h0 => B233_34 (zQi h ?_)⟩
  · rw [e, wr_id (x := -2 - sort) (by unfold zR; omega)]
    refine ⟨by omega, by omega, fun h1 => B233_32 (B233_34 (zQi h ?_)), fun h1 => B233_34 (zQi h ?_)⟩
    · unfold refF; omega
    · unfold refF; omega
  · unfold refF; omega
theorem m234 {i k : Int} (hs : zSim a s) (hi : isSh i) (hk : 0 ≤ k ∧ k < 60) (h : Q (some (.inl (wr (a 81 (i.toNat * 60 + k.toNat))))) s) : zE x (d + 1) 234 [.inr (.inl 42), .inl i, .inl k] s Q := by
  have e : s 81 = a 81 := hs 81 rfl
  have e3 : True → wr (wr (60 * i) + k) = ((i.toNat * 60 + k.toNat : Nat) : Int) := fun _ => by
    rw [wr_id (x := 60 * i) (by unfold zR; omega), wr_id (by unfold zR; omega)]
    omega
  refine N234 (B234_0 ?_)
  rw [e3 trivial, e, Int.toNat_natCast]
  exact ⟨by omega, by omega, h⟩
theorem tldF_false {i : Nat} {w : Int} : ∀ n : Nat, (∀ k, k < n → wr (a 81 (i * 60 + k)) ≠ w) → tldF a i w n = false
  | 0, _ => rfl
  | n + 1, h => by
    show (tldF a i w n || decide (wr (a 81 (i * 60 + n)) = w)) = false
    rw [tldF_false n (fun k hk => h k (by omega)), decide_eq_false (h n (by omega))]
    rfl
theorem tldF_true {i : Nat} {w : Int} {k : Nat} (h : wr (a 81 (i * 60 + k)) = w) : ∀ n : Nat, k < n → tldF a i w n = true
  | 0, hk => by omega
  | n + 1, hk => by
    show (tldF a i w n || decide (wr (a 81 (i * 60 + n)) = w)) = true
    by_cases e : k = n
    · rw [← e, decide_eq_true h, Bool.or_true]
    · rw [tldF_true h n (by omega)]; rfl
theorem m235_loop {i w : Int} (hV : zShv a) (hs : zSim a s) (hi : isSh i) (hr : a 38 i.toNat ≤ 4) (h : Q (some (.inl (if tldF a i.toNat w (a 80 i.toNat).toNat then 1 else 0))) s) :
    ∀ (j n : Nat), (n : Int) + j = a 80 i.toNat → (∀ k, k < n → wr (a 81 (i.toNat * 60 + k)) ≠ w) → zJ x (d + 1) 235 2 [some (.inr (.inl 42)), some (.inl i), some (.inl w), some (.inl (n : Int))] [] s Q := by
  have hv := (hV.2 i.toNat (by omega)).2.2.2 hr
  have e : s 80 = a 80 := hs 80 rfl
  intro j
  induction j with
  | zero =>
    intro n h1 h2
    refine B235_2 ?_
    rw [e]
    refine ⟨by omega, by omega, fun _ => B235_30 ⟨by omega, zQi h ?_⟩, fun h => absurd h (by omega)⟩
    rw [tldF_false _ (fun k hk => h2 k (by omega))]; rfl
  | succ j ih =>
    intro n h1 h2
    refine B235_2 ?_
    rw [e]
    refine ⟨by omega, by omega, fun h => absurd h (by omega), fun _ => m234 hs hi (by omega) (B235_18 ?_)⟩
    rw [Int.toNat_natCast]
    refine ⟨fun h3 => B235_24 ?_, fun h3 => ⟨by omega, zQi h ?_⟩⟩
    · rw [show wr ((n : Int) + 1) = ((n + 1 : Nat) : Int) by unfold wr; omega]
      refine ih (n + 1) (by omega) (fun k hk => ?_)
      by_cases e : k = n
      · rw [e]; exact h3
      · exact h2 k (by omega)
    · rw [tldF_true (Decidable.not_not.mp h3) _ (by omega)]; rfl
theorem m235 {i w : Int} (hV : zShv a) (hs : zSim a s) (hi : isSh i) (hr : a 38 i.toNat ≤ 4) (h : Q (some (.inl (if tldF a i.toNat w (a 80 i.toNat).toNat then 1 else 0))) s) : zE x (d + 2) 235 [.inr (.inl 42), .inl i, .inl w] s Q := by
  have hv := (hV.2 i.toNat (by omega)).2.2.2 hr
  exact N235 (B235_0 (m235_loop hV hs hi hr h (a 80 i.toNat).toNat 0 (by omega) (fun k hk => by omega)))
theorem m236_loop {t : Int} (hI : zFolk a) (hs : zSim a s) (hn : zMow a (lapN a t) s) (hQ : ∀ s', zFr [69] s s' → (∀ p : Nat, (p : Int) < a 2 4 → s' 69 p = dueF a t p) → Q (some (.inl (sumN (dueF a t) (a 2 4).toNat))) s') :
    ∀ (j i : Nat), (i : Int) + j = a 2 4 → ∀ u, zFr [69] s u → (∀ p : Nat, p < i → u 69 p = dueF a t p) → zJ x (d + 3) 236 9 [some (.inr (.inl 42)), some (.inl t), some (.inl (sumN (dueF a t) i)), some (.inl (i : Int))] [] u Q := by
  have i1 := hI.1.1
  have i2 := hI.1.2.1
  have i4 := hI.1.2.2.2
  intro j
  induction j with
  | zero =>
    intro i h1 u hu p1
    have e6 : u 42 6 = a 42 6 := z42 (hs.tr (hu.le _ rfl))
    refine B236_9 ⟨fun _ => B236_54 (zQi (hQ u hu (fun p hp => p1 p (by omega))) ?_), fun h => absurd h (by omega)⟩
    rw [show (a 2 4).toNat = i by omega]
  | succ j ih =>
    intro i h1 u hu p1
    have i7 := hI.2.2 i (by omega)
    have hsu : zSim a u := hs.tr (hu.le _ rfl)
    have e6 : u 42 6 = a 42 6 := z42 hsu
    have e47 : u 47 = a 47 := hsu 47 rfl
    refine B236_9 ⟨fun h => absurd h (by omega), fun _ => ?_⟩
    rw [e47, Int.toNat_natCast, hu 65 rfl, hn (a 47 i).toNat (by omega)]
    refine ⟨by omega, by omega, by omega, by omega, m213 hI hsu (by omega) (B236_38 ?_)⟩
    rw [Int.toNat_natCast, zU_at]
    dsimp only
    rw [if_pos rfl, show wr ((i : Int) + 1) = ((i + 1 : Nat) : Int) by unfold wr; omega]
    refine ⟨by omega, by omega, by omega, by omega, ih (i + 1) (by omega) _ (hu.U rfl _ _) (fun p hp => ?_)⟩
    rw [zU_at]
    dsimp only
    split
    · rename_i e; rw [e]; rfl
    · exact p1 p (by omega)
theorem m236 {t : Int} (hI : zFolk a) (hL : zLaw a) (hs : zSim a s) (hQ : ∀ s', zFr [63, 64, 65, 69] s s' → (∀ p : Nat, (p : Int) < a 2 4 → s' 69 p = dueF a t p) → Q (some (.inl (sumN (dueF a t) (a 2 4).toNat))) s') : zE x (d + 7) 236 [.inr (.inl 42), .inl t] s Q := by
  have i2 := hI.1.2.1
  refine N236 (B236_0 (m217 hI hL hs (fun s1 h1 n1 => B236_5 (m236_loop (d := d + 3) (s := s1) hI (hs.tr (h1.le _ rfl)) n1 (fun s2 h2 n2 => hQ s2 ((h1.le _ rfl).tr (h2.le _ rfl)) n2) (a 2 4).toNat 0 (by omega) s1 zFr.rf (fun p hp => by omega)))))
theorem m237_loop {r : Nat → Int} {b : Bool} {pb : Int} (hI : zFolk a) (hs : zSim a s) (hb : pb = if b then 1 else 0) (hQ : ∀ s', zFr [69] s s' → (∀ p : Nat, (p : Int) < a 2 4 → s' 69 p = wr (r p - amtF a b (r p))) → Q (some (.inl (sumN (fun p => amtF a b (r p)) (a 2 4).toNat))) s') :
    ∀ (j i : Nat) (o : Option zV), (i : Int) + j = a 2 4 → ∀ u, zFr [69] s u → (∀ p : Nat, p < i → u 69 p = wr (r p - amtF a b (r p))) → (∀ p : Nat, i ≤ p → (p : Int) < a 2 4 → u 69 p = r p) →
      zJ x d 237 4 [some (.inr (.inl 42)), some (.inl pb), some (.inl (sumN (fun p => amtF a b (r p)) i)), some (.inl (i : Int)), o] [] u Q := by
  have i2 := hI.1.2.1
  have i4 := hI.1.2.2.2
  intro j
  induction j with
  | zero =>
    intro i o h1 u hu p1 p2
    have e6 : u 42 6 = a 42 6 := z42 (hs.tr (hu.le _ rfl))
    refine B237_4 ⟨fun _ => B237_91 (zQi (hQ u hu (fun p hp => p1 p (by omega))) ?_), fun h => absurd h (by omega)⟩
    rw [show (a 2 4).toNat = i by omega]
  | succ j ih =>
    intro i o h1 u hu p1 p2
    have hsu : zSim a u := hs.tr (hu.le _ rfl)
    have e6 : u 42 6 = a 42 6 := z42 hsu
    have e14 : u 42 14 = a 42 14 := z42 hsu
    have e15 : u 42 15 = a 42 15 := z42 hsu
    have q2 := p2 i (Nat.le_refl i) (by omega)
    have fin : ∀ v : Int, v = amtF a b (r i) → zJ x d 237 69 [some (.inr (.inl 42)), some (.inl pb), some (.inl (sumN (fun p => amtF a b (r p)) i)), some (.inl (i : Int)), some (.inl v)] [] u Q := by
      intro v hv
      subst hv
      refine B237_69 ?_
      rw [Int.toNat_natCast, q2, show wr ((i : Int) + 1) = ((i + 1 : Nat) : Int) by unfold wr; omega]
      refine ⟨by omega, by omega, by omega, by omega, ih (i + 1) _ (by omega) _ (hu.U rfl _ _) (fun p hp => ?_) (fun p hp hp2 => ?_)⟩
      · rw [zU_at]
        dsimp only
        split
        · rename_i e; rw [e]
        · exact p1 p (by omega)
      · rw [zU_at]
        dsimp only
        rw [if_neg (by omega)]
        exact p2 p (by omega) hp2
    have fin2 : ∀ v : Int, v = wr ((if b then a 42 15 else 1) * max 1 (wr ((wr (r i * a 42 14)).tdiv 12))) → zJ x d 237 50 [some (.inr (.inl 42)), some (.inl pb), some (.inl (sumN (fun p => amtF a b (r p)) i)), some (.inl (i : Int)), some (.inl v)] [] u Q := by
      intro v hv
      refine B237_50 ?_
      rw [Int.toNat_natCast, q2]
      refine ⟨by omega, by omega, fun h4 => fin v ?_, fun h4 => ⟨by omega, by omega, fin (r i) ?_⟩⟩
      · unfold amtF; rw [← hv]; omega
      · unfold amtF; rw [← hv]; omega
    have fin3 : ∀ v : Int, v = max 1 (wr ((wr (r i * a 42 14)).tdiv 12)) → zJ x d 237 37 [some (.inr (.inl 42)), some (.inl pb), some (.inl (sumN (fun p => amtF a b (r p)) i)), some (.inl (i : Int)), some (.inl v)] [] u Q := by
      intro v hv
      have hv2 : zR v := by
        have := wr_R ((wr (r i * a 42 14)).tdiv 12)
        unfold zR at this ⊢
        omega
      refine B237_37 ⟨fun h5 => fin2 v ?_, fun h5 => fin2 _ ?_⟩
      · cases b with
        | false => rw [← hv]; show v = wr (1 * v); rw [Int.one_mul, wr_id hv2]
        | true => rw [if_pos rfl] at hb; omega
      · cases b with
        | false => rw [if_neg (by decide)] at hb; omega
        | true => rw [e15, ← hv, Int.mul_comm]; rfl
    refine B237_4 ⟨fun h => absurd h (by omega), fun _ => ?_⟩
    rw [Int.toNat_natCast, q2, e14]
    refine ⟨by omega, by omega, fun h4 => fin3 _ ?_, fun h4 => fin3 _ ?_⟩
    · omega
    · omega
theorem m237 {r : Nat → Int} {b : Bool} {pb : Int} (hI : zFolk a) (hs : zSim a s) (hb : pb = if b then 1 else 0) (hr : ∀ p : Nat, (p : Int) < a 2 4 → s 69 p = r p) (hQ : ∀ s', zFr [69] s s' → (∀ p : Nat, (p : Int) < a 2 4 → s' 69 p = wr (r p - amtF a b (r p))) → Q (some (.inl (sumN (fun p => amtF a b (r p)) (a 2 4).toNat))) s') : zE x (d + 1) 237 [.inr (.inl 42), .inl pb] s Q := by
  have i2 := hI.1.2.1
  exact N237 (B237_0 (m237_loop hI hs hb hQ (a 2 4).toNat 0 none (by omega) s zFr.rf (fun p hp => by omega) (fun p _ hp => hr p hp)))
theorem m238_loop {i t e : Int} {w : Nat} (hI : zFolk a) (hV : zShv a) (hs : zSim a s) (hi : isSh i) (hr : a 38 i.toNat ≤ 4) (hw : w ≤ 100)
    (hQ : ∀ s', zFr [69] s s' → Q (some (.inl (cmeF a i.toNat t e w))) s') :
    ∀ (j k : Nat), k + j = w → ∀ u, zFr [69] s u → (∀ p : Nat, (p : Int) < a 2 4 → u 69 p = wkR a (remX a i.toNat e) (dueF a t) k p) →
      zJ x (d + 3) 238 12 [some (.inr (.inl 42)), some (.inl i), some (.inl t), some (.inl (w : Int)), some (.inl e), some (.inl (cmeF a i.toNat t e k)), some (.inl (k : Int))] [] u Q := by
  intro j
  induction j with
  | zero =>
    intro k h1 u hu p1
    refine B238_12 ⟨fun _ => B238_55 (zQi (hQ u hu) ?_), fun h => absurd h (by omega)⟩
    rw [show w = k by omega]
  | succ j ih =>
    intro k h1 u hu p1
    have hsu : zSim a u := hs.tr (hu.le _ rfl)
    have go : ∀ pb : Int, pb = (if remX a i.toNat e k then 1 else 0) → zJ x (d + 3) 238 43 [some (.inr (.inl 42)), some (.inl i), some (.inl t), some (.inl (w : Int)), some (.inl e), some (.inl (cmeF a i.toNat t e k)), some (.inl (k : Int))] [.inl pb, .inr (.inl 42), .inl (cmeF a i.toNat t e k)] u Q := by
      intro pb hpb
      refine B238_43 (m237 (b := remX a i.toNat e k) hI hsu hpb p1 (fun u' hu' p2 => B238_46 ?_))
      rw [show wr ((k : Int) + 1) = ((k + 1 : Nat) : Int) by unfold wr; omega]
      exact ih (k + 1) (by omega) u' (hu.tr hu') p2
    refine B238_12 ⟨fun h => absurd h (by omega), fun _ => ⟨fun h0 => B238_38 (go 1 ?_), fun h0 => m235 hV hsu hi hr (B238_35 ⟨fun h1 => B238_42 (go 0 ?_), fun h1 => B238_38 (go 1 ?_)⟩)⟩⟩
    · unfold remX; rw [decide_eq_true h0, Bool.or_true]; rfl
    · unfold remX remF
      rw [decide_eq_false h0, Bool.or_false]
      cases hc : tldF a i.toNat (k : Int) (a 80 i.toNat).toNat with
      | false => rfl
      | true => rw [hc] at h1; exact absurd h1 (by decide)
    · unfold remX remF
      rw [decide_eq_false h0, Bool.or_false]
      cases hc : tldF a i.toNat (k : Int) (a 80 i.toNat).toNat with
      | true => rfl
      | false => rw [hc] at h1; exact absurd rfl h1
theorem m238 {i t e : Int} {w : Nat} (hI : zFolk a) (hL : zLaw a) (hV : zShv a) (hs : zSim a s) (hi : isSh i) (hr : a 38 i.toNat ≤ 4) (hw : w ≤ 100)
    (hQ : ∀ s', zFr [63, 64, 65, 69] s s' → Q (some (.inl (cmeF a i.toNat t e w))) s') : zE x (d + 8) 238 [.inr (.inl 42), .inl i, .inl t, .inl (w : Int), .inl e] s Q := by
  refine N238 (B238_0 (m236 hI hL hs (fun s1 h1 n1 => B238_5 (m238_loop (d := d + 4) (s := s1) hI hV (hs.tr (h1.le _ rfl)) hi hr hw (fun s2 h2 => hQ s2 (h1.tr (h2.le _ rfl))) w 0 (by omega) s1 zFr.rf n1))))
theorem m239 {tw : Int} (h : Q (some (.inl (if isTw tw then 1 else 0))) s) : zE x (d + 3) 239 [.inl tw] s Q := by
  refine zE_ok (fun _ ht => ?_)
  have hkm : zR tw := ht (.inl tw) (List.mem_of_getElem? (i := 0) rfl)
  unfold zR at hkm
  refine N239 (B239_0 ⟨fun h0 => B239_27 (B239_28 ⟨by omega, zQi h ?_⟩), fun h0 => ?_⟩)
  · omega
  · rw [Int.tdiv_eq_ediv_of_nonneg (by omega), wr_id (by unfold zR; omega)]
    refine m207 (B239_11 ⟨fun h1 => B239_27 (B239_28 ⟨by omega, zQi h ?_⟩), fun h1 => ?_⟩)
    · omega
    · rw [Int.tmod_eq_emod_of_nonneg (by omega), wr_id (by unfold zR; omega)]
      refine ⟨fun h2 => B239_27 (B239_28 ⟨by omega, zQi h ?_⟩), fun h2 => B239_28 ⟨by omega, zQi h ?_⟩⟩
      · omega
      · omega
theorem e_comes {i tw : Int} (hI : zFolk a) (hL : zLaw a) (hV : zShv a) (hs : zSim a s) (h : ∀ s', zSim a s' → Q (some (.inl (rComes a i tw))) s') : zE x (d + 9) 240 [.inr (.inl 42), .inl i, .inl tw] s Q := by
  have bad : ¬ (isSh i ∧ isTw tw) → Q (some (.inl (-1))) s := fun e => zQi (h s hs) (by unfold rComes; rw [if_neg e])
  refine N240 (B240_0 (m276 (B240_4 ⟨fun h0 => B240_14 (bad (by omega)), fun h0 => m239 (B240_11 ⟨fun h1 => B240_16 ?_, fun h1 => B240_14 (bad (by omega))⟩)⟩)))
  have hg : isSh i ∧ isTw tw := by omega
  have h := fun s' hs' => zQi (h s' hs') (if_pos hg)
  refine m233 hV hs hg.1 (by omega) (B240_22 ⟨fun h2 => B240_31 ?_, fun h2 => B240_45 (zQi (h s hs) ?_)⟩)
  · have h3 : refF a i.toNat 0 = 0 := by unfold refF at h2 ⊢; omega
    rw [Int.tdiv_eq_ediv_of_nonneg hg.2.1, wr_id (by unfold zR; omega), Int.tmod_eq_emod_of_nonneg hg.2.1, wr_id (by unfold zR; omega), show tw % 100 = (((tw % 100).toNat : Nat) : Int) by omega]
    have hr : a 38 i.toNat ≤ 4 := by unfold refF at h3; omega
    refine m238 hI hL hV hs hg.1 hr (by omega) (fun s' hs' => B240_45 (zQi (h s' (hs.tr (hs'.le _ rfl))) ?_))
    rw [if_pos h3]
  · rw [if_neg (by omega)]
theorem e_by_loop {i w R t : Int} {x3 : Int} {x2 : Int} (hI : zFolk a) (hV : zShv a) (hs : zSim a s) (hi : isSh i) (hr : a 38 i.toNat ≤ 4) (hw : wr (x2.tmod 100) = w)
    (hQ : ∀ s', zFr [69] s s' → Q (some (.inl R)) s') :
    ∀ (j k : Nat), k + j = 61 → fstF (fun k => wr (w * sumN (dueF a t) (a 2 4).toNat) ≤ wr (12 * wkT a (remF a i.toNat) (dueF a t) k)) j k = R → ∀ u, zFr [69] s u → (∀ p : Nat, (p : Int) < a 2 4 → u 69 p = wkR a (remF a i.toNat) (dueF a t) k p) →
      zJ x (d + 3) 241 54 [some (.inr (.inl 42)), some (.inl i), some (.inl x2), some (.inl x3), some (.inl (sumN (dueF a t) (a 2 4).toNat)), some (.inl (wkT a (remF a i.toNat) (dueF a t) k)), some (.inl (k : Int))] [] u Q := by
  intro j
  induction j with
  | zero =>
    intro k h1 h2 u hu p1
    exact B241_54 ⟨fun _ => B241_101 (zQi (hQ u hu) h2.symm), fun h => absurd h (by omega)⟩
  | succ j ih =>
    intro k h1 h2 u hu p1
    have hsu : zSim a u := hs.tr (hu.le _ rfl)
    unfold fstF at h2
    refine B241_54 ⟨fun h => absurd h (by omega), fun _ => ?_⟩
    rw [hw]
    refine ⟨fun h3 => B241_79 (m235 hV hsu hi hr (B241_89 (m237 (b := remF a i.toNat k) hI hsu rfl p1 (fun u' hu' p4 => B241_92 ?_)))), fun h3 => zQi (hQ u hu) ?_⟩
    · rw [if_neg (by omega)] at h2
      rw [show wr ((k : Int) + 1) = ((k + 1 : Nat) : Int) by unfold wr; omega]
      exact ih (k + 1) (by omega) h2 u' (hu.tr hu') p4
    · rw [if_pos (by omega)] at h2
      exact h2.symm
theorem e_by {i tx : Int} (hI : zFolk a) (hL : zLaw a) (hV : zShv a) (hs : zSim a s) (h : ∀ s', zSim a s' → Q (some (.inl (rBy a i tx))) s') : zE x (d + 8) 241 [.inr (.inl 42), .inl i, .inl tx] s Q := by
  have bad : ¬ (isSh i ∧ (0 ≤ tx ∧ tx / 100 ≤ 999 ∧ tx % 100 ≤ 12)) → Q (some (.inl (-1))) s := fun e => zQi (h s hs) (by unfold rBy; rw [if_neg e])
  refine zE_ok (fun _ ht => ?_)
  have hkm : zR tx := ht (.inl tx) (List.mem_of_getElem? (i := 2) rfl)
  unfold zR at hkm
  refine N241 (B241_0 (m276 (B241_4 ⟨fun h0 => B241_23 (bad (by omega)), fun h0 => m239 (B241_11 ⟨fun h1 => B241_23 (bad (by omega)), fun h1 => ?_⟩)⟩)))
  have hp : 0 ≤ tx := by omega
  have ew : wr (tx.tmod 100) = tx % 100 := by rw [Int.tmod_eq_emod_of_nonneg hp, wr_id (by unfold zR; omega)]
  rw [ew]
  refine ⟨fun h4 => B241_25 ?_, fun h4 => B241_23 (bad (by omega))⟩
  have hg : isSh i ∧ (0 ≤ tx ∧ tx / 100 ≤ 999 ∧ tx % 100 ≤ 12) := by omega
  have h := fun s' hs' => zQi (h s' hs') (if_pos hg)
  refine m233 hV hs hg.1 (by omega) (B241_31 ⟨fun h2 => B241_38 ?_, fun h2 => zQi (h s hs) ?_⟩)
  · have h3 : refF a i.toNat 0 = 0 := by unfold refF at h2 ⊢; omega
    rw [Int.tdiv_eq_ediv_of_nonneg hp, wr_id (by unfold zR; omega)]
    have hr : a 38 i.toNat ≤ 4 := by unfold refF at h3; omega
    refine m236 hI hL hs (fun s1 h1 n1 => B241_46 ?_)
    have hs1 : zSim a s1 := hs.tr (h1.le _ rfl)
    refine e_by_loop (d := d + 4) hI hV hs1 hg.1 hr ew (R := byF a i.toNat (tx / 100) (tx % 100)) (fun s2 h2 => zQi (h s2 (hs1.tr (h2.le _ rfl))) ?_) 61 0 (by omega) rfl s1 zFr.rf n1
    rw [if_pos h3]
  · rw [if_neg (by omega)]
theorem e_remind_loop {i tw v x4 : Int} (hI : zFolk a) (hL : zLaw a) (hV : zShv a) (hs : zSim a s) (hg : isSh i ∧ isTw tw ∧ (0 ≤ v ∧ v ≤ 1)) (hkm : tw ≤ 1000000) (hr : a 38 i.toNat ≤ 4) (h3 : refF a i.toNat 0 = 0) (h : ∀ s', zSim a s' → Q (some (.inl (rRemind a i tw v))) s') :
    ∀ (j k : Nat) (o : Option zV), k + j = (tw % 100).toNat → ∀ (y z : Int), y = (bstF a i.toNat (tw / 100) (tw % 100).toNat).1 ∨ True → (y, z) = (if k = 0 then (-2, -2) else topF (fun k => cmeF a i.toNat (tw / 100) k (tw % 100).toNat) (-1) k) → ∀ u, zFr [63, 64, 65, 69] s u →
      zJ x (d + 8) 242 52 [some (.inr (.inl 42)), some (.inl i), some (.inl tw), some (.inl v), some (.inl x4), some (.inl y), some (.inl z), some (.inl (k : Int)), o] [] u Q := by
  have ew : wr (tw.tmod 100) = (((tw % 100).toNat : Nat) : Int) := by rw [Int.tmod_eq_emod_of_nonneg hg.2.1.1, wr_id (by unfold zR; omega)]; omega
  have ed : wr (tw.tdiv 100) = tw / 100 := by rw [Int.tdiv_eq_ediv_of_nonneg hg.2.1.1, wr_id (by unfold zR; omega)]
  have hR := dueF_R hI (tw / 100)
  have hpos : ∀ k : Nat, 0 ≤ cmeF a i.toNat (tw / 100) k (tw % 100).toNat := fun k => (wkT_P hI _ hR _ (by omega)).1
  intro j
  induction j with
  | zero =>
    intro k o h1 y z _ hyz u hu
    have hsu : zSim a u := hs.tr (hu.le _ rfl)
    have hfin := zQi (h u hsu) (if_pos hg)
    rw [if_pos h3] at hfin
    refine B242_52 ⟨fun _ => B242_107 ⟨fun h5 => B242_116 (B242_118 (zQi hfin ?_)), fun h5 => B242_118 (zQi hfin ?_)⟩, fun h => absurd h (by rw [ew]; omega)⟩
    · by_cases hk : k = 0
      · rw [if_pos hk] at hyz
        cases hyz
        rw [if_pos (by omega)]
      · rw [if_neg hk] at hyz
        rw [if_neg (by omega), if_neg h5]
        unfold bstF
        rw [show (tw % 100).toNat = k by omega]
        rw [show (tw % 100).toNat = k by omega] at hyz
        rw [← hyz]
    · by_cases hk : k = 0
      · rw [if_pos hk] at hyz
        cases hyz
        rw [if_pos (by omega)]
      · rw [if_neg hk] at hyz
        rw [if_neg (by omega), if_pos (Decidable.not_not.mp h5)]
        unfold bstF
        rw [show (tw % 100).toNat = k by omega]
        rw [show (tw % 100).toNat = k by omega] at hyz
        rw [← hyz]
  | succ j ih =>
    intro k o h1 y z _ hyz u hu
    have hsu : zSim a u := hs.tr (hu.le _ rfl)
    refine B242_52 ⟨fun h => absurd h (by rw [ew]; omega), fun _ => ?_⟩
    rw [ew, ed]
    refine m238 hI hL hV hsu hg.1 hr (by omega) (fun u' hu' => B242_76 ?_)
    have hu2 := hu.tr hu'
    have e2 : True → wr ((k : Int) + 1) = ((k + 1 : Nat) : Int) := fun _ => by unfold wr; omega
    have htop := topF_in (fun k => cmeF a i.toNat (tw / 100) k (tw % 100).toNat) (-1) k
    have hp := hpos k
    have take : (topF (fun k => cmeF a i.toNat (tw / 100) k (tw % 100).toNat) (-1) k).2 < cmeF a i.toNat (tw / 100) k (tw % 100).toNat → zJ x (d + 8) 242 93 [some (.inr (.inl 42)), some (.inl i), some (.inl tw), some (.inl v), some (.inl x4), some (.inl y), some (.inl z), some (.inl (k : Int)), some (.inl (cmeF a i.toNat (tw / 100) k (tw % 100).toNat))] [] u' Q := by
      intro hlt
      refine B242_93 (B242_101 ?_)
      rw [e2 trivial]
      refine ih (k + 1) _ (by omega) _ _ (Or.inr trivial) ?_ u' hu2
      rw [if_neg (by omega)]
      unfold topF
      rw [if_pos hlt]
    have keep : ¬ (topF (fun k => cmeF a i.toNat (tw / 100) k (tw % 100).toNat) (-1) k).2 < cmeF a i.toNat (tw / 100) k (tw % 100).toNat → (y, z) = topF (fun k => cmeF a i.toNat (tw / 100) k (tw % 100).toNat) (-1) k → zJ x (d + 8) 242 101 [some (.inr (.inl 42)), some (.inl i), some (.inl tw), some (.inl v), some (.inl x4), some (.inl y), some (.inl z), some (.inl (k : Int)), some (.inl (cmeF a i.toNat (tw / 100) k (tw % 100).toNat))] [] u' Q := by
      intro hlt e
      refine B242_101 ?_
      rw [e2 trivial]
      refine ih (k + 1) _ (by omega) _ _ (Or.inr trivial) ?_ u' hu2
      rw [if_neg (by omega)]
      unfold topF
      rw [if_neg hlt]
      exact e
    by_cases hk : k = 0
    · rw [if_pos hk] at hyz
      have hy : y = -2 := congrArg Prod.fst hyz
      have hz : z = -2 := congrArg Prod.snd hyz
      refine ⟨fun _ => take ?_, fun h => absurd h (by omega)⟩
      subst hk
      show (-1 : Int) < _
      omega
    · rw [if_neg hk] at hyz
      have hy : y = (topF (fun k => cmeF a i.toNat (tw / 100) k (tw % 100).toNat) (-1) k).1 := congrArg Prod.fst hyz
      have hz : z = (topF (fun k => cmeF a i.toNat (tw / 100) k (tw % 100).toNat) (-1) k).2 := congrArg Prod.snd hyz
      have hhit := topF_hit (f := fun k => cmeF a i.toNat (tw / 100) k (tw % 100).toNat) (hpos 0) k (by omega)
      refine ⟨fun h => absurd h (by omega), fun _ => ⟨fun h6 => take (by omega), fun h6 => keep (by omega) hyz⟩⟩
theorem e_remind {i tw v : Int} (hI : zFolk a) (hL : zLaw a) (hV : zShv a) (hs : zSim a s) (h : ∀ s', zSim a s' → Q (some (.inl (rRemind a i tw v))) s') : zE x (d + 9) 242 [.inr (.inl 42), .inl i, .inl tw, .inl v] s Q := by
  have bad : ¬ (isSh i ∧ isTw tw ∧ (0 ≤ v ∧ v ≤ 1)) → Q (some (.inl (-1))) s := fun e => zQi (h s hs) (by unfold rRemind; rw [if_neg e])
  refine N242 (B242_0 (m276 (B242_4 ⟨fun h0 => B242_23 (bad (by omega)), fun h0 => m239 (B242_11 ⟨fun h1 => B242_23 (bad (by omega)), fun h1 => m170 (B242_20 ⟨fun h2 => B242_25 ?_, fun h2 => B242_23 (bad (by omega))⟩)⟩)⟩)))
  have hg : isSh i ∧ isTw tw ∧ (0 ≤ v ∧ v ≤ 1) := by omega
  refine m233 hV hs hg.1 (by omega) (B242_31 ⟨fun h2 => B242_41 ?_, fun h2 => zQi (h s hs) ?_⟩)
  · have h3 : refF a i.toNat 0 = 0 := by unfold refF at h2 ⊢; omega
    have hr : a 38 i.toNat ≤ 4 := by unfold refF at h3; omega
    exact e_remind_loop hI hL hV hs hg (by omega) hr h3 h (tw % 100).toNat 0 none (by omega) (-2) (-2) (Or.inr trivial) rfl s zFr.rf
  · unfold rRemind
    rw [if_pos hg, if_neg (by omega)]
end ZComing2
