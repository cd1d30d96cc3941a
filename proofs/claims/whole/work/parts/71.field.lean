/-! who runs how long while the field is free: the class -/
abbrev zSim5 (a s : zSt) : Prop := zFr (25 :: zScL) a s
def zWor (a : zSt) (m : Int) (s : zSt) (c : Nat) : Prop := ∀ k : Nat, k ≤ lapsBy a c m → s 24 (c * 100 + k) = paidTo a c k * 512 - endF a c k
def zBst (a : zSt) (m : Int) (s : zSt) : Prop := ∀ c r : Nat, ((c + r : Nat) : Int) = a 2 3 → (c = 0 → s 25 m.toNat = fldV a r 0 m) ∧ (1 ≤ c → ∀ l : Nat, (l : Int) ≤ m → s 25 (c * 301 + l) = fldV a r c l)
theorem zSim5.b {a s : zSt} (hs : zSim5 a s) : zSim (zF a 25 (s 25)) s := fun q hq => by
  by_cases e : q = 25
  · rw [e, zF_at]
  · rw [zF_ne e]
    refine hs q ?_
    rw [List.contains_cons, hq, Bool.or_false]
    exact beq_false_of_ne e
theorem paidF_25 {a : zSt} {f : Nat → Int} {c n : Int} : ∀ k, paidF (zF a 25 f) c n k = paidF a c n k
  | 0 => rfl
  | k + 1 => by
    show (if a 47 k = c then wr (paidF (zF a 25 f) c n k + paysF a k n) else paidF (zF a 25 f) c n k) = (if a 47 k = c then wr (paidF a c n k + paysF a k n) else paidF a c n k)
    rw [paidF_25 k]
theorem paidTo_25 {a : zSt} {f : Nat → Int} {c n : Int} : paidTo (zF a 25 f) c n = paidTo a c n := paidF_25 (a 42 6).toNat
section ZField
variable {x : List Int} {d : Nat} {a s : zSt} {Q : zQ}
theorem m38_5 (hs : zSim5 a s) (h : Q (some (.inl (a 2 3))) s) : zE x (d + 1) 38 [.inr (.inl 2)] s Q := m38 hs.b h
theorem m40_5 {n : Int} (hs : zSim5 a s) (h : Q (some (.inl (if 0 ≤ n ∧ n < a 2 3 then 1 else 0))) s) : zE x (d + 1) 40 [.inr (.inl 2), .inl n] s Q := m40 hs.b h
theorem zFolk_25 {f : Nat → Int} (hI : zFolk a) : zFolk (zF a 25 f) := hI
theorem m57_5 {c n : Int} (hI : zFolk a) (hs : zSim5 a s) (h : Q (some (.inl (paidTo a c n))) s) : zE x (d + 5) 57 [.inr (.inl 2), .inl c, .inl n] s Q := m57 (zFolk_25 hI) hs.b (by rw [paidTo_25]; exact h)
theorem m106_5 {t : Int} {c : Nat} (hI : zFolk a) (hs : zSim5 a s) (hn : zEnds a t s) (hc : (c : Int) < a 2 3) (h : Q (some (.inl (lapsBy a c t))) s) : zE x (d + 2) 106 [.inr (.inl 4), .inl c] s Q := by
  have i1 := hI.1.1
  refine N106 (B106_0 (m40_5 hs (B106_8 ⟨fun h => absurd h (by omega), fun _ => ⟨by omega, by omega, B106_21 (zQi h ?_)⟩⟩)))
  rw [Int.toNat_natCast]
  exact (hn c hc).1.symm
theorem m107_5 {c k : Nat} (hI : zFolk a) (hs : zSim5 a s) (hc : (c : Int) < a 2 3) (hk : k ≤ 99) (h : Q (some (.inl (s 22 (c * 100 + k)))) s) : zE x (d + 2) 107 [.inr (.inl 4), .inl c, .inl k] s Q := by
  have i1 := hI.1.1
  have e3 : wr (wr ((c : Int) * 100) + (k : Int)) = ((c * 100 + k : Nat) : Int) := by
    rw [wr_id (x := (c : Int) * 100) (by unfold zR; omega), wr_id (by unfold zR; omega)]
    omega
  refine N107 (B107_0 (m40_5 hs (B107_8 ⟨fun h => absurd h (by omega), fun _ => m118 (B107_18 ⟨fun h => absurd h (by omega), fun _ => ?_⟩)⟩)))
  rw [e3, Int.toNat_natCast]
  exact ⟨by omega, by omega, B107_36 h⟩
theorem m79 {m : Int} {c : Nat} (hI : zFolk a) (hs : zSim5 a s) (he : zEnds a m s) (hc : (c : Int) < a 2 3) (hQ : ∀ s', zFr [24] s s' → zWor a m s' c → (∀ j, j < c * 100 ∨ c * 100 + 100 ≤ j → s' 24 j = s 24 j) → Q none s') : zE x (d + 6) 79 [.inr (.inl 5), .inl c] s Q := by
  have i1 := hI.1.1
  have h99 := lapsBy_99 hI hc m
  have loop : ∀ (j k : Nat) (u : zSt), k + j = lapsBy a c m + 1 → zFr [24] s u → (∀ k' : Nat, k' < k → u 24 (c * 100 + k') = paidTo a c k' * 512 - endF a c k') → (∀ j, j < c * 100 ∨ c * 100 + 100 ≤ j → u 24 j = s 24 j) → zJ x (d + 5) 79 2 [some (.inr (.inl 5)), some (.inl (c : Int)), some (.inl (k : Int))] [] u Q := by
    intro j
    induction j with
    | zero =>
      intro k u hk hu h1 h2
      exact B79_2 (m106_5 hI (hs.tr (hu.le _ rfl)) (he.fr hu rfl rfl) hc (B79_11 ⟨fun _ => B79_54 (hQ u hu (fun k' hk' => h1 k' (by omega)) h2), fun e => absurd e (by omega)⟩))
    | succ j ih =>
      intro k u hk hu h1 h2
      have hs2 := hs.tr (hu.le _ rfl)
      have he2 := he.fr hu rfl rfl
      have hp := paidTo_P hI (c := (c : Int)) (n := (k : Int)) (by omega)
      have h5 := endF_pos a c k
      have e22 : u 22 (c * 100 + k) = endF a c k := (he2 c hc).2 k (by omega)
      have e3 : True → wr (wr ((c : Int) * 100) + (k : Int)) = ((c * 100 + k : Nat) : Int) := fun _ => by
        rw [wr_id (x := (c : Int) * 100) (by unfold zR; omega), wr_id (by unfold zR; omega)]
        omega
      refine B79_2 (m106_5 hI hs2 he2 hc (B79_11 ⟨fun e => absurd e (by omega), fun _ => m57_5 hI hs2 (B79_33 (m107_5 hI hs2 hc (by omega) (B79_46 ?_)))⟩))
      rw [e3 trivial, Int.toNat_natCast, e22, wr_id (x := paidTo a c k * 512) (by unfold zR; omega), wr_id (x := paidTo a c k * 512 - endF a c k) (by unfold zR; omega), show wr ((k : Int) + 1) = ((k + 1 : Nat) : Int) by rw [wr_id (by unfold zR; omega)]; omega]
      refine ⟨by omega, by omega, ih (k + 1) _ (by omega) (hu.U rfl _ _) (fun k' hk' => ?_) (fun j hj => ?_)⟩
      · rw [zU_at]
        dsimp only
        by_cases e : k' = k
        · rw [if_pos (by omega), e]
        · rw [if_neg (by omega)]
          exact h1 k' (by omega)
      · rw [zU_at]
        dsimp only
        rw [if_neg (by omega)]
        exact h2 j hj
  exact N79 (B79_0 (loop (lapsBy a c m + 1) 0 s (by omega) zFr.rf (fun k' hk' => absurd hk' (by omega)) (fun _ _ => rfl)))
theorem z_val {m left : Int} {c r n : Nat} (hI : zFolk a) (hw : zWor a m s c) (hl : 0 ≤ left ∧ left ≤ m) (hm : m ≤ 300) (hb : ∀ l : Nat, (l : Int) ≤ left → s 25 ((c + 1) * 301 + l) = fldV a r (c + 1) l) (hr : ((c + (r + 1) : Nat) : Int) = a 2 3) (hn : n ≤ lapsBy a c left) : wr (s 24 (c * 100 + n) + s 25 ((c + 1) * 301 + (left - endF a c n).toNat)) = candF a c (fldV a r (c + 1)) left n := by
  have k := cand_R hI hr hl.1 (by omega) hn
  have k2 := lapsBy_mono (a := a) (c := c) hl.1 hl.2
  rw [hw n (by omega), hb _ (by omega), show (((left - endF a c n).toNat : Nat) : Int) = left - endF a c n by omega]
  have e : candF a c (fldV a r (c + 1)) left n = paidTo a c n * 512 - endF a c n + fldV a r (c + 1) (left - endF a c n) := rfl
  rw [e] at k
  rw [wr_id (by unfold zR; omega)]
  rfl
theorem m80 {m left : Int} {c r : Nat} (hI : zFolk a) (hs : zSim5 a s) (he : zEnds a m s) (hw : zWor a m s c) (hl : 0 ≤ left ∧ left ≤ m) (hm : m ≤ 300) (hb : ∀ l : Nat, (l : Int) ≤ left → s 25 ((c + 1) * 301 + l) = fldV a r (c + 1) l) (hr : ((c + (r + 1) : Nat) : Int) = a 2 3) (h : Q (some (.inl (fldV a (r + 1) c left))) s) : zE x (d + 3) 80 [.inr (.inl 5), .inl c, .inl left] s Q := by
  have i1 := hI.1.1
  have hc : (c : Int) < a 2 3 := by omega
  have hM := lapsBy_99 hI hc m
  have hmono := lapsBy_mono (a := a) (c := c) hl.1 hl.2
  have hz : endF a c 0 = 0 := rfl
  have e5 : True → wr ((c : Int) * 100) = ((c * 100 : Nat) : Int) := fun _ => by
    rw [wr_id (by unfold zR; omega)]
    omega
  have e6 : True → wr (wr (wr ((c : Int) + 1) * 301) + left) = (c : Int) * 301 + 301 + left := fun _ => by
    rw [wr_id (x := (c : Int) + 1) (by unfold zR; omega), wr_id (x := ((c : Int) + 1) * 301) (by unfold zR; omega), wr_id (by unfold zR; omega)]
    omega
  have loop : ∀ (j k : Nat), k + j = lapsBy a c left → zJ x (d + 2) 80 55 [some (.inr (.inl 5)), some (.inl (c : Int)), some (.inl left), some (.inr (.inl 22)), some (.inl (lapsBy a c m : Int)), some (.inl ((c * 100 : Nat) : Int)), some (.inl ((c : Int) * 301 + 301 + left)), some (.inl (maxN (candF a c (fldV a r (c + 1)) left) k)), some (.inl ((k + 1 : Nat) : Int))] [] s Q := by
    intro j
    induction j with
    | zero =>
      intro k hk
      have out : Q (some (.inl (maxN (candF a c (fldV a r (c + 1)) left) k))) s := by
        have e : fldV a (r + 1) c left = maxN (candF a c (fldV a r (c + 1)) left) (lapsBy a c left) := rfl
        rw [e, ← hk] at h
        exact h
      have e8 : True → wr (((c * 100 : Nat) : Int) + ((k + 1 : Nat) : Int)) = ((c * 100 + (k + 1) : Nat) : Int) := fun _ => by
        rw [wr_id (by unfold zR; omega)]
        omega
      refine B80_55 ⟨fun _ => B80_112 out, fun e => ?_⟩
      rw [e8 trivial, Int.toNat_natCast]
      refine ⟨by omega, by omega, fun _ => B80_112 out, fun e2 => ?_⟩
      have g1 := (he c hc).2 (k + 1) (by omega)
      have g2 := (lapsBy_spec a c left hl.1).2.2 (by omega)
      rw [g1] at e2
      exact absurd g2 (by rw [← hk]; exact e2)
    | succ j ih =>
      intro k hk
      have e8 : True → wr (((c * 100 : Nat) : Int) + ((k + 1 : Nat) : Int)) = ((c * 100 + (k + 1) : Nat) : Int) := fun _ => by
        rw [wr_id (by unfold zR; omega)]
        omega
      have g1 := (he c hc).2 (k + 1) (by omega)
      have g2 := lapsBy_fit (a := a) (c := c) (n := k + 1) hl.1 (by omega)
      have g3 := endF_pos a c (k + 1)
      have e9 : True → wr ((c : Int) * 301 + 301 + left - endF a c (k + 1)) = (((c + 1) * 301 + (left - endF a c (k + 1)).toNat : Nat) : Int) := fun _ => by
        rw [wr_id (by unfold zR; omega)]
        omega
      have v := z_val (n := k + 1) hI hw hl hm hb hr (by omega)
      refine B80_55 ⟨fun e => absurd e (by omega), fun _ => ?_⟩
      rw [e8 trivial, Int.toNat_natCast, g1, e9 trivial, Int.toNat_natCast, v, show wr (((k + 1 : Nat) : Int) + 1) = ((k + 1 + 1 : Nat) : Int) by rw [wr_id (by unfold zR; omega)]; omega]
      exact ⟨by omega, by omega, fun e => absurd e (by omega), fun _ => ⟨by omega, by omega, by omega, by omega, by omega, by omega, ih (k + 1) (by omega)⟩⟩
  refine N80 (B80_0 (m106_5 hI hs he hc (B80_16 ?_)))
  have v := z_val (n := 0) hI hw hl hm hb hr (by omega)
  rw [hz] at v
  rw [e5 trivial, e6 trivial, Int.toNat_natCast, show ((c : Int) * 301 + 301 + left).toNat = (c + 1) * 301 + (left - 0).toNat by omega, show c * 100 = c * 100 + 0 by omega, v]
  exact ⟨by omega, by omega, by omega, by omega, loop (lapsBy a c left) 0 (by omega)⟩
theorem m81 {m left : Int} {c r k : Nat} (hI : zFolk a) (hs : zSim5 a s) (he : zEnds a m s) (hw : zWor a m s c) (hl : 0 ≤ left ∧ left ≤ m) (hm : m ≤ 300) (hb : ∀ l : Nat, (l : Int) ≤ left → s 25 ((c + 1) * 301 + l) = fldV a r (c + 1) l) (hr : ((c + (r + 1) : Nat) : Int) = a 2 3) (hk : k ≤ lapsBy a c left) (h : Q (some (.inl (candF a c (fldV a r (c + 1)) left k))) s) : zE x (d + 3) 81 [.inr (.inl 5), .inl c, .inl k, .inl left] s Q := by
  have i1 := hI.1.1
  have hc : (c : Int) < a 2 3 := by omega
  have hM := lapsBy_99 hI hc m
  have hmono := lapsBy_mono (a := a) (c := c) hl.1 hl.2
  have g1 := (he c hc).2 k (by omega)
  have g2 := lapsBy_fit (a := a) (c := c) hl.1 hk
  have g3 := endF_pos a c k
  have v := z_val hI hw hl hm hb hr hk
  have e8 : True → wr (wr ((c : Int) * 100) + (k : Int)) = ((c * 100 + k : Nat) : Int) := fun _ => by
    rw [wr_id (x := (c : Int) * 100) (by unfold zR; omega), wr_id (by unfold zR; omega)]
    omega
  have e9 : True → wr (wr (wr ((c : Int) + 1) * 301) + (left - endF a c k)) = (((c + 1) * 301 + (left - endF a c k).toNat : Nat) : Int) := fun _ => by
    rw [wr_id (x := (c : Int) + 1) (by unfold zR; omega), wr_id (x := ((c : Int) + 1) * 301) (by unfold zR; omega), wr_id (by unfold zR; omega)]
    omega
  refine N81 (B81_0 (m107_5 hI hs hc (by omega) (B81_10 ?_)))
  rw [g1, wr_id (x := left - endF a c k) (by unfold zR; omega), e8 trivial, e9 trivial, Int.toNat_natCast, Int.toNat_natCast]
  exact ⟨by omega, by omega, fun e => absurd e (by omega), fun _ => ⟨by omega, by omega, B81_48 (zQi h v.symm)⟩⟩
theorem m82 {m : Int} (hI : zFolk a) (hs : zSim5 a s) (he : zEnds a m s) (hw : ∀ c : Nat, (c : Int) < a 2 3 → zWor a m s c) (hm : 0 ≤ m ∧ m ≤ 300) (hb : zBst a m s) (hQ : ∀ s', zFr [26] s s' → (∀ c : Nat, (c : Int) < a 2 3 → s' 26 c = fldL a ((a 2 3).toNat - c) c (lftF a (a 2 3).toNat m c)) → Q none s') : zE x (d + 4) 82 [.inr (.inl 5), .inl m] s Q := by
  have i1 := hI.1.1
  have outer : ∀ (j i : Nat) (u : zSt) (o4 : Option zV), (i : Int) + j = a 2 3 → zFr [26] s u → (∀ c : Nat, c < i → u 26 c = fldL a ((a 2 3).toNat - c) c (lftF a (a 2 3).toNat m c)) → zJ x (d + 3) 82 4 [some (.inr (.inl 5)), some (.inl m), some (.inl (lftF a (a 2 3).toNat m i)), some (.inl (i : Int)), o4] [] u Q := by
    intro j
    induction j with
    | zero =>
      intro i u o4 hi hu h1
      exact B82_4 (m38_5 (hs.tr (hu.le _ rfl)) (B82_12 ⟨fun _ => B82_91 (hQ u hu (fun c hc => h1 c (by omega))), fun e => absurd e (by omega)⟩))
    | succ j ih =>
      intro i u o4 hi hu h1
      have hs2 := hs.tr (hu.le _ rfl)
      have he2 := he.fr hu rfl rfl
      have hic : (i : Int) < a 2 3 := by omega
      have hw2 : zWor a m u i := fun k hk => by
        rw [hu 24 rfl]
        exact hw i hic k hk
      have u25 : u 25 = s 25 := hu 25 rfl
      obtain ⟨r, hr⟩ : ∃ r : Nat, ((i + (r + 1) : Nat) : Int) = a 2 3 := ⟨(a 2 3).toNat - i - 1, by omega⟩
      have eN : (a 2 3).toNat - i = r + 1 := by omega
      have hl := lftF_R (a := a) hm.1 (N := (a 2 3).toNat) i (by omega)
      have hM := lapsBy_99 hI hic m
      have hst : lftF a (a 2 3).toNat m (i + 1) = lftF a (a 2 3).toNat m i - endF a i (fldL a ((a 2 3).toNat - i) i (lftF a (a 2 3).toNat m i)) := rfl
      have hl0 : i = 0 → lftF a (a 2 3).toNat m i = m := fun e => by rw [e]; rfl
      have hl1 := lftF_R (a := a) hm.1 (N := (a 2 3).toNat) (i + 1) (by omega)
      rw [hst, eN] at hl1
      rw [eN] at hst
      generalize hL : lftF a (a 2 3).toNat m i = left at *
      have hb2 : ∀ l : Nat, (l : Int) ≤ left → u 25 ((i + 1) * 301 + l) = fldV a r (i + 1) l := fun l h => by
        rw [u25]
        exact (hb (i + 1) r (by omega)).2 (by omega) l (by omega)
      have eb : u 25 (i * 301 + left.toNat) = fldV a (r + 1) i left := by
        rw [u25]
        by_cases e : i = 0
        · have k := (hb i (r + 1) hr).1 e
          have e8 := hl0 e
          have e7 : i * 301 + left.toNat = m.toNat := by omega
          rw [e7, e8, e]
          exact k
        · have k := (hb i (r + 1) hr).2 (by omega) left.toNat (by omega)
          rw [show ((left.toNat : Nat) : Int) = left by omega] at k
          exact k
      have hK := fldL_le (a := a) r i left
      have hmono := lapsBy_mono (a := a) (c := i) hl.1 hl.2
      have next : zJ x (d + 3) 82 60 [some (.inr (.inl 5)), some (.inl m), some (.inl left), some (.inl (i : Int)), some (.inl ((fldL a (r + 1) i left : Nat) : Int))] [] u Q := by
        refine B82_60 ⟨by omega, by omega, ?_⟩
        rw [Int.toNat_natCast]
        refine m107_5 (k := fldL a (r + 1) i left) hI (hs2.tr ((zFr.rf.U rfl _ _ : zFr [26] u _).le _ rfl)) hic (by omega) (B82_80 ?_)
        have g1 : (zU u 26 i ((fldL a (r + 1) i left : Nat) : Int)) 22 (i * 100 + fldL a (r + 1) i left) = endF a i (fldL a (r + 1) i left) := (he2 i hic).2 _ (by omega)
        rw [g1, wr_id (x := left - endF a i (fldL a (r + 1) i left)) (by unfold zR; omega), show max 0 (left - endF a i (fldL a (r + 1) i left)) = left - endF a i (fldL a (r + 1) i left) by omega, show wr ((i : Int) + 1) = ((i + 1 : Nat) : Int) by rw [wr_id (by unfold zR; omega)]; omega, ← hst]
        refine ih (i + 1) _ _ (by omega) (hu.U rfl _ _) (fun c hc => ?_)
        rw [zU_at]
        dsimp only
        by_cases e : c = i
        · rw [if_pos e, e, hL, eN]
        · rw [if_neg e]
          exact h1 c (by omega)
      have ix : True → wr (wr ((i : Int) * 301) + left) = ((i * 301 + left.toNat : Nat) : Int) := fun _ => by
        rw [wr_id (x := (i : Int) * 301) (by unfold zR; omega), wr_id (by unfold zR; omega)]
        omega
      have inner : ∀ (j k : Nat), k + j = fldL a (r + 1) i left → zJ x (d + 3) 82 18 [some (.inr (.inl 5)), some (.inl m), some (.inl left), some (.inl (i : Int)), some (.inl (k : Int))] [] u Q := by
        intro j
        induction j with
        | zero =>
          intro k hk
          have hk : k = fldL a (r + 1) i left := hk
          rw [hk]
          refine B82_18 (m106_5 hI hs2 he2 hic (B82_28 ⟨fun _ => next, fun _ => m81 hI hs2 he2 hw2 hl hm.2 hb2 hr hK (B82_39 ?_)⟩))
          rw [ix trivial, Int.toNat_natCast, eb, fldV_cand]
          exact ⟨by omega, by omega, fun _ => next, fun e => absurd rfl e⟩
        | succ j ih2 =>
          intro k hk
          refine B82_18 (m106_5 hI hs2 he2 hic (B82_28 ⟨fun e => absurd e (by omega), fun _ => m81 (k := k) hI hs2 he2 hw2 hl hm.2 hb2 hr (by omega) (B82_39 ?_)⟩))
          have g : candF a i (fldV a r (i + 1)) left k < fldV a (r + 1) i left := (argN_max (g := candF a i (fldV a r (i + 1)) left) (lapsBy a i left)).2.2 k (by
            have e : fldL a (r + 1) i left = argN (candF a i (fldV a r (i + 1)) left) (lapsBy a i left) := rfl
            rw [← e]
            omega)
          rw [ix trivial, Int.toNat_natCast, eb, show wr ((k : Int) + 1) = ((k + 1 : Nat) : Int) by rw [wr_id (by unfold zR; omega)]; omega]
          exact ⟨by omega, by omega, fun e => absurd e (by omega), fun _ => ih2 (k + 1) (by omega)⟩
      exact B82_4 (m38_5 hs2 (B82_12 ⟨fun e => absurd e (by omega), fun _ => inner (fldL a (r + 1) i left) 0 (by omega)⟩))
  exact N82 (B82_0 (outer (a 2 3).toNat 0 s none (by omega) zFr.rf (fun c hc => absurd hc (by omega))))
theorem m83 {c : Int} (hI : zFolk a) (hs : zSim5 a s) (hc : isCh a c) (h : Q (some (.inl (s 26 c.toNat))) s) : zE x (d + 2) 83 [.inr (.inl 5), .inl c] s Q := by
  have i1 := hI.1.1
  exact N83 (B83_0 (m40_5 hs (B83_8 ⟨fun e => absurd e (by omega), fun _ => ⟨by omega, by omega, B83_21 h⟩⟩)))
theorem m84 {m : Int} (hI : zFolk a) (hs : zSim5 a s) (hm : 0 ≤ m ∧ m ≤ 300) (hn : ∀ c : Nat, (c : Int) < a 2 3 → s 26 c = fldL a ((a 2 3).toNat - c) c (lftF a (a 2 3).toNat m c)) (h : Q (some (.inl (pthP a (a 2 3).toNat 0 m))) s) : zE x (d + 6) 84 [.inr (.inl 5)] s Q := by
  have i1 := hI.1.1
  have tot := pth_V hI (a 2 3).toNat 0 m (by omega) hm.1 hm.2
  have loop : ∀ (j i : Nat) (v : Int), (i : Int) + j = a 2 3 → 0 ≤ v → v + pthP a ((a 2 3).toNat - i) i (lftF a (a 2 3).toNat m i) = pthP a (a 2 3).toNat 0 m → zJ x (d + 5) 84 4 [some (.inr (.inl 5)), some (.inl v), some (.inl (i : Int))] [] s Q := by
    intro j
    induction j with
    | zero =>
      intro i v hi h0 hv
      refine B84_4 (m38_5 hs (B84_12 ⟨fun _ => B84_38 (zQi h ?_), fun e => absurd e (by omega)⟩))
      rw [show (a 2 3).toNat - i = 0 by omega] at hv
      have hv : v + 0 = pthP a (a 2 3).toNat 0 m := hv
      omega
    | succ j ih =>
      intro i v hi h0 hv
      have st := (pth_step (a := a) (m := m) (show i < (a 2 3).toNat by omega)).1
      have hl := lftF_R (a := a) hm.1 (N := (a 2 3).toNat) (i + 1) (by omega)
      have hl0 := lftF_R (a := a) hm.1 (N := (a 2 3).toNat) i (by omega)
      have k1 := pth_V hI ((a 2 3).toNat - (i + 1)) (i + 1) (lftF a (a 2 3).toNat m (i + 1)) (by omega) hl.1 (by omega)
      have f1 := fldL_le (a := a) ((a 2 3).toNat - i - 1) i (lftF a (a 2 3).toNat m i)
      rw [show (a 2 3).toNat - i - 1 + 1 = (a 2 3).toNat - i by omega] at f1
      have f2 := lapsBy_99 hI (c := i) (by omega) (lftF a (a 2 3).toNat m i)
      have f3 := paidTo_P hI (c := (i : Int)) (n := ((fldL a ((a 2 3).toNat - i) i (lftF a (a 2 3).toNat m i) : Nat) : Int)) (by omega)
      refine B84_4 (m38_5 hs (B84_12 ⟨fun e => absurd e (by omega), fun _ => ⟨by omega, by omega, ?_⟩⟩))
      rw [Int.toNat_natCast, hn i (by omega)]
      refine m57_5 hI hs (B84_30 ?_)
      rw [wr_id (x := v + paidTo a i (fldL a ((a 2 3).toNat - i) i (lftF a (a 2 3).toNat m i))) (by unfold zR; omega), show wr ((i : Int) + 1) = ((i + 1 : Nat) : Int) by rw [wr_id (by unfold zR; omega)]; omega]
      exact ih (i + 1) _ (by omega) (by omega) (by omega)
  exact N84 (B84_0 (loop (a 2 3).toNat 0 0 (by omega) (Int.le_refl _) (by show (0 : Int) + pthP a (a 2 3).toNat 0 m = _; omega)))
theorem m85 {m : Int} (hI : zFolk a) (hs : zSim5 a s) (he : zEnds a m s) (hm : 0 ≤ m ∧ m ≤ 300) (hn : ∀ c : Nat, (c : Int) < a 2 3 → s 26 c = fldL a ((a 2 3).toNat - c) c (lftF a (a 2 3).toNat m c)) (h : Q (some (.inl (pthU a (a 2 3).toNat 0 m))) s) : zE x (d + 3) 85 [.inr (.inl 5)] s Q := by
  have i1 := hI.1.1
  have tot := pth_V hI (a 2 3).toNat 0 m (by omega) hm.1 hm.2
  have loop : ∀ (j i : Nat) (v : Int), (i : Int) + j = a 2 3 → 0 ≤ v → v + pthU a ((a 2 3).toNat - i) i (lftF a (a 2 3).toNat m i) = pthU a (a 2 3).toNat 0 m → zJ x (d + 2) 85 4 [some (.inr (.inl 5)), some (.inl v), some (.inl (i : Int))] [] s Q := by
    intro j
    induction j with
    | zero =>
      intro i v hi h0 hv
      refine B85_4 (m38_5 hs (B85_12 ⟨fun _ => B85_38 (zQi h ?_), fun e => absurd e (by omega)⟩))
      rw [show (a 2 3).toNat - i = 0 by omega] at hv
      have hv : v + 0 = pthU a (a 2 3).toNat 0 m := hv
      omega
    | succ j ih =>
      intro i v hi h0 hv
      have st := (pth_step (a := a) (m := m) (show i < (a 2 3).toNat by omega)).2
      have hl := lftF_R (a := a) hm.1 (N := (a 2 3).toNat) (i + 1) (by omega)
      have hl0 := lftF_R (a := a) hm.1 (N := (a 2 3).toNat) i (by omega)
      have k1 := pth_V hI ((a 2 3).toNat - (i + 1)) (i + 1) (lftF a (a 2 3).toNat m (i + 1)) (by omega) hl.1 (by omega)
      have f1 := fldL_le (a := a) ((a 2 3).toNat - i - 1) i (lftF a (a 2 3).toNat m i)
      rw [show (a 2 3).toNat - i - 1 + 1 = (a 2 3).toNat - i by omega] at f1
      have f2 := lapsBy_99 hI (c := i) (by omega) (lftF a (a 2 3).toNat m i)
      have f3 := endF_pos a i (fldL a ((a 2 3).toNat - i) i (lftF a (a 2 3).toNat m i))
      have f4 := lapsBy_mono (a := a) (c := i) hl0.1 hl0.2
      have g1 := (he i (by omega)).2 (fldL a ((a 2 3).toNat - i) i (lftF a (a 2 3).toNat m i)) (by omega)
      refine B85_4 (m38_5 hs (B85_12 ⟨fun e => absurd e (by omega), fun _ => ⟨by omega, by omega, ?_⟩⟩))
      rw [Int.toNat_natCast, hn i (by omega)]
      refine m107_5 (k := fldL a ((a 2 3).toNat - i) i (lftF a (a 2 3).toNat m i)) hI hs (by omega) (by omega) (B85_30 ?_)
      rw [g1, wr_id (x := v + endF a i (fldL a ((a 2 3).toNat - i) i (lftF a (a 2 3).toNat m i))) (by unfold zR; omega), show wr ((i : Int) + 1) = ((i + 1 : Nat) : Int) by rw [wr_id (by unfold zR; omega)]; omega]
      exact ih (i + 1) _ (by omega) (by omega) (by omega)
  exact N85 (B85_0 (loop (a 2 3).toNat 0 0 (by omega) (Int.le_refl _) (by show (0 : Int) + pthU a (a 2 3).toNat 0 m = _; omega)))
theorem m78 {m : Int} (hI : zFolk a) (hL : zLaw a) (hs : zSim a s) (hz : ∀ j : Nat, 301 * a 2 3 ≤ j → s 25 j = 0) (hm : 0 ≤ m ∧ m ≤ 300) (hQ : ∀ s', zSim5 a s' → zEnds a m s' → (∀ j : Nat, 301 * a 2 3 ≤ j → s' 25 j = 0) → (∀ c : Nat, (c : Int) < a 2 3 → s' 26 c = fldL a ((a 2 3).toNat - c) c (lftF a (a 2 3).toNat m c)) → Q none s') : zE x (d + 7) 78 [.inr (.inl 5), .inl m] s Q := by
  have i1 := hI.1.1
  have outer : ∀ (c : Nat) (u : zSt) (o3 : Option zV), (c : Int) ≤ a 2 3 → zSim5 a u → zEnds a m u → (∀ j : Nat, 301 * a 2 3 ≤ j → u 25 j = 0) → (∀ c' : Nat, c ≤ c' → (c' : Int) < a 2 3 → zWor a m u c') → (∀ c' r : Nat, c ≤ c' → ((c' + r : Nat) : Int) = a 2 3 → (c' = 0 → u 25 m.toNat = fldV a r 0 m) ∧ (1 ≤ c' → ∀ l : Nat, (l : Int) ≤ m → u 25 (c' * 301 + l) = fldV a r c' l)) → zJ x (d + 6) 78 18 [some (.inr (.inl 5)), some (.inl m), some (.inl ((c : Int) - 1)), o3] [] u Q := by
    intro c
    induction c with
    | zero =>
      intro u o3 hc hs1 he hz hw hb
      exact B78_18 ⟨fun _ => B78_72 (m82 hI hs1 he (fun c hc => hw c (by omega) hc) hm (fun c r h => hb c r (by omega) h) (fun s' h1 h2 => B78_77 (hQ s' (hs1.tr (h1.le _ rfl)) (he.fr h1 rfl rfl) (fun j hj => by rw [h1 25 rfl]; exact hz j hj) h2))), fun e => absurd e (by omega)⟩
    | succ c ih =>
      intro u o3 hc hs1 he hz hw hb
      have hcc : (c : Int) < a 2 3 := by omega
      obtain ⟨r, hr⟩ : ∃ r : Nat, ((c + (r + 1) : Nat) : Int) = a 2 3 := ⟨(a 2 3).toNat - c - 1, by omega⟩
      rw [show ((c + 1 : Nat) : Int) - 1 = (c : Int) by omega]
      refine B78_18 ⟨fun e => absurd e (by omega), fun _ => m79 hI hs1 he hcc (fun v h1 h2 h3 => ?_)⟩
      have hs2 := hs1.tr (h1.le _ rfl)
      have he2 := he.fr h1 rfl rfl
      have v25 : v 25 = u 25 := h1 25 rfl
      have row : ∀ (j : Nat) (l : Nat) (w : zSt), (l : Int) + j = m + 1 → zFr [25] v w → (∀ i, i < c * 301 ∨ c * 301 + 301 ≤ i → w 25 i = u 25 i) → (c = 0 → (l : Int) = m + 1 → w 25 m.toNat = fldV a (r + 1) 0 m) → (1 ≤ c → ∀ k : Nat, k < l → w 25 (c * 301 + k) = fldV a (r + 1) c k) → zJ x (d + 6) 78 37 [some (.inr (.inl 5)), some (.inl m), some (.inl (c : Int)), some (.inl (l : Int))] [] w Q := by
        intro j
        induction j with
        | zero =>
          intro l w hl hv g1 g2 g3
          refine B78_37 ⟨fun _ => B78_66 ?_, fun e => absurd e (by omega)⟩
          rw [show wr ((c : Int) + -1) = (c : Int) - 1 by rw [wr_id (by unfold zR; omega)]; omega]
          refine ih w _ (by omega) (hs2.tr (hv.le _ rfl)) (he2.fr hv rfl rfl) (fun j hj => ?_) (fun c' h h' k hk => ?_) (fun c' r' h h' => ⟨fun e => ?_, fun e k hk => ?_⟩)
          · rw [g1 j (by omega)]
            exact hz j hj
          · rw [hv 24 rfl]
            by_cases e : c' = c
            · rw [e] at hk ⊢
              exact h2 k hk
            · have := lapsBy_99 hI h' m
              rw [h3 _ (by omega)]
              exact hw c' (by omega) h' k hk
          · have e0 : c = 0 := by omega
            rw [show r' = r + 1 by omega]
            exact g2 e0 (by omega)
          · by_cases e : c' = c
            · rw [show r' = r + 1 by omega, e]
              exact g3 (by omega) k (by omega)
            · rw [g1 _ (by omega)]
              exact (hb c' r' (by omega) h').2 (by omega) k hk
        | succ j ih2 =>
          intro l w hl hv g1 g2 g3
          have hw2 : zWor a m w c := fun k hk => by
            rw [hv 24 rfl]
            exact h2 k hk
          refine B78_37 ⟨fun e => absurd e (by omega), fun _ => m80 (r := r) hI (hs2.tr (hv.le _ rfl)) (he2.fr hv rfl rfl) hw2 (by omega) hm.2 (fun k hk => ?_) hr (B78_59 ?_)⟩
          · rw [g1 _ (by omega)]
            exact (hb (c + 1) r (by omega) (by omega)).2 (by omega) k (by omega)
          · rw [show wr (wr ((c : Int) * 301) + (l : Int)) = ((c * 301 + l : Nat) : Int) by rw [wr_id (x := (c : Int) * 301) (by unfold zR; omega), wr_id (by unfold zR; omega)]; omega, Int.toNat_natCast, show wr ((l : Int) + 1) = ((l + 1 : Nat) : Int) by rw [wr_id (by unfold zR; omega)]; omega]
            refine ⟨by omega, by omega, ih2 (l + 1) _ (by omega) (hv.U rfl _ _) (fun i hi => ?_) (fun e e2 => ?_) (fun e k hk => ?_)⟩
            · rw [zU_at]
              dsimp only
              rw [if_neg (by omega)]
              exact g1 i hi
            · rw [zU_at]
              dsimp only
              rw [if_pos (by omega), e, show (l : Int) = m by omega]
            · rw [zU_at]
              dsimp only
              by_cases e3 : k = l
              · rw [if_pos (by omega), e3]
              · rw [if_neg (by omega)]
                exact g3 e k (by omega)
      refine B78_27 ⟨fun e => B78_35 (B78_36 (row (m + 1).toNat 0 v (by omega) zFr.rf (fun i _ => by rw [v25]) (fun e2 => absurd e2 (by omega)) (fun _ k hk => absurd hk (by omega)))), fun e => B78_36 ?_⟩
      have k := row 1 m.toNat v (by omega) zFr.rf (fun i _ => by rw [v25]) (fun e2 e3 => absurd e3 (by omega)) (fun e2 => absurd e2 (by omega))
      rw [show ((m.toNat : Nat) : Int) = m by omega] at k
      exact k
  refine N78 (B78_0 (m105 hI hL hs (fun s1 h1 h2 => B78_8 (m38_5 ((hs.le (25 :: zScL) rfl).tr (h1.le _ rfl)) (B78_15 ?_)))))
  have k := outer (a 2 3).toNat s1 none (by omega) ((hs.le (25 :: zScL) rfl).tr (h1.le _ rfl)) h2 (fun j hj => by rw [h1 25 rfl]; exact hz j hj) (fun c' h h' => absurd h' (by omega)) (fun c' r h h' => ?_)
  · rw [wr_id (x := a 2 3 - 1) (by unfold zR; omega)]
    rw [show (((a 2 3).toNat : Nat) : Int) = a 2 3 by omega] at k
    exact k
  · have r0 : r = 0 := by omega
    rw [r0]
    refine ⟨fun e => ?_, fun e l hl => ?_⟩
    · rw [h1 25 rfl]
      exact hz _ (by omega)
    · rw [h1 25 rfl]
      exact hz _ (by omega)
theorem c_field {m c : Int} (hI : zFolk a) (hL : zLaw a) (hs : zSim a s) (hz : ∀ j : Nat, 301 * a 2 3 ≤ j → s 25 j = 0) (h : ∀ s', zSim5 a s' → (∀ j : Nat, 301 * a 2 3 ≤ j → s' 25 j = 0) → Q (some (.inl (rField a m c))) s') : zE x (d + 8) 138 [.inr (.inl 0), .inl m, .inl c] s Q := by
  have hs5 : zSim5 a s := hs.le (25 :: zScL) rfl
  have bad : ¬ ((0 ≤ m ∧ m ≤ 300) ∧ (c = -1 ∨ c = -2 ∨ isCh a c)) → zJ x (d + 7) 138 33 [some (.inr (.inl 0)), some (.inl m), some (.inl c)] [] s Q := fun e => B138_33 (zQi (h s hs5 hz) (by unfold rField; rw [if_neg e]))
  have good : ((0 ≤ m ∧ m ≤ 300) ∧ (c = -1 ∨ c = -2 ∨ isCh a c)) → zJ x (d + 7) 138 35 [some (.inr (.inl 0)), some (.inl m), some (.inl c)] [] s Q := fun e => by
    unfold rField at h
    rw [if_pos e] at h
    refine B138_35 (m78 hI hL hs hz e.1 (fun s1 h1 h2 h3 h4 => B138_43 ⟨fun c1 => B138_58 ⟨fun c2 => B138_74 (m83 hI h1 (by omega) (B138_82 (zQi (h s1 h1 h3) ?_))), fun c2 => m85 hI h1 h2 e.1 h4 (B138_71 (B138_82 (zQi (h s1 h1 h3) ?_)))⟩, fun c1 => m84 hI h1 e.1 h4 (B138_55 (B138_82 (zQi (h s1 h1 h3) ?_)))⟩))
    · rw [if_neg c1, if_neg c2]
      exact (h4 c.toNat (by omega)).symm
    · rw [if_neg c1, if_pos (by omega)]
    · rw [if_pos (by omega)]
  refine N138 (B138_0 (m118 (B138_8 ⟨fun e => bad (by omega), fun e => ⟨fun c1 => good (by omega), fun c1 => ⟨fun c2 => good (by omega), fun c2 => m40 hs (B138_30 ⟨fun e2 => good (by omega), fun e2 => bad (by omega)⟩)⟩⟩⟩)))
end ZField
