/-! who runs how long while the field is free: the reference -/
def zPth (a s : zSt) (c r : Nat) : Prop := ∀ l : Nat, (l : Int) ≤ 300 → s 66 (301 * c + l) = pthP a r c l ∧ s 67 (301 * c + l) = pthU a r c l ∧ (1 ≤ r → s 68 (301 * c + l) = fldL a r c l)
abbrev pcF (a : zSt) (c r : Nat) (left : Int) (n : Nat) : Int := paidTo a c n + pthP a r (c + 1) (left - endF a c n)
abbrev ucF (a : zSt) (c r : Nat) (left : Int) (n : Nat) : Int := endF a c n + pthU a r (c + 1) (left - endF a c n)
theorem pc_R {a : zSt} (hI : zFolk a) {c r n : Nat} {left : Int} (hr : ((c + (r + 1) : Nat) : Int) = a 2 3) (h0 : 0 ≤ left) (h3 : left ≤ 300) (hn : n ≤ lapsBy a c left) : candF a c (fldV a r (c + 1)) left n = pcF a c r left n * 512 - ucF a c r left n ∧ (0 ≤ ucF a c r left n ∧ ucF a c r left n ≤ 300) ∧ (0 ≤ pcF a c r left n ∧ pcF a c r left n ≤ 2000000) ∧ (0 ≤ endF a c n ∧ endF a c n ≤ left) ∧ (0 ≤ paidTo a c n ∧ paidTo a c n ≤ 160000) ∧ (0 ≤ pthU a r (c + 1) (left - endF a c n) ∧ pthU a r (c + 1) (left - endF a c n) ≤ 300) ∧ (0 ≤ pthP a r (c + 1) (left - endF a c n) ∧ pthP a r (c + 1) (left - endF a c n) ≤ 1000000) := by
  have h2 := lapsBy_99 hI (c := c) (by omega) left
  have h4 := lapsBy_fit (a := a) h0 hn
  have h5 := endF_pos a c n
  have h6 := paidTo_P hI (c := (c : Int)) (n := ((n : Nat) : Int)) (by omega)
  have h7 := pth_V hI r (c + 1) (left - endF a c n) (by omega) (by omega) (by omega)
  have i1 := hI.1.1
  have e : candF a c (fldV a r (c + 1)) left n = paidTo a c n * 512 - endF a c n + fldV a r (c + 1) (left - endF a c n) := rfl
  rw [e]
  show paidTo a c n * 512 - endF a c n + fldV a r (c + 1) (left - endF a c n) = (paidTo a c n + pthP a r (c + 1) (left - endF a c n)) * 512 - (endF a c n + pthU a r (c + 1) (left - endF a c n)) ∧ (0 ≤ endF a c n + pthU a r (c + 1) (left - endF a c n) ∧ endF a c n + pthU a r (c + 1) (left - endF a c n) ≤ 300) ∧ (0 ≤ paidTo a c n + pthP a r (c + 1) (left - endF a c n) ∧ paidTo a c n + pthP a r (c + 1) (left - endF a c n) ≤ 2000000) ∧ _
  generalize endF a c n = en at *
  generalize paidTo a c n = pn at *
  generalize fldV a r (c + 1) (left - en) = V at *
  generalize pthP a r (c + 1) (left - en) = P at *
  generalize pthU a r (c + 1) (left - en) = U at *
  omega
section ZMField
variable {x : List Int} {d : Nat} {a s : zSt} {Q : zQ}
theorem m231_in {c r l : Nat} (hI : zFolk a) (hL : zLaw a) (hs : zSim a s) (hr : ((c + (r + 1) : Nat) : Int) = a 2 3) (hl : (l : Int) ≤ 300) (hrow : zPth a s (c + 1) r)
    (hK : ∀ u (x3 x4 x5 : Int) o6 o7 o8 o9, zFr [63, 64, 66, 67, 68] s u → u 66 (301 * c + l) = pthP a (r + 1) c l → u 67 (301 * c + l) = pthU a (r + 1) c l → u 68 (301 * c + l) = fldL a (r + 1) c l → (∀ j, j ≠ 301 * c + l → u 66 j = s 66 j ∧ u 67 j = s 67 j ∧ u 68 j = s 68 j) → zJ x (d + 4) 231 176 [some (.inr (.inl 42)), some (.inl (c : Int)), some (.inl (l : Int)), some (.inl x3), some (.inl x4), some (.inl x5), o6, o7, o8, o9] [] u Q) :
    ∀ (j n : Nat) (u : zSt) (x3 : Int) (o6 o7 o8 o9 : Option zV), n + j = lapsBy a c l + 1 → zFr [63, 64, 66, 67, 68] s u → (∀ i, i ≠ 301 * c + l → u 66 i = s 66 i ∧ u 67 i = s 67 i ∧ u 68 i = s 68 i) →
      ((n = 0 ∧ x3 < 0) ∨ (0 < n ∧ 0 ≤ x3 ∧ u 66 (301 * c + l) = pcF a c r l (argN (candF a c (fldV a r (c + 1)) l) (n - 1)) ∧ u 67 (301 * c + l) = ucF a c r l (argN (candF a c (fldV a r (c + 1)) l) (n - 1)) ∧ u 68 (301 * c + l) = (argN (candF a c (fldV a r (c + 1)) l) (n - 1) : Nat))) →
      zJ x (d + 4) 231 17 [some (.inr (.inl 42)), some (.inl (c : Int)), some (.inl (l : Int)), some (.inl x3), some (.inl (endF a c n)), some (.inl (n : Int)), o6, o7, o8, o9] [] u Q := by
  have i1 := hI.1.1
  have hc : (c : Int) < a 2 3 := by omega
  have h45 := zN2 hI (c := (c : Int)) (by omega)
  rw [Int.toNat_natCast] at h45
  have hM := lapsBy_99 hI hc (l : Int)
  have sp := lapsBy_spec a c (l : Int) (by omega)
  intro j
  induction j with
  | zero =>
    intro n u x3 o6 o7 o8 o9 hn hu ho hi
    have e45 : u 45 = a 45 := (hu 45 rfl).trans (hs 45 rfl)
    have en : n - 1 = lapsBy a c l := by omega
    rcases hi with hi | ⟨h0, h3, g1, g2, g3⟩
    · omega
    rw [en] at g1 g2 g3
    have out : zJ x (d + 4) 231 176 [some (.inr (.inl 42)), some (.inl (c : Int)), some (.inl (l : Int)), some (.inl x3), some (.inl (endF a c n)), some (.inl (n : Int)), o6, o7, o8, o9] [] u Q := hK u _ _ _ _ _ _ _ hu g1 g2 g3 ho
    refine B231_17 ⟨by omega, by omega, fun _ => out, fun e => ⟨fun _ => out, fun e2 => ?_⟩⟩
    rw [e45, Int.toNat_natCast] at e
    have := sp.2.2 (by omega)
    rw [show lapsBy a c (l : Int) + 1 = n by omega] at this
    exact absurd this e2
  | succ j ih =>
    intro n u x3 o6 o7 o8 o9 hn hu ho hi
    have e45 : u 45 = a 45 := (hu 45 rfl).trans (hs 45 rfl)
    have k := pc_R hI (n := n) hr (left := (l : Int)) (by omega) hl (by omega)
    have hs2 := hs.tr (hu.le _ rfl)
    have e6 : True → wr (wr (wr (301 * wr ((c : Int) + 1)) + (l : Int)) - endF a c n) = ((301 * (c + 1) + ((l : Int) - endF a c n).toNat : Nat) : Int) := fun _ => by
      rw [wr_id (x := (c : Int) + 1) (by unfold zR; omega), wr_id (x := 301 * ((c : Int) + 1)) (by unfold zR; omega), wr_id (x := 301 * ((c : Int) + 1) + (l : Int)) (by unfold zR; omega), wr_id (by unfold zR; omega)]
      omega
    have e9 : True → wr (wr (301 * (c : Int)) + (l : Int)) = ((301 * c + l : Nat) : Int) := fun _ => by
      rw [wr_id (x := 301 * (c : Int)) (by unfold zR; omega), wr_id (by unfold zR; omega)]
      omega
    have row := hrow ((l : Int) - endF a c n).toNat (by omega)
    have ou := ho (301 * (c + 1) + ((l : Int) - endF a c n).toNat) (by omega)
    rw [show ((((l : Int) - endF a c n).toNat : Nat) : Int) = (l : Int) - endF a c n by omega] at row
    refine B231_17 ⟨by omega, by omega, fun e => absurd e (by rw [e45, Int.toNat_natCast]; omega), fun _ => ⟨fun e => absurd e (by omega), fun _ => m216 hI hs2 (B231_55 ?_)⟩⟩
    rw [e6 trivial, e9 trivial, Int.toNat_natCast, Int.toNat_natCast, ou.1, ou.2.1, row.1, row.2.1, wr_id (x := paidTo a c n + pthP a r (c + 1) ((l : Int) - endF a c n)) (by unfold zR; omega), wr_id (x := endF a c n + pthU a r (c + 1) ((l : Int) - endF a c n)) (by unfold zR; omega)]
    -- on to the next
    have next : ∀ (v : zSt) (y3 : Int) (o6 o7 o8 o9 : Int), zFr [63, 64, 66, 67, 68] s v → (∀ i, i ≠ 301 * c + l → v 66 i = s 66 i ∧ v 67 i = s 67 i ∧ v 68 i = s 68 i) → 0 ≤ y3 → v 66 (301 * c + l) = pcF a c r l (argN (candF a c (fldV a r (c + 1)) l) n) → v 67 (301 * c + l) = ucF a c r l (argN (candF a c (fldV a r (c + 1)) l) n) → v 68 (301 * c + l) = (argN (candF a c (fldV a r (c + 1)) l) n : Nat) → zJ x (d + 4) 231 156 [some (.inr (.inl 42)), some (.inl (c : Int)), some (.inl (l : Int)), some (.inl y3), some (.inl (endF a c n)), some (.inl (n : Int)), some (.inl o6), some (.inl o7), some (.inl o8), some (.inl o9)] [] v Q := fun v y3 o6 o7 o8 o9 hv hvo h3 g1 g2 g3 => by
      refine B231_156 (m205 hI hL (hs.tr (hv.le _ rfl)) (by omega) (fun w hw => B231_167 ?_))
      have h4 := endF_pos a c (n + 1)
      have e1 : True → wr (endF a c n + lapF a c n (endF a c n)) = endF a c (n + 1) := fun _ => wr_id (by unfold zR; unfold endF at h4; omega)
      rw [Int.toNat_natCast, e1 trivial, show wr ((n : Int) + 1) = ((n + 1 : Nat) : Int) by rw [wr_id (by unfold zR; omega)]; omega]
      have w66 : w 66 = v 66 := hw 66 rfl
      have w67 : w 67 = v 67 := hw 67 rfl
      have w68 : w 68 = v 68 := hw 68 rfl
      refine ih (n + 1) w y3 _ _ _ _ (by omega) (hv.tr (hw.le _ rfl)) (fun i hi => by rw [w66, w67, w68]; exact hvo i hi) (Or.inr ⟨by omega, h3, ?_, ?_, ?_⟩)
      · rw [w66]; exact g1
      · rw [w67]; exact g2
      · rw [w68]; exact g3
    have better : (n = 0 ∨ maxN (candF a c (fldV a r (c + 1)) l) (n - 1) < candF a c (fldV a r (c + 1)) l n) → ∀ y3, zJ x (d + 4) 231 126 [some (.inr (.inl 42)), some (.inl (c : Int)), some (.inl (l : Int)), some (.inl y3), some (.inl (endF a c n)), some (.inl (n : Int)), some (.inl ((301 * (c + 1) + ((l : Int) - endF a c n).toNat : Nat) : Int)), some (.inl (paidTo a c n + pthP a r (c + 1) ((l : Int) - endF a c n))), some (.inl (endF a c n + pthU a r (c + 1) ((l : Int) - endF a c n))), some (.inl ((301 * c + l : Nat) : Int))] [] u Q := fun hb y3 => by
      have ea : argN (candF a c (fldV a r (c + 1)) l) n = n := by
        rcases hb with hb | hb
        · rw [hb]; rfl
        · by_cases e0 : n = 0
          · rw [e0]; rfl
          · obtain ⟨q, rfl⟩ : ∃ q, n = q + 1 := ⟨n - 1, by omega⟩
            exact if_pos hb
      refine B231_126 ⟨by omega, by omega, by omega, by omega, by omega, by omega, ?_⟩
      rw [Int.toNat_natCast]
      refine next _ _ _ _ _ _ (((hu.U rfl _ _).U rfl _ _).U rfl _ _) (fun i hi => ?_) (by omega) ?_ ?_ ?_
      · show (if i = 301 * c + l then _ else u 66 i) = _ ∧ (if i = 301 * c + l then _ else u 67 i) = _ ∧ (if i = 301 * c + l then _ else u 68 i) = _
        rw [if_neg hi, if_neg hi, if_neg hi]
        exact ho i hi
      · rw [ea]
        exact if_pos rfl
      · rw [ea]
        exact if_pos rfl
      · rw [ea]
        exact if_pos rfl
    refine ⟨by omega, by omega, by omega, by omega, fun e => better (Or.inl ?_) x3, fun e => ⟨by omega, by omega, ?_⟩⟩
    · rcases hi with hi | hi
      · exact hi.1
      · omega
    · rcases hi with hi | ⟨h0, h3, g1, g2, g3⟩
      · omega
      obtain ⟨q, rfl⟩ : ∃ q, n = q + 1 := ⟨n - 1, by omega⟩
      rw [show q + 1 - 1 = q by omega] at g1 g2 g3 better
      have am := argN_max (g := candF a c (fldV a r (c + 1)) l) q
      have k2 := pc_R hI (n := argN (candF a c (fldV a r (c + 1)) l) q) hr (left := (l : Int)) (by omega) hl (by omega)
      have mx : maxN (candF a c (fldV a r (c + 1)) l) q = pcF a c r l (argN (candF a c (fldV a r (c + 1)) l) q) * 512 - ucF a c r l (argN (candF a c (fldV a r (c + 1)) l) q) := am.2.1.symm.trans k2.1
      have stay : ¬ maxN (candF a c (fldV a r (c + 1)) l) q < candF a c (fldV a r (c + 1)) l (q + 1) → zJ x (d + 4) 231 156 [some (.inr (.inl 42)), some (.inl (c : Int)), some (.inl (l : Int)), some (.inl x3), some (.inl (endF a c (q + 1))), some (.inl ((q + 1 : Nat) : Int)), some (.inl ((301 * (c + 1) + ((l : Int) - endF a c (q + 1)).toNat : Nat) : Int)), some (.inl (paidTo a c (q + 1 : Nat) + pthP a r (c + 1) ((l : Int) - endF a c (q + 1)))), some (.inl (endF a c (q + 1) + pthU a r (c + 1) ((l : Int) - endF a c (q + 1)))), some (.inl ((301 * c + l : Nat) : Int))] [] u Q := fun hb => by
        have ea : argN (candF a c (fldV a r (c + 1)) l) (q + 1) = argN (candF a c (fldV a r (c + 1)) l) q := if_neg hb
        exact next u x3 _ _ _ _ hu ho h3 (by rw [ea]; exact g1) (by rw [ea]; exact g2) (by rw [ea]; exact g3)
      rw [g1, g2]
      have k21 := k2.2.1
      have kk := k.1
      have kk2 := k.2.1
      generalize hP : pcF a c r l (argN (candF a c (fldV a r (c + 1)) l) q) = P at *
      generalize hU : ucF a c r l (argN (candF a c (fldV a r (c + 1)) l) q) = U at *
      have eP : pcF a c r l (q + 1) = paidTo a c (q + 1 : Nat) + pthP a r (c + 1) ((l : Int) - endF a c (q + 1)) := rfl
      have eU : ucF a c r l (q + 1) = endF a c (q + 1) + pthU a r (c + 1) ((l : Int) - endF a c (q + 1)) := rfl
      rw [eP, eU] at kk
      rw [eU] at kk2
      refine ⟨fun e1 => better (Or.inr ?_) x3, fun e1 => ⟨by omega, by omega, fun e2 => stay ?_, fun e2 => ⟨by omega, by omega, fun e4 => stay ?_, fun e4 => better (Or.inr ?_) x3⟩⟩⟩
      · rw [mx, kk]
        omega
      · rw [mx, kk]
        omega
      · rw [mx, kk]
        omega
      · rw [mx, kk]
        omega
theorem m231 {c r : Nat} (hI : zFolk a) (hL : zLaw a) (hs : zSim a s) (hr : ((c + (r + 1) : Nat) : Int) = a 2 3) (hrow : zPth a s (c + 1) r) (hQ : ∀ s', zFr [63, 64, 66, 67, 68] s s' → zPth a s' c (r + 1) → (∀ j, j < 301 * c ∨ 301 * c + 301 ≤ j → s' 66 j = s 66 j ∧ s' 67 j = s 67 j ∧ s' 68 j = s 68 j) → Q none s') : zE x (d + 5) 231 [.inr (.inl 42), .inl c] s Q := by
  have loop : ∀ (j l : Nat) (u : zSt) (o3 o4 o5 o6 o7 o8 o9 : Option zV), l + j = 301 → zFr [63, 64, 66, 67, 68] s u → (∀ i, i < 301 * c ∨ 301 * c + 301 ≤ i → u 66 i = s 66 i ∧ u 67 i = s 67 i ∧ u 68 i = s 68 i) → (∀ k : Nat, k < l → u 66 (301 * c + k) = pthP a (r + 1) c k ∧ u 67 (301 * c + k) = pthU a (r + 1) c k ∧ u 68 (301 * c + k) = fldL a (r + 1) c k) → zJ x (d + 4) 231 2 [some (.inr (.inl 42)), some (.inl (c : Int)), some (.inl (l : Int)), o3, o4, o5, o6, o7, o8, o9] [] u Q := by
    intro j
    induction j with
    | zero =>
      intro l u o3 o4 o5 o6 o7 o8 o9 hl hu ho hd
      exact B231_2 ⟨fun _ => B231_182 (hQ u hu (fun k hk => ⟨(hd k (by omega)).1, (hd k (by omega)).2.1, fun _ => (hd k (by omega)).2.2⟩) ho), fun e => absurd e (by omega)⟩
    | succ j ih =>
      intro l u o3 o4 o5 o6 o7 o8 o9 hl hu ho hd
      refine B231_2 ⟨fun e => absurd e (by omega), fun _ => ?_⟩
      refine m231_in (s := u) (l := l) hI hL (hs.tr (hu.le _ rfl)) hr (by omega) (fun k hk => ?_) (fun v x3 x4 x5 p6 p7 p8 p9 hv g1 g2 g3 g4 => B231_176 ?_) (lapsBy a c l + 1) 0 u (-1) o6 o7 o8 o9 (by omega) zFr.rf (fun i _ => ⟨rfl, rfl, rfl⟩) (Or.inl ⟨rfl, by omega⟩)
      · have k1 := ho (301 * (c + 1) + k) (by omega)
        rw [k1.1, k1.2.1, k1.2.2]
        exact hrow k hk
      · rw [show wr ((l : Int) + 1) = ((l + 1 : Nat) : Int) by rw [wr_id (by unfold zR; omega)]; omega]
        refine ih (l + 1) v _ _ _ _ _ _ _ (by omega) (hu.tr hv) (fun i hi => ?_) (fun k hk => ?_)
        · have k1 := g4 i (by omega)
          rw [k1.1, k1.2.1, k1.2.2]
          exact ho i hi
        · by_cases e : k = l
          · rw [e]
            exact ⟨g1, g2, g3⟩
          · have k1 := g4 (301 * c + k) (by omega)
            rw [k1.1, k1.2.1, k1.2.2]
            exact hd k (by omega)
  exact N231 (B231_0 (loop 301 0 s _ _ _ _ _ _ _ (by omega) zFr.rf (fun i _ => ⟨rfl, rfl, rfl⟩) (fun k hk => absurd hk (by omega))))
theorem e_field {m c : Int} (hI : zFolk a) (hL : zLaw a) (hs : zSim a s) (h : ∀ s', zFr [63, 64, 66, 67, 68] s s' → Q (some (.inl (rField a m c))) s') : zE x (d + 7) 232 [.inr (.inl 42), .inl m, .inl c] s Q := by
  have i1 := hI.1.1
  have i3 := hI.1.2.2.1
  have s1 : s 42 1 = a 42 1 := z42 hs
  have bad : ¬ ((0 ≤ m ∧ m ≤ 300) ∧ (c = -1 ∨ c = -2 ∨ isCh a c)) → zJ x (d + 6) 232 26 [some (.inr (.inl 42)), some (.inl m), some (.inl c), none, none] [] s Q := fun e => B232_26 (zQi (h s zFr.rf) (by unfold rField; rw [if_neg e]))
  have good : ((0 ≤ m ∧ m ≤ 300) ∧ (c = -1 ∨ c = -2 ∨ isCh a c)) → zJ x (d + 6) 232 28 [some (.inr (.inl 42)), some (.inl m), some (.inl c), none, none] [] s Q := fun e => by
    have h : ∀ s', zFr [63, 64, 66, 67, 68] s s' → Q (some (.inl (if c = -1 then pthP a (a 2 3).toNat 0 m else if c = -2 then pthU a (a 2 3).toNat 0 m else fldL a ((a 2 3).toNat - c.toNat) c.toNat (lftF a (a 2 3).toNat m c.toNat)))) s' := fun s' h' => zQi (h s' h') (if_pos e)
    -- the answers
    have ans : ∀ (u : zSt) (x3 : Int), zFr [63, 64, 66, 67, 68] s u → (∀ c' r : Nat, ((c' + r : Nat) : Int) = a 2 3 → zPth a u c' r) → zJ x (d + 6) 232 97 [some (.inr (.inl 42)), some (.inl m), some (.inl c), some (.inl x3), none] [] u Q := fun u x3 hu hp => by
      have p0 := hp 0 (a 2 3).toNat (by omega) m.toNat (by omega)
      rw [show 301 * 0 + m.toNat = m.toNat by omega, show ((m.toNat : Nat) : Int) = m by omega] at p0
      refine B232_97 ⟨fun c1 => B232_109 ⟨fun c2 => B232_122 ?_, fun c2 => ⟨by omega, by omega, zQi (h u hu) ?_⟩⟩, fun c1 => ⟨by omega, by omega, zQi (h u hu) ?_⟩⟩
      · rw [if_neg c1, if_neg c2] at h
        have hch : isCh a c := by omega
        have ix : ∀ i : Nat, (i : Int) ≤ c → wr (wr (301 * (i : Int)) + lftF a (a 2 3).toNat m i) = ((301 * i + (lftF a (a 2 3).toNat m i).toNat : Nat) : Int) ∧ 301 * i + (lftF a (a 2 3).toNat m i).toNat < 2107 ∧ ∀ w : zSt, (∀ c' r : Nat, ((c' + r : Nat) : Int) = a 2 3 → zPth a w c' r) → w 68 (301 * i + (lftF a (a 2 3).toNat m i).toNat) = fldL a ((a 2 3).toNat - i) i (lftF a (a 2 3).toNat m i) := fun i hi => by
          have hl := lftF_R (a := a) (m := m) (by omega) (N := (a 2 3).toNat) i (by omega)
          refine ⟨?_, by omega, fun w hw => ?_⟩
          · rw [wr_id (x := 301 * (i : Int)) (by unfold zR; omega), wr_id (by unfold zR; omega)]
            omega
          · have k := (hw i ((a 2 3).toNat - i) (by omega) (lftF a (a 2 3).toNat m i).toNat (by omega)).2.2 (by omega)
            rw [show (((lftF a (a 2 3).toNat m i).toNat : Nat) : Int) = lftF a (a 2 3).toNat m i by omega] at k
            exact k
        have walk : ∀ (j i : Nat) (w : zSt), (i : Int) + j = c → zFr [63, 64, 66, 67, 68] s w → (∀ c' r : Nat, ((c' + r : Nat) : Int) = a 2 3 → zPth a w c' r) → zJ x (d + 6) 232 127 [some (.inr (.inl 42)), some (.inl m), some (.inl c), some (.inl (lftF a (a 2 3).toNat m i)), some (.inl (i : Int))] [] w Q := by
          intro j
          induction j with
          | zero =>
            intro i w hi hw hp
            have k := ix i (by omega)
            refine B232_127 ⟨fun _ => B232_161 ?_, fun e => absurd e (by omega)⟩
            rw [show c = (i : Int) by omega, k.1, Int.toNat_natCast, k.2.2 w hp]
            refine ⟨by omega, by omega, zQi (h w hw) ?_⟩
            rw [show c.toNat = i by omega]
          | succ j ih =>
            intro i w hi hw hp
            have k := ix i (by omega)
            have hl := lftF_R (a := a) (m := m) (by omega) (N := (a 2 3).toNat) i (by omega)
            have hl1 := lftF_R (a := a) (m := m) (by omega) (N := (a 2 3).toNat) (i + 1) (by omega)
            have hst : lftF a (a 2 3).toNat m (i + 1) = lftF a (a 2 3).toNat m i - endF a i (fldL a ((a 2 3).toNat - i) i (lftF a (a 2 3).toNat m i)) := rfl
            have f1 := fldL_le (a := a) ((a 2 3).toNat - i - 1) i (lftF a (a 2 3).toNat m i)
            rw [show (a 2 3).toNat - i - 1 + 1 = (a 2 3).toNat - i by omega] at f1
            have f2 := lapsBy_99 hI (c := i) (by omega) (lftF a (a 2 3).toNat m i)
            refine B232_127 ⟨fun e => absurd e (by omega), fun _ => ?_⟩
            rw [k.1, Int.toNat_natCast, k.2.2 w hp]
            refine ⟨by omega, by omega, m209 hI hL (hs.tr (hw.le _ rfl)) (by omega) (by omega) (fun w2 hw2 => B232_153 ?_)⟩
            rw [Int.toNat_natCast, Int.toNat_natCast, ← hst, wr_id (x := lftF a (a 2 3).toNat m (i + 1)) (by unfold zR; omega), show wr ((i : Int) + 1) = ((i + 1 : Nat) : Int) by rw [wr_id (by unfold zR; omega)]; omega]
            refine ih (i + 1) w2 (by omega) (hw.tr (hw2.le _ rfl)) (fun c' r hr l hl => ?_)
            rw [hw2 66 rfl, hw2 67 rfl, hw2 68 rfl]
            exact hp c' r hr l hl
        exact walk c.toNat 0 u (by omega) hu hp
      · rw [if_neg c1, if_pos (by omega)]
        exact p0.2.1.symm
      · rw [if_pos (by omega)]
        exact p0.1.symm
    -- the children from the last on
    have parts : ∀ (n : Nat) (u : zSt), (n : Int) ≤ a 2 3 → zFr [63, 64, 66, 67, 68] s u → (∀ c' r : Nat, n ≤ c' → ((c' + r : Nat) : Int) = a 2 3 → zPth a u c' r) → zJ x (d + 6) 232 82 [some (.inr (.inl 42)), some (.inl m), some (.inl c), some (.inl ((n : Int) - 1)), none] [] u Q := by
      intro n
      induction n with
      | zero =>
        intro u hn hu hp
        exact B232_82 ⟨fun _ => ans u _ hu (fun c' r h => hp c' r (by omega) h), fun e => absurd e (by omega)⟩
      | succ n ih =>
        intro u hn hu hp
        obtain ⟨r, hr⟩ : ∃ r : Nat, ((n + (r + 1) : Nat) : Int) = a 2 3 := ⟨(a 2 3).toNat - n - 1, by omega⟩
        rw [show ((n + 1 : Nat) : Int) - 1 = (n : Int) by omega]
        refine B232_82 ⟨fun e => absurd e (by omega), fun _ => m231 (r := r) hI hL (hs.tr (hu.le _ rfl)) hr (hp (n + 1) r (by omega) (by omega)) (fun v g1 g2 g3 => B232_91 ?_)⟩
        rw [show wr ((n : Int) + -1) = (n : Int) - 1 by rw [wr_id (by unfold zR; omega)]; omega]
        refine ih v (by omega) (hu.tr g1) (fun c' r' h h' => ?_)
        by_cases e : c' = n
        · rw [e, show r' = r + 1 by omega]
          exact g2
        · intro l hl
          have k := g3 (301 * c' + l) (by omega)
          rw [k.1, k.2.1, k.2.2]
          exact hp c' r' (by omega) h' l hl
    -- the row behind the last
    have zero : ∀ (j l : Nat) (u : zSt), l + j = 301 → zFr [63, 64, 66, 67, 68] s u → (∀ k : Nat, k < l → u 66 (301 * (a 2 3).toNat + k) = 0 ∧ u 67 (301 * (a 2 3).toNat + k) = 0) → zJ x (d + 6) 232 30 [some (.inr (.inl 42)), some (.inl m), some (.inl c), some (.inl (l : Int)), none] [] u Q := by
      intro j
      induction j with
      | zero =>
        intro l u hl hu hz
        have u1 : u 42 1 = a 2 3 := (congrFun (hu 42 rfl) 1).trans (s1.trans i3)
        refine B232_30 ⟨fun _ => B232_75 ?_, fun e => absurd e (by omega)⟩
        rw [u1, wr_id (x := a 2 3 - 1) (by unfold zR; omega)]
        have k := parts (a 2 3).toNat u (by omega) hu (fun c' r h h' l' hl' => ?_)
        · rw [show (((a 2 3).toNat : Nat) : Int) = a 2 3 by omega] at k
          exact k
        · have r0 : r = 0 := by omega
          rw [r0, show c' = (a 2 3).toNat by omega]
          have z := hz l' (by omega)
          exact ⟨z.1, z.2, fun e => absurd e (by omega)⟩
      | succ j ih =>
        intro l u hl hu hz
        have u1 : u 42 1 = a 2 3 := (congrFun (hu 42 rfl) 1).trans (s1.trans i3)
        refine B232_30 ⟨fun e => absurd e (by omega), fun _ => ?_⟩
        rw [u1, show wr (wr (301 * a 2 3) + (l : Int)) = ((301 * (a 2 3).toNat + l : Nat) : Int) by rw [wr_id (x := 301 * a 2 3) (by unfold zR; omega), wr_id (by unfold zR; omega)]; omega, Int.toNat_natCast, show wr ((l : Int) + 1) = ((l + 1 : Nat) : Int) by rw [wr_id (by unfold zR; omega)]; omega]
        refine ⟨by omega, by omega, by omega, by omega, ih (l + 1) _ (by omega) ((hu.U rfl _ _).U rfl _ _) (fun k hk => ?_)⟩
        show (if 301 * (a 2 3).toNat + k = 301 * (a 2 3).toNat + l then _ else u 66 _) = _ ∧ (if 301 * (a 2 3).toNat + k = 301 * (a 2 3).toNat + l then _ else u 67 _) = _
        by_cases e : k = l
        · rw [if_pos (by omega), if_pos (by omega)]
          exact ⟨rfl, rfl⟩
        · rw [if_neg (by omega), if_neg (by omega)]
          exact hz k (by omega)
    exact B232_28 (zero 301 0 s (by omega) zFr.rf (fun k hk => absurd hk (by omega)))
  refine N232 (B232_0 (m170 (B232_8 ⟨fun e => bad (by omega), fun e => m170 (B232_23 ⟨fun e2 => good ?_, fun e2 => bad ?_⟩)⟩)))
  · rw [s1, i3, wr_id (by unfold zR; omega)] at e2
    omega
  · rw [s1, i3, wr_id (by unfold zR; omega)] at e2
    omega
end ZMField
