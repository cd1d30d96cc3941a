/-! who runs how long while the field is free: the answer -/
def maxN (g : Nat → Int) : Nat → Int
  | 0 => g 0
  | k + 1 => max (maxN g k) (g (k + 1))
def argN (g : Nat → Int) : Nat → Nat
  | 0 => 0
  | k + 1 => if maxN g k < g (k + 1) then k + 1 else argN g k
theorem maxN_le {g : Nat → Int} : ∀ {k j : Nat}, j ≤ k → g j ≤ maxN g k
  | 0, j, h => by
    rw [show j = 0 by omega]
    exact Int.le_refl _
  | k + 1, j, h => by
    show g j ≤ max (maxN g k) (g (k + 1))
    by_cases e : j = k + 1
    · rw [e]; omega
    · have := maxN_le (g := g) (k := k) (j := j) (by omega)
      omega
theorem argN_max {g : Nat → Int} : ∀ k : Nat, argN g k ≤ k ∧ g (argN g k) = maxN g k ∧ ∀ j, j < argN g k → g j < maxN g k
  | 0 => ⟨Nat.le_refl _, rfl, fun j h => absurd h (Nat.not_lt_zero _)⟩
  | k + 1 => by
    obtain ⟨h1, h2, h3⟩ := argN_max (g := g) k
    have e : maxN g (k + 1) = max (maxN g k) (g (k + 1)) := rfl
    unfold argN
    by_cases hc : maxN g k < g (k + 1)
    · rw [if_pos hc]
      refine ⟨Nat.le_refl _, by omega, fun j hj => ?_⟩
      have := maxN_le (g := g) (k := k) (j := j) (by omega)
      omega
    · rw [if_neg hc]
      refine ⟨by omega, by omega, fun j hj => ?_⟩
      have := h3 j hj
      omega
def candF (a : zSt) (c : Nat) (W : Int → Int) (left : Int) (n : Nat) : Int := paidTo a c n * 512 - endF a c n + W (left - endF a c n)
def fldV (a : zSt) : Nat → Nat → Int → Int
  | 0, _, _ => 0
  | r + 1, c, left => maxN (candF a c (fldV a r (c + 1)) left) (lapsBy a c left)
def fldL (a : zSt) : Nat → Nat → Int → Nat
  | 0, _, _ => 0
  | r + 1, c, left => argN (candF a c (fldV a r (c + 1)) left) (lapsBy a c left)
def pthP (a : zSt) : Nat → Nat → Int → Int
  | 0, _, _ => 0
  | r + 1, c, left => paidTo a c (fldL a (r + 1) c left) + pthP a r (c + 1) (left - endF a c (fldL a (r + 1) c left))
def pthU (a : zSt) : Nat → Nat → Int → Int
  | 0, _, _ => 0
  | r + 1, c, left => endF a c (fldL a (r + 1) c left) + pthU a r (c + 1) (left - endF a c (fldL a (r + 1) c left))
def lftF (a : zSt) (N : Nat) (m : Int) : Nat → Int
  | 0 => m
  | i + 1 => lftF a N m i - endF a i (fldL a (N - i) i (lftF a N m i))
def rField (a : zSt) (m c : Int) : Int := if (0 ≤ m ∧ m ≤ 300) ∧ (c = -1 ∨ c = -2 ∨ isCh a c) then (if c = -1 then pthP a (a 2 3).toNat 0 m else if c = -2 then pthU a (a 2 3).toNat 0 m else fldL a ((a 2 3).toNat - c.toNat) c.toNat (lftF a (a 2 3).toNat m c.toNat)) else -1
theorem endF_mono {a : zSt} {c k n : Nat} (h : k ≤ n) : endF a c k ≤ endF a c n := by
  have g := endF_le a c k (n - k)
  rw [show k + (n - k) = n by omega] at g
  omega
/-- laps that fit -/
theorem lapsBy_fit {a : zSt} {c n : Nat} {t : Int} (ht : 0 ≤ t) (h : n ≤ lapsBy a c t) : endF a c n ≤ t := by
  have g1 := (lapsBy_spec a c t ht).2.1
  have g2 := endF_mono (a := a) (c := c) h
  omega
theorem lapsBy_mono {a : zSt} {c : Nat} {t u : Int} (ht : 0 ≤ t) (hu : t ≤ u) : lapsBy a c t ≤ lapsBy a c u := by
  refine Nat.le_of_not_lt (fun e => ?_)
  obtain ⟨g1, g2, g3⟩ := lapsBy_spec a c t ht
  obtain ⟨k1, k2, k3⟩ := lapsBy_spec a c u (by omega)
  have h1 := k3 (by omega)
  have h2 := endF_mono (a := a) (c := c) (k := lapsBy a c u + 1) (n := lapsBy a c t) (by omega)
  omega
theorem fldL_le {a : zSt} (r c : Nat) (left : Int) : fldL a (r + 1) c left ≤ lapsBy a c left := (argN_max _).1
theorem fldV_cand {a : zSt} (r c : Nat) (left : Int) : fldV a (r + 1) c left = candF a c (fldV a r (c + 1)) left (fldL a (r + 1) c left) := (argN_max _).2.1.symm
theorem pth_V {a : zSt} (hI : zFolk a) : ∀ (r c : Nat) (left : Int), ((c + r : Nat) : Int) = a 2 3 → 0 ≤ left → left ≤ 300 → fldV a r c left = pthP a r c left * 512 - pthU a r c left ∧ (0 ≤ pthU a r c left ∧ pthU a r c left ≤ left) ∧ (0 ≤ pthP a r c left ∧ pthP a r c left ≤ 160000 * r)
  | 0, c, left, _, h0, _ => ⟨rfl, ⟨Int.le_refl _, h0⟩, Int.le_refl _, Int.le_refl _⟩
  | r + 1, c, left, hc, h0, h3 => by
    have h1 := fldL_le (a := a) r c left
    have h2 := lapsBy_99 hI (c := c) (by omega) left
    have h4 := lapsBy_fit (a := a) h0 h1
    have h5 := endF_pos a c (fldL a (r + 1) c left)
    have h6 := paidTo_P hI (c := (c : Int)) (n := ((fldL a (r + 1) c left : Nat) : Int)) (by omega)
    have ih := pth_V hI r (c + 1) (left - endF a c (fldL a (r + 1) c left)) (by omega) (by omega) (by omega)
    rw [fldV_cand]
    unfold candF
    show _ = (paidTo a c (fldL a (r + 1) c left) + pthP a r (c + 1) (left - endF a c (fldL a (r + 1) c left))) * 512 - (endF a c (fldL a (r + 1) c left) + pthU a r (c + 1) (left - endF a c (fldL a (r + 1) c left))) ∧ (0 ≤ endF a c (fldL a (r + 1) c left) + pthU a r (c + 1) (left - endF a c (fldL a (r + 1) c left)) ∧ endF a c (fldL a (r + 1) c left) + pthU a r (c + 1) (left - endF a c (fldL a (r + 1) c left)) ≤ left) ∧ (0 ≤ paidTo a c (fldL a (r + 1) c left) + pthP a r (c + 1) (left - endF a c (fldL a (r + 1) c left)) ∧ paidTo a c (fldL a (r + 1) c left) + pthP a r (c + 1) (left - endF a c (fldL a (r + 1) c left)) ≤ 160000 * ((r + 1 : Nat) : Int))
    generalize fldL a (r + 1) c left = n at *
    generalize endF a c n = en at *
    generalize paidTo a c n = pn at *
    generalize fldV a r (c + 1) (left - en) = V at *
    generalize pthP a r (c + 1) (left - en) = P at *
    generalize pthU a r (c + 1) (left - en) = U at *
    omega
theorem fldV_R {a : zSt} (hI : zFolk a) {r c : Nat} {left : Int} (hc : ((c + r : Nat) : Int) = a 2 3) (h0 : 0 ≤ left) (h3 : left ≤ 300) : -300 ≤ fldV a r c left ∧ fldV a r c left ≤ 81920000 * r := by
  have h := pth_V hI r c left hc h0 h3
  omega
/-- what can be chosen stays small -/
theorem cand_R {a : zSt} (hI : zFolk a) {r c n : Nat} {left : Int} (hc : ((c + (r + 1) : Nat) : Int) = a 2 3) (h0 : 0 ≤ left) (h3 : left ≤ 300) (hn : n ≤ lapsBy a c left) : (-600 ≤ candF a c (fldV a r (c + 1)) left n ∧ candF a c (fldV a r (c + 1)) left n ≤ 500000000) ∧ (0 ≤ endF a c n ∧ endF a c n ≤ left) ∧ (0 ≤ paidTo a c n ∧ paidTo a c n ≤ 160000) ∧ (-300 ≤ fldV a r (c + 1) (left - endF a c n) ∧ fldV a r (c + 1) (left - endF a c n) ≤ 410000000) := by
  have h2 := lapsBy_99 hI (c := c) (by omega) left
  have h4 := lapsBy_fit (a := a) h0 hn
  have h5 := endF_pos a c n
  have h6 := paidTo_P hI (c := (c : Int)) (n := ((n : Nat) : Int)) (by omega)
  have h7 := fldV_R hI (r := r) (c := c + 1) (left := left - endF a c n) (by omega) (by omega) (by omega)
  have i1 := hI.1.1
  unfold candF
  omega
theorem lftF_R {a : zSt} {m : Int} (hm : 0 ≤ m) {N : Nat} : ∀ i, i ≤ N → 0 ≤ lftF a N m i ∧ lftF a N m i ≤ m
  | 0, _ => ⟨hm, Int.le_refl _⟩
  | i + 1, h => by
    have ih := lftF_R (a := a) hm (N := N) i (by omega)
    have h1 := fldL_le (a := a) (N - i - 1) i (lftF a N m i)
    rw [show N - i - 1 + 1 = N - i by omega] at h1
    have h4 := lapsBy_fit (a := a) ih.1 h1
    have h5 := endF_pos a i (fldL a (N - i) i (lftF a N m i))
    unfold lftF
    omega
theorem pth_step {a : zSt} {N i : Nat} {m : Int} (h : i < N) : pthP a (N - i) i (lftF a N m i) = paidTo a i (fldL a (N - i) i (lftF a N m i)) + pthP a (N - (i + 1)) (i + 1) (lftF a N m (i + 1)) ∧ pthU a (N - i) i (lftF a N m i) = endF a i (fldL a (N - i) i (lftF a N m i)) + pthU a (N - (i + 1)) (i + 1) (lftF a N m (i + 1)) := by
  have e : N - i = N - (i + 1) + 1 := by omega
  have e2 : lftF a N m (i + 1) = lftF a N m i - endF a i (fldL a (N - i) i (lftF a N m i)) := rfl
  rw [e2, e]
  exact ⟨rfl, rfl⟩
