/-! shelves as class and reference hold them; coming in, week by week: the class -/
def zShv (a : zSt) : Prop := a 9 1 = a 42 51 ∧ ∀ i : Nat, i < 6 → (0 ≤ a 38 i ∧ a 38 i ≤ 6) ∧ (a 38 i = 6 → a 79 i = -1) ∧ (a 38 i = 5 → 0 ≤ a 40 i ∧ a 40 i < a 9 1 ∧ a 79 i = a 40 i)
  ∧ (a 38 i ≤ 4 → a 79 i = -2 - a 38 i ∧ a 39 i = a 80 i ∧ 0 ≤ a 80 i ∧ a 80 i ≤ 60 ∧ ∀ k : Nat, (k : Int) < a 80 i → a 41 (i * 60 + k) = a 81 (i * 60 + k) ∧ (a 38 i = 0 → -128 ≤ a 81 (i * 60 + k) ∧ a 81 (i * 60 + k) ≤ 127) ∧ (a 38 i = 1 → -32768 ≤ a 81 (i * 60 + k) ∧ a 81 (i * 60 + k) ≤ 32767))
abbrev isSh (i : Int) : Prop := 0 ≤ i ∧ i ≤ 5
def refF (a : zSt) (i : Nat) (sort : Int) : Int := if a 38 i = 6 then -11 else if a 38 i = sort then 0 else -12
def amtF (a : zSt) (b : Bool) (v : Int) : Int := min v (wr ((if b then a 42 15 else 1) * max 1 (wr ((wr (v * a 42 14)).tdiv 12))))
def dueF (a : zSt) (t : Int) (p : Nat) : Int := paysF a p (lapN a t (a 47 p).toNat)
def tldF (a : zSt) (i : Nat) (w : Int) : Nat → Bool
  | 0 => false
  | j + 1 => tldF a i w j || decide (wr (a 81 (i * 60 + j)) = w)
def wkR (a : zSt) (m : Nat → Bool) (r : Nat → Int) : Nat → Nat → Int
  | 0 => r
  | k + 1 => fun p => wr (wkR a m r k p - amtF a (m k) (wkR a m r k p))
def wkT (a : zSt) (m : Nat → Bool) (r : Nat → Int) : Nat → Int
  | 0 => 0
  | k + 1 => wr (wkT a m r k + sumN (fun p => amtF a (m k) (wkR a m r k p)) (a 2 4).toNat)
def remF (a : zSt) (i : Nat) (k : Nat) : Bool := tldF a i k (a 80 i).toNat
def remX (a : zSt) (i : Nat) (e : Int) (k : Nat) : Bool := remF a i k || decide ((k : Int) = e)
abbrev isTw (tw : Int) : Prop := 0 ≤ tw ∧ tw / 100 ≤ 999 ∧ tw % 100 ≤ 60
def cmeF (a : zSt) (i : Nat) (t : Int) (e : Int) (w : Nat) : Int := wkT a (remX a i e) (dueF a t) w
def rComes (a : zSt) (i tw : Int) : Int := if isSh i ∧ isTw tw then (if refF a i.toNat 0 = 0 then cmeF a i.toNat (tw / 100) (-1) (tw % 100).toNat else refF a i.toNat 0) else -1
def byF (a : zSt) (i : Nat) (t w : Int) : Int := fstF (fun k => wr (w * sumN (dueF a t) (a 2 4).toNat) ≤ wr (12 * wkT a (remF a i) (dueF a t) k)) 61 0
def rBy (a : zSt) (i tx : Int) : Int := if isSh i ∧ (0 ≤ tx ∧ tx / 100 ≤ 999 ∧ tx % 100 ≤ 12) then (if refF a i.toNat 0 = 0 then byF a i.toNat (tx / 100) (tx % 100) else refF a i.toNat 0) else -1
def bstF (a : zSt) (i : Nat) (t : Int) (w : Nat) : Int × Int := topF (fun k => cmeF a i t k w) (-1) w
def rRemind (a : zSt) (i tw v : Int) : Int := if isSh i ∧ isTw tw ∧ (0 ≤ v ∧ v ≤ 1) then (if refF a i.toNat 0 = 0 then (if tw % 100 = 0 then -2 else if v = 0 then (bstF a i.toNat (tw / 100) (tw % 100).toNat).1 else (bstF a i.toNat (tw / 100) (tw % 100).toNat).2) else refF a i.toNat 0) else -1
theorem amtF_R {a : zSt} (hI : zFolk a) (b : Bool) {v : Int} (hv : 0 ≤ v ∧ v ≤ 9999) : 0 ≤ amtF a b v ∧ amtF a b v ≤ v := by
  have h1 := zN10 hI
  have h2 := zN11 hI
  have m1 : 0 ≤ v * a 42 14 := Int.mul_nonneg hv.1 h1.1
  have m2 : v * a 42 14 ≤ 9999 * 12 := Int.mul_le_mul hv.2 h1.2 h1.1 (by omega)
  unfold amtF
  rw [wr_id (x := v * a 42 14) (by unfold zR; omega), Int.tdiv_eq_ediv_of_nonneg m1]
  generalize v * a 42 14 = q at *
  rw [wr_id (x := q / 12) (by unfold zR; omega)]
  have m3 : 0 ≤ (if b then a 42 15 else 1) * max 1 (q / 12) := Int.mul_nonneg (by split <;> omega) (by omega)
  have m4 : (if b then a 42 15 else 1) * max 1 (q / 12) ≤ 4 * 9999 := Int.mul_le_mul (by split <;> omega) (by omega) (by omega) (by omega)
  rw [wr_id (by unfold zR; omega)]
  omega
theorem wkR_R {a : zSt} (hI : zFolk a) (m : Nat → Bool) {r : Nat → Int} (hr : ∀ p : Nat, (p : Int) < a 2 4 → 0 ≤ r p ∧ r p ≤ 9999) : ∀ (k : Nat) (p : Nat), (p : Int) < a 2 4 → 0 ≤ wkR a m r k p ∧ wkR a m r k p ≤ 9999
  | 0, p, hp => hr p hp
  | k + 1, p, hp => by
    have h := wkR_R hI m hr k p hp
    have h2 := amtF_R hI (m k) h
    show 0 ≤ wr (wkR a m r k p - amtF a (m k) (wkR a m r k p)) ∧ wr (wkR a m r k p - amtF a (m k) (wkR a m r k p)) ≤ 9999
    rw [wr_id (by unfold zR; omega)]
    omega
theorem sumN_P {f : Nat → Int} {B : Int} (hB : 0 ≤ B ∧ B ≤ 100000) : ∀ k : Nat, k ≤ 100 → (∀ p, p < k → 0 ≤ f p ∧ f p ≤ B) → 0 ≤ sumN f k ∧ sumN f k ≤ B * k
  | 0, _, _ => by simp [sumN]
  | k + 1, hk, hf => by
    have h := sumN_P hB k (by omega) (fun p hp => hf p (by omega))
    have h2 := hf k (by omega)
    have h3 : B * ((k + 1 : Nat) : Int) = B * k + B := by rw [Int.natCast_add, Int.mul_add]; simp
    have h4 : B * (k : Int) ≤ 100000 * 100 := Int.mul_le_mul hB.2 (by omega) (by omega) (by omega)
    unfold sumN
    rw [h3]
    generalize B * (k : Int) = q at *
    rw [wr_id (by unfold zR; omega)]
    omega
theorem wkT_P {a : zSt} (hI : zFolk a) (m : Nat → Bool) {r : Nat → Int} (hr : ∀ p : Nat, (p : Int) < a 2 4 → 0 ≤ r p ∧ r p ≤ 9999) : ∀ k : Nat, k ≤ 100 → 0 ≤ wkT a m r k ∧ wkT a m r k ≤ 159984 * k
  | 0, _ => by simp [wkT]
  | k + 1, hk => by
    have i2 := hI.1.2.1
    have h := wkT_P hI m hr k (by omega)
    have h2 := sumN_P (f := fun p => amtF a (m k) (wkR a m r k p)) (B := 9999) (by omega) (a 2 4).toNat (by omega) (fun p hp => by
      have h5 := wkR_R hI m hr k p (by omega)
      have h6 := amtF_R hI (m k) h5
      try dsimp only
      omega)
    unfold wkT
    generalize sumN (fun p => amtF a (m k) (wkR a m r k p)) (a 2 4).toNat = q at *
    rw [wr_id (by unfold zR; omega)]
    omega
theorem dueF_R {a : zSt} (hI : zFolk a) (t : Int) (p : Nat) (hp : (p : Int) < a 2 4) : 0 ≤ dueF a t p ∧ dueF a t p ≤ 9999 := by
  have h := hI.2.2 p hp
  have h2 := lapsBy_99 hI (c := (a 47 p).toNat) (by omega) t
  exact paysF_R hI hp (by unfold lapN; omega)
section ZComing
variable {x : List Int} {d : Nat} {a s : zSt} {Q : zQ}
theorem m86 {i : Int} (h : Q (some (.inl (if isSh i then 1 else 0))) s) : zE x (d + 1) 86 [.inr (.inl 10), .inl i] s Q := by
  refine N86 ?_
  repeat' (first | with_reducible refine B86_0 ?_ | with_reducible refine B86_14 ?_ | with_reducible refine B86_15 ?_ | with_reducible refine ⟨fun _ => ?_, fun _ => ?_⟩ | (refine ⟨by omega, ?_⟩) | refine ⟨by omega, by omega, ?_⟩ | fail)
  all_goals exact zQi h (by omega)
theorem m88 {i : Int} (hs : zSim a s) (h : Q (some (.inl (if isSh i ∧ a 38 i.toNat ≤ 4 then 1 else 0))) s) : zE x (d + 2) 88 [.inr (.inl 10), .inl i] s Q := by
  have e : s 38 i.toNat = a 38 i.toNat := congrFun (hs 38 rfl) _
  refine N88 ?_
  repeat' (first | with_reducible refine B88_0 ?_ | with_reducible refine B88_5 ?_ | with_reducible refine B88_22 ?_ | with_reducible refine B88_23 ?_ | with_reducible refine ⟨fun _ => ?_, fun _ => ?_⟩ | (refine m86 ?_) | (refine ⟨by omega, ?_⟩) | refine ⟨by omega, by omega, ?_⟩ | fail)
  all_goals exact zQi h (by omega)
theorem m90 {i sort : Int} (hs : zSim a s) (hi : isSh i) (h : Q (some (.inl (refF a i.toNat sort))) s) : zE x (d + 2) 90 [.inr (.inl 10), .inl i, .inl sort] s Q := by
  have e : s 38 = a 38 := hs 38 rfl
  refine N90 (B90_0 (m86 (B90_5 ⟨fun _ => B90_10 ?_, fun h => absurd h (by omega)⟩)))
  rw [e]
  refine ⟨by omega, by omega, fun h0 => B90_26 ?_, fun h0 => B90_42 (zQi h ?_)⟩
  · rw [e]
    refine ⟨by omega, by omega, fun h1 => B90_41 (B90_42 (zQi h ?_)), fun h1 => B90_42 (zQi h ?_)⟩
    · unfold refF; rw [if_neg h0, if_pos h1]
    · unfold refF; rw [if_neg h0, if_neg h1]
  · unfold refF; rw [if_pos (by omega)]
theorem m93 {i : Int} (hs : zSim a s) (hi : isSh i) (hr : a 38 i.toNat ≤ 4) (h : Q (some (.inl (a 39 i.toNat))) s) : zE x (d + 3) 93 [.inr (.inl 10), .inl i] s Q := by
  have e : s 39 = a 39 := hs 39 rfl
  refine N93 (B93_0 (m88 hs (B93_5 ⟨fun h => absurd h (by omega), fun _ => ?_⟩)))
  rw [e]
  exact ⟨by omega, by omega, B93_18 h⟩
theorem m92 {i k : Int} (hs : zSim a s) (hi : isSh i) (hr : a 38 i.toNat ≤ 4) (h : Q (some (.inl (if 0 ≤ k ∧ k < a 39 i.toNat then 1 else 0))) s) : zE x (d + 3) 92 [.inr (.inl 10), .inl i, .inl k] s Q := by
  have e : s 39 = a 39 := hs 39 rfl
  refine N92 (B92_0 (m88 hs (B92_5 ⟨fun h => absurd h (by omega), fun _ => ?_⟩)))
  rw [e]
  refine ⟨fun h0 => B92_26 (B92_27 ⟨by omega, zQi h ?_⟩), fun h0 => ⟨by omega, by omega, fun h1 => B92_26 (B92_27 ⟨by omega, zQi h ?_⟩), fun h1 => B92_27 ⟨by omega, zQi h ?_⟩⟩⟩
  all_goals omega
theorem m97 {i k : Int} (hs : zSim a s) (hi : isSh i) (hr : a 38 i.toNat ≤ 4) (hk : 0 ≤ k ∧ k < a 39 i.toNat ∧ k < 60) (h : Q (some (.inr (.inr (a 41 (i.toNat * 60 + k.toNat))))) s) : zE x (d + 4) 97 [.inr (.inl 10), .inl i, .inl k] s Q := by
  have e : s 41 = a 41 := hs 41 rfl
  have e3 : True → wr (wr (i * 60) + k) = ((i.toNat * 60 + k.toNat : Nat) : Int) := fun _ => by
    rw [wr_id (x := i * 60) (by unfold zR; omega), wr_id (by unfold zR; omega)]
    omega
  refine N97 (B97_0 (m92 hs hi hr (B97_6 ⟨fun h => absurd h (by omega), fun _ => ?_⟩)))
  rw [e3 trivial, e, Int.toNat_natCast]
  exact ⟨by omega, by omega, B97_24 h⟩
theorem m22_loop {r : Nat → Int} {b : Bool} {pb : Int} (hI : zFolk a) (hs : zSim a s) (hQ : ∀ s', zFr [28] s s' → (∀ p : Nat, (p : Int) < a 2 4 → s' 28 p = wr (r p - amtF a b (r p))) → Q (some (.inl (sumN (fun p => amtF a b (r p)) (a 2 4).toNat))) s') :
    ∀ (j i : Nat) (o : Option zV), (i : Int) + j = a 2 4 → ∀ u, zFr [28] s u → (∀ p : Nat, p < i → u 28 p = wr (r p - amtF a b (r p))) → (∀ p : Nat, i ≤ p → (p : Int) < a 2 4 → u 28 p = r p) →
      zJ x (d + 2) 22 36 [some (.inr (.inl 6)), some (.inl pb), some (.inl (a 42 14)), some (.inl (if b then a 42 15 else 1)), some (.inl (sumN (fun p => amtF a b (r p)) i)), some (.inl (i : Int)), o] [] u Q := by
  have i2 := hI.1.2.1
  intro j
  induction j with
  | zero =>
    intro i o h1 u hu p1 p2
    refine B22_36 (m39 (hs.tr (hu.le _ rfl)) (B22_45 ⟨fun _ => B22_103 (zQi (hQ u hu (fun p hp => p1 p (by omega))) ?_), fun h => absurd h (by omega)⟩))
    rw [show (a 2 4).toNat = i by omega]
  | succ j ih =>
    intro i o h1 u hu p1 p2
    refine B22_36 (m39 (hs.tr (hu.le _ rfl)) (B22_45 ⟨fun h => absurd h (by omega), fun _ => ⟨by omega, by omega, by omega, by omega, by omega, by omega, by omega, by omega, ?_⟩⟩))
    rw [show wr ((i : Int) + 1) = ((i + 1 : Nat) : Int) by unfold wr; omega, Int.toNat_natCast, p2 i (Nat.le_refl i) (by omega)]
    refine ih (i + 1) _ (by omega) _ (hu.U rfl _ _) (fun p hp => ?_) (fun p hp hp2 => ?_)
    · rw [zU_at]
      dsimp only
      split
      · rename_i e; rw [e]; rfl
      · exact p1 p (by omega)
    · rw [zU_at]
      dsimp only
      rw [if_neg (by omega)]
      exact p2 p (by omega) hp2
theorem m22 {r : Nat → Int} {b : Bool} {pb : Int} (hI : zFolk a) (hs : zSim a s) (hb : pb = if b then 1 else 0) (hr : ∀ p : Nat, (p : Int) < a 2 4 → s 28 p = r p) (hQ : ∀ s', zFr [28] s s' → (∀ p : Nat, (p : Int) < a 2 4 → s' 28 p = wr (r p - amtF a b (r p))) → Q (some (.inl (sumN (fun p => amtF a b (r p)) (a 2 4).toNat))) s') : zE x (d + 3) 22 [.inr (.inl 6), .inl pb] s Q := by
  have i2 := hI.1.2.1
  have go : ∀ v : Int, v = (if b then a 42 15 else 1) → zJ x (d + 2) 22 29 [some (.inr (.inl 6)), some (.inl pb), some (.inl (a 42 14)), none, none, none, none] [.inl v] s Q := fun v hv => by
    subst hv
    exact B22_29 (m22_loop hI hs hQ (a 2 4).toNat 0 none (by omega) s zFr.rf (fun p hp => by omega) (fun p _ hp => hr p hp))
  refine N22 (B22_0 (m46 hI hs (by unfold zOkN; omega) (B22_10 ⟨fun h0 => B22_28 (go 1 ?_), fun h0 => m46 hI hs (by unfold zOkN; omega) (B22_25 (go _ ?_))⟩)))
  · cases b with
    | false => rfl
    | true => rw [if_pos rfl] at hb; omega
  · cases b with
    | false => rw [if_neg (by decide)] at hb; omega
    | true => rfl
theorem m21_loop {r : Nat → Int} (hI : zFolk a) (hs : zSim a s) (hr : ∀ p : Nat, (p : Int) < a 2 4 → s 27 p = r p) (hQ : ∀ s', zFr [28] s s' → (∀ p : Nat, (p : Int) < a 2 4 → s' 28 p = r p) → Q none s') :
    ∀ (j i : Nat), (i : Int) + j = a 2 4 → ∀ u, zFr [28] s u → (∀ p : Nat, p < i → u 28 p = r p) → zJ x (d + 1) 21 2 [some (.inr (.inl 6)), some (.inl (i : Int))] [] u Q := by
  have i2 := hI.1.2.1
  intro j
  induction j with
  | zero =>
    intro i h1 u hu p1
    exact B21_2 (m39 (hs.tr (hu.le _ rfl)) (B21_10 ⟨fun _ => B21_31 (hQ u hu (fun p hp => p1 p (by omega))), fun h => absurd h (by omega)⟩))
  | succ j ih =>
    intro i h1 u hu p1
    refine B21_2 (m39 (hs.tr (hu.le _ rfl)) (B21_10 ⟨fun h => absurd h (by omega), fun _ => ⟨by omega, by omega, by omega, by omega, ?_⟩⟩))
    rw [show wr ((i : Int) + 1) = ((i + 1 : Nat) : Int) by unfold wr; omega, Int.toNat_natCast]
    refine ih (i + 1) (by omega) _ (hu.U rfl _ _) (fun p hp => ?_)
    rw [zU_at]
    dsimp only
    split
    · rename_i e; rw [e, hu 27 rfl]; exact hr i (by omega)
    · exact p1 p (by omega)
theorem m21 {r : Nat → Int} (hI : zFolk a) (hs : zSim a s) (hr : ∀ p : Nat, (p : Int) < a 2 4 → s 27 p = r p) (hQ : ∀ s', zFr [28] s s' → (∀ p : Nat, (p : Int) < a 2 4 → s' 28 p = r p) → Q none s') : zE x (d + 2) 21 [.inr (.inl 6)] s Q := by
  have i2 := hI.1.2.1
  exact N21 (B21_0 (m21_loop hI hs hr hQ (a 2 4).toNat 0 (by omega) s zFr.rf (fun p hp => by omega)))
theorem m20_loop {r : Nat → Int} {m : Nat → Bool} {e : Int} {w : Nat} (hI : zFolk a) (hs : zSim a s) (hw : w ≤ 60) (hm : ∀ k : Nat, k < 60 → s 29 k = if m k then 1 else 0)
    (hQ : ∀ s', zFr [28] s s' → Q (some (.inl (wkT a (fun k => m k || decide ((k : Int) = e)) r w))) s') :
    ∀ (j k : Nat), k + j = w → ∀ u, zFr [28] s u → (∀ p : Nat, (p : Int) < a 2 4 → u 28 p = wkR a (fun k => m k || decide ((k : Int) = e)) r k p) →
      zJ x (d + 3) 20 9 [some (.inr (.inl 6)), some (.inl (w : Int)), some (.inl e), some (.inl (wkT a (fun k => m k || decide ((k : Int) = e)) r k)), some (.inl (k : Int))] [] u Q := by
  intro j
  induction j with
  | zero =>
    intro k h1 u hu p1
    refine B20_9 ⟨fun _ => B20_56 (zQi (hQ u hu) ?_), fun h => absurd h (by omega)⟩
    rw [show w = k by omega]
  | succ j ih =>
    intro k h1 u hu p1
    have go : ∀ pb : Int, pb = (if (m k || decide ((k : Int) = e)) then 1 else 0) → zJ x (d + 3) 20 45 [some (.inr (.inl 6)), some (.inl (w : Int)), some (.inl e), some (.inl (wkT a (fun k => m k || decide ((k : Int) = e)) r k)), some (.inl (k : Int))] [.inl pb, .inr (.inl 6), .inl (wkT a (fun k => m k || decide ((k : Int) = e)) r k)] u Q := by
      intro pb hpb
      refine B20_45 (m22 (b := (m k || decide ((k : Int) = e))) hI (hs.tr (hu.le _ rfl)) hpb p1 (fun u' hu' p2 => B20_48 ?_))
      rw [show wr ((k : Int) + 1) = ((k + 1 : Nat) : Int) by unfold wr; omega]
      exact ih (k + 1) (by omega) u' (hu.tr hu') p2
    refine B20_9 ⟨fun h => absurd h (by omega), fun _ => ⟨fun h => absurd h (by omega), fun _ => ⟨by omega, by omega, ?_⟩⟩⟩
    rw [Int.toNat_natCast, hu 29 rfl, hm k (by omega)]
    refine ⟨fun h0 => B20_40 (go 1 ?_), fun h0 => ⟨fun h1 => B20_44 (go 0 ?_), fun h1 => B20_40 (go 1 ?_)⟩⟩
    · cases hmk : m k with
      | false => rw [hmk] at h0; exact absurd rfl h0
      | true => rfl
    · cases hmk : m k with
      | false => rw [decide_eq_false h1]; rfl
      | true => rw [hmk] at h0; exact absurd (Decidable.not_not.mp h0) (by decide)
    · rw [decide_eq_true (Decidable.not_not.mp h1), Bool.or_true]; rfl
theorem m20 {r : Nat → Int} {m : Nat → Bool} {e : Int} {w : Nat} (hI : zFolk a) (hs : zSim a s) (hw : w ≤ 60) (hm : ∀ k : Nat, k < 60 → s 29 k = if m k then 1 else 0) (hr : ∀ p : Nat, (p : Int) < a 2 4 → s 27 p = r p)
    (hQ : ∀ s', zFr [28] s s' → Q (some (.inl (wkT a (fun k => m k || decide ((k : Int) = e)) r w))) s') : zE x (d + 4) 20 [.inr (.inl 6), .inl (w : Int), .inl e] s Q := by
  refine N20 (B20_0 (m21 hI hs hr (fun s1 h1 h2 => B20_4 (m20_loop (s := s1) hI (hs.tr (h1.le _ rfl)) hw (fun k hk => by rw [h1 29 rfl]; exact hm k hk) (fun s' hs' => hQ s' (h1.tr hs')) w 0 (by omega) s1 zFr.rf h2))))
theorem m18_loop2 {t : Nat} {r : Nat → Int} (hr : ∀ p : Nat, (p : Int) < a 2 4 → s 27 p = r p) (hQ : ∀ s', zFr [27, 29] s s' → (∀ p : Nat, (p : Int) < a 2 4 → s' 27 p = r p) → (∀ k : Nat, k < 60 → s' 29 k = 0) → Q none s') :
    ∀ (j i : Nat), i + j = 60 → ∀ u, zFr [29] s u → (∀ p : Nat, p < i → u 29 p = 0) → zJ x d 18 50 [some (.inr (.inl 6)), some (.inl (i : Int))] [] u Q := by
  intro j
  induction j with
  | zero =>
    intro i h1 u hu p1
    exact B18_50 ⟨fun _ => B18_69 (hQ u (hu.le _ rfl) (fun p hp => by rw [hu 27 rfl]; exact hr p hp) (fun k hk => p1 k (by omega))), fun h => absurd h (by omega)⟩
  | succ j ih =>
    intro i h1 u hu p1
    refine B18_50 ⟨fun h => absurd h (by omega), fun _ => ⟨by omega, by omega, ?_⟩⟩
    rw [show wr ((i : Int) + 1) = ((i + 1 : Nat) : Int) by unfold wr; omega, Int.toNat_natCast]
    refine ih (i + 1) (by omega) _ (hu.U rfl _ _) (fun p hp => ?_)
    rw [zU_at]
    dsimp only
    split
    · rfl
    · exact p1 p (by omega)
theorem m18_loop {f : Nat → Int} (hI : zFolk a) (hs : zSim a s) (hn : zNow a f s) (hQ : ∀ s', zFr [27, 29] s s' → (∀ p : Nat, (p : Int) < a 2 4 → s' 27 p = paysF a p (f (a 47 p).toNat)) → (∀ k : Nat, k < 60 → s' 29 k = 0) → Q none s') :
    ∀ (j i : Nat), (i : Int) + j = a 2 4 → ∀ u, zFr [27] s u → (∀ p : Nat, p < i → u 27 p = paysF a p (f (a 47 p).toNat)) → zJ x (d + 4) 18 2 [some (.inr (.inl 6)), some (.inl (i : Int))] [] u Q := by
  have i2 := hI.1.2.1
  intro j
  induction j with
  | zero =>
    intro i h1 u hu p1
    refine B18_2 (m39 (hs.tr (hu.le _ rfl)) (B18_10 ⟨fun _ => B18_48 ?_, fun h => absurd h (by omega)⟩))
    exact m18_loop2 (t := 0) (a := a) (s := u) (r := fun p => paysF a p (f (a 47 p).toNat)) (fun p hp => p1 p (by omega)) (fun s' h2 h3 h4 => hQ s' ((hu.le _ rfl).tr h2) h3 h4) 60 0 (by omega) u zFr.rf (fun p hp => by omega)
  | succ j ih =>
    intro i h1 u hu p1
    have i7 := hI.2.2 i (by omega)
    have hsu : zSim a u := hs.tr (hu.le _ rfl)
    have hnu : zNow a f u := hn.fr hu rfl
    refine B18_2 (m39 hsu (B18_10 ⟨fun h => absurd h (by omega), fun _ => m42 hI hsu (by omega) (B18_35 (m104 hI hsu hnu (by rw [Int.toNat_natCast]; omega) (B18_38 (m54 hI hsu (by omega) (B18_41 ⟨by omega, by omega, ?_⟩)))))⟩))
    rw [show wr ((i : Int) + 1) = ((i + 1 : Nat) : Int) by unfold wr; omega, Int.toNat_natCast]
    refine ih (i + 1) (by omega) _ (hu.U rfl _ _) (fun p hp => ?_)
    rw [zU_at]
    dsimp only
    split
    · rename_i e; rw [e]
    · exact p1 p (by omega)
theorem m18 {f : Nat → Int} (hI : zFolk a) (hs : zSim a s) (hn : zNow a f s) (hQ : ∀ s', zFr [27, 29] s s' → (∀ p : Nat, (p : Int) < a 2 4 → s' 27 p = paysF a p (f (a 47 p).toNat)) → (∀ k : Nat, k < 60 → s' 29 k = 0) → Q none s') : zE x (d + 5) 18 [.inr (.inl 6)] s Q := by
  have i2 := hI.1.2.1
  exact N18 (B18_0 (m18_loop hI hs hn hQ (a 2 4).toNat 0 (by omega) s zFr.rf (fun p hp => by omega)))
theorem m19 {w : Int} (hQ : ∀ s', zFr [29] s s' → (∀ k : Nat, k < 60 → s' 29 k = if (k : Int) = w then 1 else s 29 k) → Q none s') : zE x (d + 1) 19 [.inr (.inl 6), .inl w] s Q := by
  have z1 : zBz 1 = 1 := rfl
  refine N19 (B19_0 ⟨fun h0 => B19_17 (hQ s zFr.rf (fun k hk => by rw [if_neg (by omega)])), fun h0 => ⟨fun h1 => B19_17 (hQ s zFr.rf (fun k hk => by rw [if_neg (by omega)])), fun h1 => ⟨by omega, by omega, B19_17 (hQ _ (zFr.rf.U rfl _ _) (fun k hk => ?_))⟩⟩⟩)
  rw [zU_at]
  dsimp only
  by_cases hk2 : (k : Int) = w
  · rw [if_pos (by omega), if_pos hk2, z1]
  · rw [if_neg (by omega), if_neg hk2]
theorem m142_loop {i t : Int} {r : Nat → Int} (hI : zFolk a) (hV : zShv a) (hs : zSim a s) (hi : isSh i) (hr : a 38 i.toNat ≤ 4) (hd : ∀ p : Nat, (p : Int) < a 2 4 → s 27 p = r p)
    (hQ : ∀ s', zFr [29] s s' → (∀ p : Nat, (p : Int) < a 2 4 → s' 27 p = r p) → (∀ k : Nat, k < 60 → s' 29 k = if remF a i.toNat k then 1 else 0) → Q none s') :
    ∀ (j n : Nat), (n : Int) + j = a 80 i.toNat → ∀ u, zFr [29] s u → (∀ k : Nat, k < 60 → u 29 k = if tldF a i.toNat k n then 1 else 0) → zJ x (d + 4) 142 17 [some (.inr (.inl 0)), some (.inl i), some (.inl t), some (.inl (n : Int))] [] u Q := by
  have hv := (hV.2 i.toNat (by omega)).2.2.2 hr
  intro j
  induction j with
  | zero =>
    intro n h1 u hu p1
    refine B142_17 (m93 (hs.tr (hu.le _ rfl)) hi hr (B142_26 ⟨fun _ => B142_52 (hQ u hu (fun p hp => by rw [hu 27 rfl]; exact hd p hp) (fun k hk => ?_)), fun h => absurd h (by omega)⟩))
    unfold remF
    rw [show (a 80 i.toNat).toNat = n by omega]
    exact p1 k hk
  | succ j ih =>
    intro n h1 u hu p1
    have hsu : zSim a u := hs.tr (hu.le _ rfl)
    refine B142_17 (m93 hsu hi hr (B142_26 ⟨fun h => absurd h (by omega), fun _ => m97 hsu hi hr (by omega) (B142_42 (m19 (fun u' hu' p2 => B142_46 ?_)))⟩))
    rw [show wr ((n : Int) + 1) = ((n + 1 : Nat) : Int) by unfold wr; omega]
    refine ih (n + 1) (by omega) u' (hu.tr hu') (fun k hk => ?_)
    rw [p2 k hk, p1 k hk, Int.toNat_natCast, (hv.2.2.2.2 n (by omega)).1]
    rw [show tldF a i.toNat k (n + 1) = (tldF a i.toNat k n || decide (wr (a 81 (i.toNat * 60 + n)) = (k : Int))) from rfl]
    by_cases hk2 : (k : Int) = wr (a 81 (i.toNat * 60 + n))
    · rw [if_pos hk2, decide_eq_true hk2.symm, Bool.or_true]; rfl
    · rw [if_neg hk2, decide_eq_false (fun e => hk2 e.symm), Bool.or_false]
theorem m142 {i t : Int} (hI : zFolk a) (hL : zLaw a) (hV : zShv a) (hs : zSim a s) (hi : isSh i) (hr : a 38 i.toNat ≤ 4)
    (hQ : ∀ s', zFr [14, 15, 21, 27, 29] s s' → (∀ p : Nat, (p : Int) < a 2 4 → s' 27 p = dueF a t p) → (∀ k : Nat, k < 60 → s' 29 k = if remF a i.toNat k then 1 else 0) → Q none s') : zE x (d + 7) 142 [.inr (.inl 0), .inl i, .inl t] s Q := by
  have hv := (hV.2 i.toNat (by omega)).2.2.2 hr
  refine N142 (B142_0 (m103 hI hL hs (fun s1 h1 n1 => B142_8 (m18 hI (hs.tr (h1.le _ rfl)) n1 (fun s2 h2 n2 n3 => B142_15 ?_)))))
  have h12 := (h1.le [14, 15, 21, 27, 29] rfl).tr (h2.le _ rfl)
  exact m142_loop (d := d + 2) (s := s2) hI hV (hs.tr (h12.le _ rfl)) hi hr n2 (fun s3 h3 n4 n5 => hQ s3 (h12.tr (h3.le _ rfl)) n4 n5) (a 80 i.toNat).toNat 0 (by omega) s2 zFr.rf (fun k hk => n3 k hk)
theorem c_comes {i tw : Int} (hI : zFolk a) (hL : zLaw a) (hV : zShv a) (hs : zSim a s) (h : ∀ s', zSim a s' → Q (some (.inl (rComes a i tw))) s') : zE x (d + 8) 139 [.inr (.inl 0), .inl i, .inl tw] s Q := by
  refine zE_ok (fun _ ht => ?_)
  have hkm : zR tw := ht (.inl tw) (List.mem_of_getElem? (i := 2) rfl)
  unfold zR at hkm
  have bad : ¬ (isSh i ∧ isTw tw) → Q (some (.inl (-1))) s := fun e => zQi (h s hs) (by unfold rComes; rw [if_neg e])
  refine N139 (B139_0 (m86 (B139_8 ⟨fun h0 => B139_25 (bad (by omega)), fun h0 => m119 (by decide) (B139_22 ⟨fun h1 => B139_27 ?_, fun h1 => B139_25 (bad (by omega))⟩) (by decide)⟩)))
  have hg : isSh i ∧ isTw tw := by omega
  have h := fun s' hs' => zQi (h s' hs') (if_pos hg)
  refine m90 hs hg.1 (B139_36 ⟨fun h2 => B139_43 ?_, fun h2 => zQi (h s hs) ?_⟩)
  · rw [Int.tdiv_eq_ediv_of_nonneg hg.2.1, wr_id (by unfold zR; omega)]
    have hr : a 38 i.toNat ≤ 4 := by unfold refF at h2; omega
    refine m142 hI hL hV hs hg.1 hr (fun s' hs' n1 n2 => B139_52 ?_)
    rw [Int.tmod_eq_emod_of_nonneg hg.2.1, wr_id (by unfold zR; omega), show tw % 100 = (((tw % 100).toNat : Nat) : Int) by omega]
    have hs2 : zSim a s' := hs.tr (hs'.le _ rfl)
    refine m20 (m := remF a i.toNat) hI hs2 (by omega) n2 n1 (fun s3 h3 => B139_64 (zQi (h s3 (hs2.tr (h3.le _ rfl))) ?_))
    rw [if_pos h2]
    rfl
  · rw [if_neg h2]
theorem m24_loop {r : Nat → Int} {m : Nat → Bool} {w : Nat} (hI : zFolk a) (hs : zSim a s) (hw : w ≤ 60) (hm : ∀ k : Nat, k < 60 → s 29 k = if m k then 1 else 0) (hr : ∀ p : Nat, (p : Int) < a 2 4 → s 27 p = r p) (hR : ∀ p : Nat, (p : Int) < a 2 4 → 0 ≤ r p ∧ r p ≤ 9999)
    (hQ : ∀ s', zFr [28] s s' → Q (some (.inl (max 0 (topF (fun e => wkT a (fun k => m k || decide ((k : Int) = (e : Nat))) r w) (-1) w).1))) s') :
    ∀ (j k : Nat) (o : Option zV), k + j = w → ∀ u, zFr [28] s u →
      zJ x (d + 4) 24 7 [some (.inr (.inl 6)), some (.inl (w : Int)), some (.inl (max 0 (topF (fun e => wkT a (fun k => m k || decide ((k : Int) = (e : Nat))) r w) (-1) k).1)), some (.inl (topF (fun e => wkT a (fun k => m k || decide ((k : Int) = (e : Nat))) r w) (-1) k).2), some (.inl (k : Int)), o] [] u Q := by
  intro j
  induction j with
  | zero =>
    intro k o h1 u hu
    refine B24_7 ⟨fun _ => B24_40 (zQi (hQ u hu) ?_), fun h => absurd h (by omega)⟩
    rw [show w = k by omega]
  | succ j ih =>
    intro k o h1 u hu
    refine B24_7 ⟨fun h => absurd h (by omega), fun _ => m20 (r := r) (m := m) hI (hs.tr (hu.le _ rfl)) hw (fun k hk => by rw [hu 29 rfl]; exact hm k hk) (fun p hp => by rw [hu 27 rfl]; exact hr p hp) (fun u' hu' => B24_20 ?_)⟩
    have h2 := fun o => ih (k + 1) o (by omega) u' (hu.tr hu')
    unfold topF at h2
    refine ⟨fun h5 => B24_34 ?_, fun h5 => B24_34 ?_⟩
    · rw [if_neg (by omega)] at h2
      rw [show wr ((k : Int) + 1) = ((k + 1 : Nat) : Int) by unfold wr; omega]
      exact h2 _
    · rw [if_pos (by omega)] at h2
      rw [show wr ((k : Int) + 1) = ((k + 1 : Nat) : Int) by unfold wr; omega]
      have h3 := h2 (some (.inl (wkT a (fun k' => m k' || decide ((k' : Int) = (k : Nat))) r w)))
      dsimp only at h3
      rw [show max 0 (k : Int) = k by omega] at h3
      exact h3
theorem m24 {r : Nat → Int} {m : Nat → Bool} {w : Nat} (hI : zFolk a) (hs : zSim a s) (hw : w ≤ 60) (hm : ∀ k : Nat, k < 60 → s 29 k = if m k then 1 else 0) (hr : ∀ p : Nat, (p : Int) < a 2 4 → s 27 p = r p) (hR : ∀ p : Nat, (p : Int) < a 2 4 → 0 ≤ r p ∧ r p ≤ 9999)
    (hQ : ∀ s', zFr [28] s s' → Q (some (.inl (max 0 (topF (fun e => wkT a (fun k => m k || decide ((k : Int) = (e : Nat))) r w) (-1) w).1))) s') : zE x (d + 5) 24 [.inr (.inl 6), .inl (w : Int)] s Q :=
  N24 (B24_0 (m24_loop hI hs hw hm hr hR hQ w 0 none (by omega) s zFr.rf))
theorem topF_hit {f : Nat → Int} (hf : 0 ≤ f 0) : ∀ k, 0 < k → 0 ≤ (topF f (-1) k).1
  | 0, h => by omega
  | k + 1, _ => by
    have h := topF_in f (-1) k
    unfold topF
    split
    · show (0 : Int) ≤ k; omega
    · rename_i h2
      cases k with
      | zero => exact absurd (show (-1 : Int) < f 0 by omega) h2
      | succ k => exact topF_hit hf (k + 1) (by omega)
theorem c_remind {i tw v : Int} (hI : zFolk a) (hL : zLaw a) (hV : zShv a) (hs : zSim a s) (h : ∀ s', zSim a s' → Q (some (.inl (rRemind a i tw v))) s') : zE x (d + 8) 141 [.inr (.inl 0), .inl i, .inl tw, .inl v] s Q := by
  refine zE_ok (fun _ ht => ?_)
  have hkm : zR tw := ht (.inl tw) (List.mem_of_getElem? (i := 2) rfl)
  unfold zR at hkm
  have bad : ¬ (isSh i ∧ isTw tw ∧ (0 ≤ v ∧ v ≤ 1)) → Q (some (.inl (-1))) s := fun e => zQi (h s hs) (by unfold rRemind; rw [if_neg e])
  refine N141 (B141_0 (m86 (B141_8 ⟨fun h0 => B141_34 (bad (by omega)), fun h0 => m119 (by decide) (B141_22 ⟨fun h1 => B141_34 (bad (by omega)), fun h1 => m118 (B141_31 ⟨fun h1 => B141_36 ?_, fun h1 => B141_34 (bad (by omega))⟩)⟩) (by decide)⟩)))
  have hg : isSh i ∧ isTw tw ∧ (0 ≤ v ∧ v ≤ 1) := by omega
  have h := fun s' hs' => zQi (h s' hs') (if_pos hg)
  refine m90 hs hg.1 (B141_45 ⟨fun h2 => B141_55 ?_, fun h2 => zQi (h s hs) ?_⟩)
  · rw [Int.tmod_eq_emod_of_nonneg hg.2.1.1, wr_id (by unfold zR; omega)]
    refine ⟨fun h3 => B141_69 ?_, fun h3 => zQi (h s hs) ?_⟩
    · rw [Int.tdiv_eq_ediv_of_nonneg hg.2.1.1, wr_id (by unfold zR; omega)]
      have hr : a 38 i.toNat ≤ 4 := by unfold refF at h2; omega
      refine m142 hI hL hV hs hg.1 hr (fun s' hs' n1 n2 => B141_78 ?_)
      rw [show tw % 100 = (((tw % 100).toNat : Nat) : Int) by omega]
      have hs2 : zSim a s' := hs.tr (hs'.le _ rfl)
      have hR := dueF_R hI (tw / 100)
      have hhit := topF_hit (f := fun e => wkT a (fun k => remF a i.toNat k || decide ((k : Int) = (e : Nat))) (dueF a (tw / 100)) (tw % 100).toNat) (wkT_P hI _ hR _ (by omega)).1 (tw % 100).toNat (by omega)
      have htop := topF_in (fun e => wkT a (fun k => remF a i.toNat k || decide ((k : Int) = (e : Nat))) (dueF a (tw / 100)) (tw % 100).toNat) (-1) (tw % 100).toNat
      refine m24 (m := remF a i.toNat) hI hs2 (by omega) n2 n1 hR (fun s3 h33 => B141_87 ?_)
      have hs3 := hs2.tr (h33.le zScL rfl)
      rw [show ∀ z : Int, 0 ≤ z → max 0 z = z from fun z hz => by omega]
      · refine ⟨fun h4 => B141_98 ?_, fun h4 => B141_109 (zQi (h s3 hs3) ?_)⟩
        · refine m20 (m := remF a i.toNat) (r := dueF a (tw / 100)) hI hs3 (by omega) (fun k hk => by rw [h33 29 rfl]; exact n2 k hk) (fun p hp => by rw [h33 27 rfl]; exact n1 p hp) (fun s4 h5 => B141_109 (zQi (h s4 (hs3.tr (h5.le _ rfl))) ?_))
          rw [if_pos h2, if_neg h3, if_neg h4]
          have h9 : (bstF a i.toNat (tw / 100) (tw % 100).toNat).2 = cmeF a i.toNat (tw / 100) (((bstF a i.toNat (tw / 100) (tw % 100).toNat).1.toNat : Nat) : Int) (tw % 100).toNat := by
            rcases htop with htop | htop
            · omega
            · exact htop.2.2.1
          rw [h9]
          have h10 : (((bstF a i.toNat (tw / 100) (tw % 100).toNat).1.toNat : Nat) : Int) = (bstF a i.toNat (tw / 100) (tw % 100).toNat).1 := by
            have : 0 ≤ (bstF a i.toNat (tw / 100) (tw % 100).toNat).1 := hhit
            omega
          rw [h10]
          rfl
        · rw [if_pos h2, if_neg h3, if_pos (Decidable.not_not.mp h4)]
          rfl
      · exact hhit
    · rw [if_pos h2, if_pos (Decidable.not_not.mp h3)]
  · rw [if_neg h2]
end ZComing
