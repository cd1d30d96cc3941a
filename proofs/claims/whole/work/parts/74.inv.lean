/-! what holds between two calls; frames -/
/-- but for cells L, and places K of cell 42, as it was -/
abbrev zFK (L K : List Nat) (a b : zSt) : Prop := (∀ q, q ≠ 42 → L.contains q = false → b q = a q) ∧ ∀ k, K.contains k = false → b 42 k = a 42 k
theorem all_no {L M : List Nat} (h : M.all (fun q => !(L.contains q)) = true) {q : Nat} (hq : q ∈ M) : L.contains q = false := by
  have := List.all_eq_true.mp h q hq
  cases hc : L.contains q with
  | false => rfl
  | true => rw [hc] at this; cases this
theorem zFK.tr {L K : List Nat} {a b c : zSt} (h1 : zFK L K a b) (h2 : zFK L K b c) : zFK L K a c := ⟨fun q h0 h => (h2.1 q h0 h).trans (h1.1 q h0 h), fun k h => (h2.2 k h).trans (h1.2 k h)⟩
theorem no_le {L M : List Nat} (hL : L.all (fun q => M.contains q) = true) {q : Nat} (h : M.contains q = false) : L.contains q = false := by
  cases hc : L.contains q with
  | false => rfl
  | true =>
    have := List.all_eq_true.mp hL q (List.contains_iff_mem.mp hc)
    rw [h] at this
    cases this
theorem zFK.le {L K : List Nat} {a b : zSt} (h : zFK L K a b) (M P : List Nat) (h1 : L.all (fun q => M.contains q) = true) (h2 : K.all (fun q => P.contains q) = true) : zFK M P a b := ⟨fun q h0 hq => h.1 q h0 (no_le h1 hq), fun k hk => h.2 k (no_le h2 hk)⟩
theorem zFr.K {L : List Nat} {a b : zSt} (h : zFr L a b) (h42 : L.contains 42 = false) : zFK L [] a b := ⟨fun q _ hq => h q hq, fun k _ => congrFun (h 42 h42) k⟩
theorem zFr.KL {L K : List Nat} {a b : zSt} (h : zFr L a b) (h42 : ∀ k, K.contains k = false → b 42 k = a 42 k) : zFK L K a b := ⟨fun q _ hq => h q hq, h42⟩
theorem zFolk.k {L K : List Nat} {a b : zSt} (h : zFolk a) (f : zFK L K a b) (h1 : [2, 16, 17, 43, 44, 45, 46, 47, 48, 49, 50, 51, 52].all (fun q => !(L.contains q)) = true) (h2 : [1, 6, 13, 14, 15, 16].all (fun k => !(K.contains k)) = true) : zFolk b := by
  have g : ∀ q, q ∈ [2, 16, 17, 43, 44, 45, 46, 47, 48, 49, 50, 51, 52] → q ≠ 42 → b q = a q := fun q hq h0 => f.1 q h0 (all_no h1 hq)
  have g2 : ∀ k, k ∈ [1, 6, 13, 14, 15, 16] → b 42 k = a 42 k := fun k hk => f.2 k (all_no h2 hk)
  have en : ∀ w n, numF b w n = numF a w n := fun w n => by
    unfold numF
    rw [g 43 (by decide) (by decide), g 44 (by decide) (by decide), g 45 (by decide) (by decide), g 46 (by decide) (by decide), g 48 (by decide) (by decide), g 49 (by decide) (by decide), g 50 (by decide) (by decide), g 51 (by decide) (by decide), g 52 (by decide) (by decide), g2 13 (by decide), g2 14 (by decide), g2 15 (by decide), g2 16 (by decide)]
  obtain ⟨c, n, o⟩ := h
  refine ⟨?_, fun w n' hok => ?_, fun p hp => ?_⟩
  · unfold zCnt at c ⊢
    rw [g 2 (by decide) (by decide), g2 1 (by decide), g2 6 (by decide)]
    exact c
  · rw [g 2 (by decide) (by decide)] at hok ⊢
    rw [g 16 (by decide) (by decide), en]
    exact n w n' hok
  · rw [g 2 (by decide) (by decide)] at hp ⊢
    rw [g 17 (by decide) (by decide), g 47 (by decide) (by decide)]
    exact o p hp
theorem zLaw.eq {a b : zSt} (h : zLaw a) (h3 : b 1 3 = a 1 3) (h4 : b 1 4 = a 1 4) (h5 : b 1 5 = a 1 5) (hz : zStp b = zStp a) (h36 : b 42 36 = a 42 36) (hr : ∀ k, k < 130 → b 58 k = a 58 k ∧ b 59 k = a 59 k) (h60 : b 60 0 = a 60 0) (he : ∀ k, k < 61 → b 61 k = a 61 k ∧ b 62 k = a 62 k) : zLaw b := by
  obtain ⟨r, l⟩ := h
  refine ⟨by rw [h3, h5]; exact r, ?_⟩
  rcases l with l | ⟨l1, ls, k1, k2, k3, k4, k5, k6, k7, k8, k9, k10⟩
  · exact Or.inl (by rw [h36, h4]; exact l)
  · refine Or.inr ⟨by rw [h36]; exact l1, ls, k1, k2, k3, by rw [h4]; exact k4, by rw [hz]; exact k5, k6, by rw [h60]; exact k7, k8, fun k o hk => ?_, endsL_eq ls 0 0 (fun j _ hj => he j (by omega)) k10⟩
    have hl := (List.getElem?_eq_some_iff.mp hk).1
    rw [(hr k (by omega)).1, (hr k (by omega)).2]
    exact k9 k o hk
theorem zLaw.k {L K : List Nat} {a b : zSt} (h : zLaw a) (f : zFK L K a b) (h1 : [1, 12, 13, 58, 59, 60, 61, 62].all (fun q => !(L.contains q)) = true) (h2 : [36].all (fun k => !(K.contains k)) = true) : zLaw b := by
  have g : ∀ q, q ∈ [1, 12, 13, 58, 59, 60, 61, 62] → q ≠ 42 → b q = a q := fun q hq h0 => f.1 q h0 (all_no h1 hq)
  have e1 := g 1 (by decide) (by decide)
  have e12 := g 12 (by decide) (by decide)
  have e13 := g 13 (by decide) (by decide)
  have e58 := g 58 (by decide) (by decide)
  have e59 := g 59 (by decide) (by decide)
  have e60 := g 60 (by decide) (by decide)
  have e61 := g 61 (by decide) (by decide)
  have e62 := g 62 (by decide) (by decide)
  refine h.eq (by rw [e1]) (by rw [e1]) (by rw [e1]) ?_ (f.2 36 (all_no h2 (by decide))) (fun k _ => by rw [e58, e59]; exact ⟨rfl, rfl⟩) (by rw [e60]) (fun k _ => by rw [e61, e62]; exact ⟨rfl, rfl⟩)
  unfold zStp
  rw [e1, e12, e13]
theorem zShv.eq {a b : zSt} (h : zShv a) (h9 : b 9 1 = a 9 1) (h51 : b 42 51 = a 42 51) (h38 : b 38 = a 38) (h39 : b 39 = a 39) (h40 : b 40 = a 40) (h41 : b 41 = a 41) (h79 : b 79 = a 79) (h80 : b 80 = a 80) (h81 : b 81 = a 81) : zShv b := by
  unfold zShv at h ⊢
  rw [h9, h51, h38, h39, h40, h41, h79, h80, h81]
  exact h
theorem zShv.k {L K : List Nat} {a b : zSt} (h : zShv a) (f : zFK L K a b) (h1 : [9, 38, 39, 40, 41, 79, 80, 81].all (fun q => !(L.contains q)) = true) (h2 : [51].all (fun k => !(K.contains k)) = true) : zShv b := by
  have g : ∀ q, q ∈ [9, 38, 39, 40, 41, 79, 80, 81] → q ≠ 42 → b q = a q := fun q hq h0 => f.1 q h0 (all_no h1 hq)
  exact h.eq (by rw [g 9 (by decide) (by decide)]) (f.2 51 (all_no h2 (by decide))) (g 38 (by decide) (by decide)) (g 39 (by decide) (by decide)) (g 40 (by decide) (by decide)) (g 41 (by decide) (by decide)) (g 79 (by decide) (by decide)) (g 80 (by decide) (by decide)) (g 81 (by decide) (by decide))
theorem zBod.eq {a b : zSt} (h : zBod a) (h9 : b 9 1 = a 9 1) (h51 : b 42 51 = a 42 51) (h36 : b 36 = a 36) (h77 : b 77 = a 77) : zBod b := by
  unfold zBod at h ⊢
  rw [h9, h51, h36, h77]
  exact h
theorem zBod.k {L K : List Nat} {a b : zSt} (h : zBod a) (f : zFK L K a b) (h1 : [9, 36, 77].all (fun q => !(L.contains q)) = true) (h2 : [51].all (fun k => !(K.contains k)) = true) : zBod b := by
  have g : ∀ q, q ∈ [9, 36, 77] → q ≠ 42 → b q = a q := fun q hq h0 => f.1 q h0 (all_no h1 hq)
  exact h.eq (by rw [g 9 (by decide) (by decide)]) (f.2 51 (all_no h2 (by decide))) (g 36 (by decide) (by decide)) (g 77 (by decide) (by decide))
theorem zTrc.eq {a b : zSt} (h : zTrc a) (h9 : b 9 3 = a 9 3) (h53 : b 42 53 = a 42 53) (h37 : b 37 = a 37) (h78 : b 78 = a 78) : zTrc b := by
  unfold zTrc at h ⊢
  rw [h9, h53, h37, h78]
  exact h
theorem zTrc.k {L K : List Nat} {a b : zSt} (h : zTrc a) (f : zFK L K a b) (h1 : [9, 37, 78].all (fun q => !(L.contains q)) = true) (h2 : [53].all (fun k => !(K.contains k)) = true) : zTrc b := by
  have g : ∀ q, q ∈ [9, 37, 78] → q ≠ 42 → b q = a q := fun q hq h0 => f.1 q h0 (all_no h1 hq)
  exact h.eq (by rw [g 9 (by decide) (by decide)]) (f.2 53 (all_no h2 (by decide))) (g 37 (by decide) (by decide)) (g 78 (by decide) (by decide))
theorem zDed.k {L K : List Nat} {a b : zSt} (h : zDed a) (f : zFK L K a b) (h1 : [7, 30, 31, 32, 70, 71, 72, 73].all (fun q => !(L.contains q)) = true) : zDed b := by
  have g : ∀ q, q ∈ [7, 30, 31, 32, 70, 71, 72, 73] → q ≠ 42 → b q = a q := fun q hq h0 => f.1 q h0 (all_no h1 hq)
  unfold zDed at h ⊢
  rw [g 7 (by decide) (by decide), g 30 (by decide) (by decide), g 31 (by decide) (by decide), g 32 (by decide) (by decide), g 70 (by decide) (by decide), g 71 (by decide) (by decide), g 72 (by decide) (by decide), g 73 (by decide) (by decide)]
  exact h
theorem zImg.k {L K : List Nat} {a b : zSt} (h : zImg a) (f : zFK L K a b) (h1 : [0, 8, 33, 34, 35, 74, 75, 76].all (fun q => !(L.contains q)) = true) (h2 : [47].all (fun k => !(K.contains k)) = true) : zImg b := by
  have g : ∀ q, q ∈ [0, 8, 33, 34, 35, 74, 75, 76] → q ≠ 42 → b q = a q := fun q hq h0 => f.1 q h0 (all_no h1 hq)
  unfold zImg at h ⊢
  rw [g 0 (by decide) (by decide), g 8 (by decide) (by decide), g 33 (by decide) (by decide), g 34 (by decide) (by decide), g 35 (by decide) (by decide), g 74 (by decide) (by decide), g 75 (by decide) (by decide), g 76 (by decide) (by decide), f.2 47 (all_no h2 (by decide))]
  exact h
theorem zChg.k {L K : List Nat} {a b : zSt} (h : zChg a) (f : zFK L K a b) (h1 : [2, 3, 18, 19, 20, 53, 54, 55, 56].all (fun q => !(L.contains q)) = true) (h2 : [17, 18].all (fun k => !(K.contains k)) = true) : zChg b := by
  have g : ∀ q, q ∈ [2, 3, 18, 19, 20, 53, 54, 55, 56] → q ≠ 42 → b q = a q := fun q hq h0 => f.1 q h0 (all_no h1 hq)
  unfold zChg at h ⊢
  rw [g 2 (by decide) (by decide), g 3 (by decide) (by decide), g 18 (by decide) (by decide), g 19 (by decide) (by decide), g 20 (by decide) (by decide), g 53 (by decide) (by decide), g 54 (by decide) (by decide), g 55 (by decide) (by decide), g 56 (by decide) (by decide), f.2 17 (all_no h2 (by decide)), f.2 18 (all_no h2 (by decide))]
  exact h
theorem zTap.k {L K : List Nat} {a b : zSt} (h : zTap a) (f : zFK L K a b) (h1 : [1, 11, 57].all (fun q => !(L.contains q)) = true) (h2 : [24].all (fun k => !(K.contains k)) = true) : zTap b := by
  have g : ∀ q, q ∈ [1, 11, 57] → q ≠ 42 → b q = a q := fun q hq h0 => f.1 q h0 (all_no h1 hq)
  unfold zTap at h ⊢
  rw [g 1 (by decide) (by decide), g 11 (by decide) (by decide), g 57 (by decide) (by decide), f.2 24 (all_no h2 (by decide))]
  exact h
/-- behind the last child the plan's row holds nothing -/
def zRow (a : zSt) : Prop := ∀ j : Nat, 301 * a 2 3 ≤ j → a 25 j = 0
theorem zRow.eq {a b : zSt} (h : zRow a) (h2 : b 2 3 = a 2 3) (h25 : b 25 = a 25) : zRow b := by
  unfold zRow at h ⊢
  rw [h2, h25]
  exact h
theorem zRow.k {L K : List Nat} {a b : zSt} (h : zRow a) (f : zFK L K a b) (h1 : [2, 25].all (fun q => !(L.contains q)) = true) : zRow b := h.eq (by rw [f.1 2 (by decide) (all_no h1 (by decide))]) (f.1 25 (by decide) (all_no h1 (by decide)))
def zInv (a : zSt) : Prop := zFolk a ∧ zLaw a ∧ zShv a ∧ zBod a ∧ zTrc a ∧ zDed a ∧ zImg a ∧ zChg a ∧ zTap a ∧ zRow a
section ZInv
variable {a b : zSt}
theorem zInv.folk (h : zInv a) : zFolk a := h.1
theorem zInv.law (h : zInv a) : zLaw a := h.2.1
theorem zInv.shv (h : zInv a) : zShv a := h.2.2.1
theorem zInv.bod (h : zInv a) : zBod a := h.2.2.2.1
theorem zInv.trc (h : zInv a) : zTrc a := h.2.2.2.2.1
theorem zInv.ded (h : zInv a) : zDed a := h.2.2.2.2.2.1
theorem zInv.img (h : zInv a) : zImg a := h.2.2.2.2.2.2.1
theorem zInv.chg (h : zInv a) : zChg a := h.2.2.2.2.2.2.2.1
theorem zInv.tap (h : zInv a) : zTap a := h.2.2.2.2.2.2.2.2.1
theorem zInv.row (h : zInv a) : zRow a := h.2.2.2.2.2.2.2.2.2
abbrev zScM : List Nat := [14, 15, 21, 22, 23, 24, 26, 27, 28, 29, 63, 64, 65, 66, 67, 68, 69, 82]
/-- what is worked in, or one number of the reference's draws, may have changed -/
theorem zInv.sc (h : zInv a) (f : zFK zScM [42] a b) : zInv b := ⟨h.folk.k f rfl rfl, h.law.k f rfl rfl, h.shv.k f rfl rfl, h.bod.k f rfl rfl, h.trc.k f rfl rfl, h.ded.k f rfl, h.img.k f rfl rfl, h.chg.k f rfl rfl, h.tap.k f rfl rfl, h.row.k f rfl⟩
theorem zSim.fk (h : zSim a b) : zFK zScM [42] a b := (zFr.K h rfl).le zScM [42] rfl rfl
end ZInv
/-! the answer to field() does not hang on the plan's row -/
section Z25
variable {a : zSt} {g : Nat → Int}
theorem runF_25 {f : Nat → Int} : ∀ (n k : Nat) (st : List Int), runF (zF a 25 g) f n k st = runF a f n k st
  | 0, _, _ => rfl
  | n + 1, k, st => runF_25 n (k + 1) (opF f (a 58 k) (a 59 k) st)
theorem workF_25 {f : Nat → Int} {u v : Int} : workF (zF a 25 g) f u v = workF a f u v := by
  unfold workF
  rw [runF_25]
theorem givF_25 {f : Nat → Int} : ∀ (n l : Nat) (u : Int), givF (zF a 25 g) f n l u = givF a f n l u
  | 0, _, _ => rfl
  | n + 1, l, u => by
    show (if a 61 l = u ∨ workF (zF a 25 g) f u (a 61 l) ≠ 0 then workF (zF a 25 g) f (a 61 l) (a 62 l) else givF (zF a 25 g) f n (l + 1) (a 62 l)) = (if a 61 l = u ∨ workF a f u (a 61 l) ≠ 0 then workF a f (a 61 l) (a 62 l) else givF a f n (l + 1) (a 62 l))
    rw [workF_25, workF_25, givF_25 n]
theorem lapF_25 {c : Nat} {k m : Int} : lapF (zF a 25 g) c k m = lapF a c k m := by
  show max 1 (min 99 (if a 42 36 = 0 then wr (wr (a 43 c + wr ((wr (a 44 c * k)).tdiv 4)) + a 42 13) else givF (zF a 25 g) (fctF (a 43 c) (a 44 c) k m (a 42 13) c) (a 60 0).toNat 0 0)) = max 1 (min 99 (if a 42 36 = 0 then wr (wr (a 43 c + wr ((wr (a 44 c * k)).tdiv 4)) + a 42 13) else givF a (fctF (a 43 c) (a 44 c) k m (a 42 13) c) (a 60 0).toNat 0 0))
  rw [givF_25]
theorem endF_25 {c : Nat} : ∀ k, endF (zF a 25 g) c k = endF a c k
  | 0 => rfl
  | k + 1 => by
    show endF (zF a 25 g) c k + lapF (zF a 25 g) c k (endF (zF a 25 g) c k) = endF a c k + lapF a c k (endF a c k)
    rw [endF_25 k, lapF_25]
theorem lapsF_25 {c : Nat} {t : Int} : ∀ n k, lapsF (zF a 25 g) c t n k = lapsF a c t n k
  | 0, _ => rfl
  | n + 1, k => by
    show (if t < endF (zF a 25 g) c (k + 1) then k else lapsF (zF a 25 g) c t n (k + 1)) = (if t < endF a c (k + 1) then k else lapsF a c t n (k + 1))
    rw [endF_25, lapsF_25 n]
theorem lapsBy_25 {c : Nat} {t : Int} : lapsBy (zF a 25 g) c t = lapsBy a c t := lapsF_25 (a 45 c).toNat 0
theorem candF_25 {c : Nat} {W : Int → Int} {left : Int} : candF (zF a 25 g) c W left = candF a c W left := by
  funext n
  unfold candF
  rw [paidTo_25, endF_25]
theorem fldV_25 : ∀ (r c : Nat), fldV (zF a 25 g) r c = fldV a r c
  | 0, _ => rfl
  | r + 1, c => by
    funext left
    show maxN (candF (zF a 25 g) c (fldV (zF a 25 g) r (c + 1)) left) (lapsBy (zF a 25 g) c left) = maxN (candF a c (fldV a r (c + 1)) left) (lapsBy a c left)
    rw [fldV_25 r, candF_25, lapsBy_25]
theorem fldL_25 : ∀ (r c : Nat) (left : Int), fldL (zF a 25 g) r c left = fldL a r c left
  | 0, _, _ => rfl
  | r + 1, c, left => by
    show argN (candF (zF a 25 g) c (fldV (zF a 25 g) r (c + 1)) left) (lapsBy (zF a 25 g) c left) = argN (candF a c (fldV a r (c + 1)) left) (lapsBy a c left)
    rw [fldV_25, candF_25, lapsBy_25]
theorem pthP_25 : ∀ (r c : Nat) (left : Int), pthP (zF a 25 g) r c left = pthP a r c left
  | 0, _, _ => rfl
  | r + 1, c, left => by
    show paidTo (zF a 25 g) c (fldL (zF a 25 g) (r + 1) c left) + pthP (zF a 25 g) r (c + 1) (left - endF (zF a 25 g) c (fldL (zF a 25 g) (r + 1) c left)) = paidTo a c (fldL a (r + 1) c left) + pthP a r (c + 1) (left - endF a c (fldL a (r + 1) c left))
    rw [fldL_25, paidTo_25, endF_25, pthP_25 r]
theorem pthU_25 : ∀ (r c : Nat) (left : Int), pthU (zF a 25 g) r c left = pthU a r c left
  | 0, _, _ => rfl
  | r + 1, c, left => by
    show endF (zF a 25 g) c (fldL (zF a 25 g) (r + 1) c left) + pthU (zF a 25 g) r (c + 1) (left - endF (zF a 25 g) c (fldL (zF a 25 g) (r + 1) c left)) = endF a c (fldL a (r + 1) c left) + pthU a r (c + 1) (left - endF a c (fldL a (r + 1) c left))
    rw [fldL_25, endF_25, pthU_25 r]
theorem lftF_25 {N : Nat} {m : Int} : ∀ i, lftF (zF a 25 g) N m i = lftF a N m i
  | 0 => rfl
  | i + 1 => by
    show lftF (zF a 25 g) N m i - endF (zF a 25 g) i (fldL (zF a 25 g) (N - i) i (lftF (zF a 25 g) N m i)) = lftF a N m i - endF a i (fldL a (N - i) i (lftF a N m i))
    rw [lftF_25 i, fldL_25, endF_25]
theorem rField_25 {m c : Int} : rField (zF a 25 g) m c = rField a m c := by
  show (if (0 ≤ m ∧ m ≤ 300) ∧ (c = -1 ∨ c = -2 ∨ isCh a c) then (if c = -1 then pthP (zF a 25 g) (a 2 3).toNat 0 m else if c = -2 then pthU (zF a 25 g) (a 2 3).toNat 0 m else ((fldL (zF a 25 g) ((a 2 3).toNat - c.toNat) c.toNat (lftF (zF a 25 g) (a 2 3).toNat m c.toNat) : Nat) : Int)) else -1) = rField a m c
  rw [pthP_25, pthU_25, lftF_25, fldL_25]
  rfl
end Z25
