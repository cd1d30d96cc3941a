/-! SPECIFICATION: what the reference's cells say; frames; what class and reference must share -/
def zFr (L : List Nat) (s s' : zSt) : Prop := ∀ q, L.contains q = false → s' q = s q
theorem zFr.rf {L : List Nat} {s : zSt} : zFr L s s := fun _ _ => rfl
theorem zFr.tr {L : List Nat} {s t u : zSt} (h1 : zFr L s t) (h2 : zFr L t u) : zFr L s u := fun q hq => (h2 q hq).trans (h1 q hq)
theorem zFr.le {L : List Nat} {s t : zSt} (h : zFr L s t) (M : List Nat) (hL : L.all (fun q => M.contains q) = true) : zFr M s t := fun q hq => h q (by
  cases hc : L.contains q with
  | false => rfl
  | true =>
    have := List.all_eq_true.mp hL q (List.contains_iff_mem.mp hc)
    rw [hq] at this
    cases this)
theorem zFr.U {L : List Nat} {s t : zSt} (h : zFr L s t) {q : Nat} (hq : L.contains q = true) (k : Nat) (v : Int) : zFr L s (zU t q k v) := fun q' hq' => by
  rw [zU_ne (fun e => by rw [e, hq] at hq'; cases hq')]
  exact h q' hq'
theorem zFr.F {L : List Nat} {s t : zSt} (h : zFr L s t) {q : Nat} (hq : L.contains q = true) (f : Nat → Int) : zFr L s (zF t q f) := fun q' hq' => by
  rw [zF_ne (fun e => by rw [e, hq] at hq'; cases hq')]
  exact h q' hq'
abbrev zScL : List Nat := [14, 15, 21, 22, 23, 24, 26, 27, 28, 29, 63, 64, 65, 66, 67, 68, 69, 82]
/-- but for rows that are worked in, as it was -/
abbrev zSim (a s : zSt) : Prop := zFr zScL a s
/-! numbers of mend() -/
def plF (ch sp n w : Int) : Int := if n < 0 ∨ w < 0 ∨ 12 < w then -1 else if w ≤ 3 then (if n < ch then n * 4 + w else -1) else if w ≤ 8 then (if n < sp then 24 + n * 5 + w - 4 else -1) else if n = 0 then 104 + w - 9 else -1
def numF (a : zSt) (w n : Int) : Int := if w = 0 then a 43 n.toNat else if w = 1 then a 44 n.toNat else if w = 2 then a 45 n.toNat else if w = 3 then a 46 n.toNat else if w = 4 then a 48 n.toNat else if w = 5 then a 49 n.toNat else if w = 6 then a 50 n.toNat else if w = 7 then a 51 n.toNat else if w = 8 then a 52 n.toNat else if w = 9 then a 42 13 else if w = 10 then a 42 14 else if w = 11 then a 42 15 else a 42 16
def zOkN (ch sp w n : Int) : Prop := (0 ≤ w ∧ w ≤ 3 ∧ 0 ≤ n ∧ n < ch) ∨ (4 ≤ w ∧ w ≤ 8 ∧ 0 ≤ n ∧ n < sp) ∨ (9 ≤ w ∧ w ≤ 12 ∧ n = 0)
def zCnt (a : zSt) : Prop := (0 ≤ a 2 3 ∧ a 2 3 ≤ 6) ∧ (0 ≤ a 2 4 ∧ a 2 4 ≤ 16) ∧ a 42 1 = a 2 3 ∧ a 42 6 = a 2 4
def zNum (a : zSt) : Prop := ∀ w n, zOkN (a 2 3) (a 2 4) w n → a 16 (plF (a 2 3) (a 2 4) n w).toNat = numF a w n ∧ zLEAST.getD w.toNat 0 ≤ numF a w n ∧ numF a w n ≤ zMOST.getD w.toNat 0
def zOfc (a : zSt) : Prop := ∀ p : Nat, (p : Int) < a 2 4 → a 17 p = a 47 p ∧ 0 ≤ a 47 p ∧ a 47 p < a 2 3
/-- who is there, and the numbers: class and reference alike -/
def zFolk (a : zSt) : Prop := zCnt a ∧ zNum a ∧ zOfc a
/-! the law's value -/
def twoF (w a b : Int) : Int := if w = 43 then wr (a + b) else if w = 45 then wr (a - b) else if w = 42 then wr (a * b) else if w = 47 then (if b = 0 then 0 else if b = -1 then wr (-a) else wr (a.tdiv b)) else if w = 37 then (if b = 0 ∨ b = -1 then 0 else wr (a.tmod b)) else if w = 60 then (if a < b then 1 else 0) else if w = 61 then (if a = b then 1 else 0) else if w = 62 then (if b < a then 1 else 0) else if w = 38 then (if a ≠ 0 ∧ b ≠ 0 then 1 else 0) else (if a ≠ 0 ∨ b ≠ 0 then 1 else 0)
def opF (f : Nat → Int) (w v : Int) (st : List Int) : List Int := if w = 1 then v :: st else if w = 2 then f v.toNat :: st else if w = 3 then (match st with
  | y :: r => (if y = 0 then 1 else 0) :: r
  | [] => []) else if w = 4 then (match st with
  | y :: r => wr (-y) :: r
  | [] => []) else (match st with
  | y :: x :: r => twoF w x y :: r
  | _ => [])
def runF (a : zSt) (f : Nat → Int) : Nat → Nat → List Int → List Int
  | 0, _, st => st
  | n + 1, k, st => runF a f n (k + 1) (opF f (a 58 k) (a 59 k) st)
def workF (a : zSt) (f : Nat → Int) (first last : Int) : Int := (runF a f (last - first).toNat first.toNat []).headD 0
def givF (a : zSt) (f : Nat → Int) : Nat → Nat → Int → Int
  | 0, _, _ => 0
  | n + 1, l, first => if a 61 l = first ∨ workF a f first (a 61 l) ≠ 0 then workF a f (a 61 l) (a 62 l) else givF a f n (l + 1) (a 62 l)
def fctF (p t k m r c : Int) : Nat → Int := fun i => if i = 0 then p else if i = 1 then t else if i = 2 then k else if i = 3 then m else if i = 4 then r else if i = 5 then c else 0
def lawF (a : zSt) (f : Nat → Int) : Int := givF a f (a 60 0).toNat 0 0
/-! laps, minutes, pence -/
def lapF (a : zSt) (c : Nat) (k m : Int) : Int := max 1 (min 99 (if a 42 36 = 0 then wr (wr (a 43 c + wr ((wr (a 44 c * k)).tdiv 4)) + a 42 13) else lawF a (fctF (a 43 c) (a 44 c) k m (a 42 13) c)))
theorem lapF_1 (a : zSt) (c : Nat) (k m : Int) : 1 ≤ lapF a c k m ∧ lapF a c k m ≤ 99 := by unfold lapF; omega
def plainF (a : zSt) (p : Nat) (n : Int) : Int := wr (wr (a 48 p * n) + (if a 50 p ≤ n then a 49 p else 0))
def owesF (a : zSt) (p : Nat) (n : Int) : Int := if 0 < a 51 p ∧ a 51 p < plainF a p n then a 51 p else plainF a p n
def paysF (a : zSt) (p : Nat) (n : Int) : Int := if a 52 p < owesF a p n then a 52 p else owesF a p n
def owedF (a : zSt) (c n : Int) : Nat → Int
  | 0 => 0
  | k + 1 => if a 47 k = c then wr (owedF a c n k + owesF a k n) else owedF a c n k
def paidF (a : zSt) (c n : Int) : Nat → Int
  | 0 => 0
  | k + 1 => if a 47 k = c then wr (paidF a c n k + paysF a k n) else paidF a c n k
theorem owedF_R (a : zSt) (c n : Int) : ∀ k, zR (owedF a c n k)
  | 0 => zR0
  | k + 1 => by
    unfold owedF
    split
    · exact wr_R _
    · exact owedF_R a c n k
theorem paidF_R (a : zSt) (c n : Int) : ∀ k, zR (paidF a c n k)
  | 0 => zR0
  | k + 1 => by
    unfold paidF
    split
    · exact wr_R _
    · exact paidF_R a c n k
def owedTo (a : zSt) (c n : Int) : Int := owedF a c n (a 42 6).toNat
def paidTo (a : zSt) (c n : Int) : Int := paidF a c n (a 42 6).toNat
/-- the minute in which so many laps are over -/
def endF (a : zSt) (c : Nat) : Nat → Int
  | 0 => 0
  | k + 1 => endF a c k + lapF a c k (endF a c k)
/-- laps that are over by t, n of them looked at, k of them known to be -/
def lapsF (a : zSt) (c : Nat) (t : Int) : Nat → Nat → Nat
  | 0, k => k
  | n + 1, k => if t < endF a c (k + 1) then k else lapsF a c t n (k + 1)
def lapsBy (a : zSt) (c : Nat) (t : Int) : Nat := lapsF a c t (a 45 c).toNat 0
theorem endF_pos (a : zSt) (c : Nat) : ∀ k : Nat, (k : Int) ≤ endF a c k ∧ endF a c k ≤ 99 * k
  | 0 => by simp [endF]
  | k + 1 => by
    have h := endF_pos a c k
    have h2 := lapF_1 a c k (endF a c k)
    unfold endF
    omega
