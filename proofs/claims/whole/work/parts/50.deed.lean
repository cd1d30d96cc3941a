/-! laps that are run, pence that are asked for, the ledger, the image -/
def zDed (a : zSt) : Prop := (∀ c : Nat, c < 6 → a 30 c = a 70 c ∧ a 31 c = a 71 c) ∧ (∀ p : Nat, p < 16 → a 32 p = a 72 p) ∧ a 7 3 = a 73 0 ∧ a 7 4 = a 73 1 ∧ a 7 6 = a 73 2 ∧ a 7 5 = a 73 3 ∧ a 7 7 = a 73 4
def zImg (a : zSt) : Prop := (∀ c : Nat, c < 6 → a 33 c = a 74 (2 * c) ∧ a 34 c = a 74 (2 * c + 1)) ∧ (∀ p : Nat, p < 16 → a 35 p = a 75 p) ∧ (a 8 3 = a 76 0 ∧ a 8 4 = a 76 1 ∧ a 8 6 = a 76 2 ∧ a 8 5 = a 76 3 ∧ a 8 7 = a 76 4) ∧ a 0 8 = a 42 47
def nxtF (a : zSt) (c : Nat) : Int := wr (a 71 c + lapF a c (a 70 c) (a 71 c))
abbrev okRun (a : zSt) (c : Int) : Prop := isCh a c ∧ a 70 c.toNat < a 45 c.toNat ∧ nxtF a c.toNat ≤ 9999
def rRun (a : zSt) (c : Int) : Int := if isCh a c then (if a 70 c.toNat < a 45 c.toNat ∧ nxtF a c.toNat ≤ 9999 then nxtF a c.toNat else -5) else -1
def uRun (a s : zSt) (c : Int) : zSt := if okRun a c then zU (zU (zU (zU s 7 3 (wr (s 7 3 + 1))) 7 5 (wr (s 7 5 + lapF a c.toNat (a 70 c.toNat) (a 71 c.toNat)))) 30 c.toNat (wr (s 30 c.toNat + 1))) 31 c.toNat (nxtF a c.toNat) else s
def vRun (a s : zSt) (c : Int) : zSt := if okRun a c then zU (zU (zU (zU s 70 c.toNat (wr (s 70 c.toNat + 1))) 71 c.toNat (nxtF a c.toNat)) 73 0 (wr (s 73 0 + 1))) 73 3 (wr (s 73 3 + lapF a c.toNat (a 70 c.toNat) (a 71 c.toNat))) else s
def askN (a : zSt) (p : Nat) : Int := a 70 (a 47 p).toNat
def askV (a : zSt) (p : Nat) : Int := max 0 (wr (paysF a p (askN a p) - a 72 p))
def rAsk (a : zSt) (p : Int) : Int := if isSp a p then askV a p.toNat else -1
def uAsk (a s : zSt) (p : Int) : zSt := if isSp a p then zU (zU (zU s 32 p.toNat (wr (s 32 p.toNat + askV a p.toNat))) 7 4 (wr (s 7 4 + askV a p.toNat))) 7 7 (wr (s 7 7 + (if a 52 p.toNat < owesF a p.toNat (askN a p.toNat) then 1 else 0))) else s
def vAsk (a s : zSt) (p : Int) : zSt := if isSp a p then (if a 52 p.toNat < owesF a p.toNat (askN a p.toNat) then zU (zU (zU s 72 p.toNat (wr (s 72 p.toNat + askV a p.toNat))) 73 1 (wr (s 73 1 + askV a p.toNat))) 73 4 (wr (s 73 4 + 1)) else zU (zU s 72 p.toNat (wr (s 72 p.toNat + askV a p.toNat))) 73 1 (wr (s 73 1 + askV a p.toNat))) else s
def rAnew (a : zSt) : Int := sumN (fun c => a 70 c) 6
def rLed (a : zSt) (w : Int) : Int := if 0 ≤ w ∧ w ≤ 4 then a 73 w.toNat else -1
theorem zFr.UU {L : List Nat} {s t : zSt} (h : zFr L s t) (q k : Nat) (v : Int) : zFr L (zU s q k v) (zU t q k v) := fun q' hq => by
  by_cases e : q' = q
  · subst e
    rw [zU_at, zU_at, h q' hq]
  · rw [zU_ne e, zU_ne e, h q' hq]
section ZDeed
variable {x : List Int} {d : Nat} {a s : zSt} {Q : zQ}
theorem m25 {c : Int} (hc : 0 ≤ c ∧ c < 6) (h : Q (some (.inl (s 30 c.toNat))) s) : zE x (d + 1) 25 [.inr (.inl 7), .inl c] s Q :=
  N25 (B25_0 ⟨fun h0 => absurd h0 (by omega), fun _ => ⟨fun h0 => absurd h0 (by omega), fun _ => ⟨by omega, by omega, B25_20 h⟩⟩⟩)
theorem m26 {c : Int} (hc : 0 ≤ c ∧ c < 6) (h : Q (some (.inl (s 31 c.toNat))) s) : zE x (d + 1) 26 [.inr (.inl 7), .inl c] s Q :=
  N26 (B26_0 ⟨fun h0 => absurd h0 (by omega), fun _ => ⟨fun h0 => absurd h0 (by omega), fun _ => ⟨by omega, by omega, B26_20 h⟩⟩⟩)
theorem m27 {c : Int} (hc : 0 ≤ c ∧ c < 16) (h : Q (some (.inl (s 32 c.toNat))) s) : zE x (d + 1) 27 [.inr (.inl 7), .inl c] s Q :=
  N27 (B27_0 ⟨fun h0 => absurd h0 (by omega), fun _ => ⟨fun h0 => absurd h0 (by omega), fun _ => ⟨by omega, by omega, B27_20 h⟩⟩⟩)
theorem m34 {c v : Int} (hc : 0 ≤ c ∧ c < 6) (h : Q none (zU (zU (zU (zU s 7 3 (wr (s 7 3 + 1))) 7 5 (wr (s 7 5 + wr (v - s 31 c.toNat)))) 30 c.toNat (wr (s 30 c.toNat + 1))) 31 c.toNat v)) : zE x (d + 1) 34 [.inr (.inl 7), .inl c, .inl v] s Q :=
  N34 (B34_0 ⟨fun h0 => absurd h0 (by omega), fun _ => ⟨fun h0 => absurd h0 (by omega), fun _ => ⟨by omega, by omega, by omega, by omega, by omega, by omega, by omega, by omega, B34_54 h⟩⟩⟩)
theorem wr_back {m l : Int} (hm : zR m) (hl : zR l) : wr (wr (m + l) - m) = l := by
  unfold zR at *
  unfold wr
  omega
theorem c_run {c : Int} (hI : zFolk a) (hL : zLaw a) (hD : zDed a) (hs : zSim a s) (h : ∀ s', zFr [14, 15] (uRun a s c) s' → Q (some (.inl (rRun a c))) s') : zE x (d + 6) 152 [.inr (.inl 0), .inl c] s Q := by
  have e30 : s 30 = a 30 := hs 30 rfl
  have e31 : s 31 = a 31 := hs 31 rfl
  unfold uRun rRun at h
  refine zE_ok (fun hok _ => ?_)
  refine N152 (B152_0 (m40 hs (B152_8 ⟨fun h0 => B152_13 ?_, fun h0 => ?_⟩)))
  · have hc : isCh a c := by omega
    have hc6 : 0 ≤ c ∧ c < 6 := by have := hI.1.1; omega
    have hd := hD.1 c.toNat (by omega)
    refine m25 hc6 (B152_21 (m26 hc6 (B152_30 (m46 hI hs (Or.inl ⟨by omega, by omega, hc⟩) (B152_41 ?_)))))
    rw [e30, e31, hd.1, hd.2, show numF a 2 c = a 45 c.toNat from rfl]
    have bad : ¬ (a 70 c.toNat < a 45 c.toNat ∧ nxtF a c.toNat ≤ 9999) → ∀ s', zFr [14, 15] s s' → Q (some (.inl (-5))) s' := fun hn s' hs' => by
      have h := h s' (by rw [if_neg (fun e : okRun a c => hn e.2)]; exact hs')
      rw [if_pos hc, if_neg hn] at h
      exact h
    refine ⟨fun h1 => B152_47 (m50 hI hL hs hc (fun s1 hs1 => B152_58 ⟨fun h2 => B152_72 ?_, fun h2 => bad (fun e => h2 e.2) s1 hs1⟩)), fun h1 => bad (fun e => h1 e.1) s zFr.rf⟩
    have ho : okRun a c := ⟨hc, h1, h2⟩
    refine m34 hc6 (B152_82 ?_)
    have g7 : ∀ k, s1 7 k = s 7 k := fun k => congrFun (hs1 7 rfl) k
    have g30 : ∀ k, s1 30 k = s 30 k := fun k => congrFun (hs1 30 rfl) k
    have g31 : s1 31 c.toNat = a 71 c.toNat := (congrFun (hs1 31 rfl) _).trans ((congrFun e31 _).trans hd.2)
    have hm : zR (a 71 c.toNat) := by
      rw [← hd.2, ← e31]
      exact (hok 31 c.toNat).2 rfl
    have hl : zR (lapF a c.toNat (a 70 c.toNat) (a 71 c.toNat)) := by
      have := lapF_1 a c.toNat (a 70 c.toNat) (a 71 c.toNat)
      unfold zR
      omega
    rw [g31, wr_back hm hl, g30, g7, g7]
    have h := h _ (by
      rw [if_pos ho]
      exact (((hs1.UU 7 3 _).UU 7 5 _).UU 30 _ _).UU 31 _ _)
    rw [if_pos hc, if_pos ho.2] at h
    exact h
  · have hc : ¬ isCh a c := by omega
    have h := h s (by rw [if_neg (fun e : okRun a c => hc e.1)]; exact zFr.rf)
    rw [if_neg hc] at h
    exact h
theorem m35 {p v b : Int} (hp : 0 ≤ p ∧ p < 16) (hb : b = 0 ∨ b = 1) (h : Q none (zU (zU (zU s 32 p.toNat (wr (s 32 p.toNat + v))) 7 4 (wr (s 7 4 + v))) 7 7 (wr (s 7 7 + b)))) : zE x (d + 1) 35 [.inr (.inl 7), .inl p, .inl v, .inl b] s Q :=
  N35 (B35_0 ⟨fun h0 => absurd h0 (by omega), fun _ => ⟨fun h0 => absurd h0 (by omega), fun _ => ⟨by omega, by omega, by omega, by omega, fun h1 => B35_43 (B35_44 (B35_48 (by subst h1; exact h))), fun h1 => B35_44 (B35_48 (by rcases hb with hb | hb; exact absurd hb h1; subst hb; exact h))⟩⟩⟩)
theorem c_ask {p : Int} (hI : zFolk a) (hD : zDed a) (hs : zSim a s) (h : Q (some (.inl (rAsk a p))) (uAsk a s p)) : zE x (d + 6) 153 [.inr (.inl 0), .inl p] s Q := by
  have e30 : s 30 = a 30 := hs 30 rfl
  have e32 : s 32 = a 32 := hs 32 rfl
  unfold uAsk rAsk at h
  refine N153 (B153_0 (m41 hs (B153_8 ⟨fun h0 => B153_13 ?_, fun h0 => ?_⟩)))
  · have hp : isSp a p := by omega
    have i1 := hI.1.1
    have i2 := hI.1.2.1
    have i3 := hI.2.2 p.toNat (by omega)
    rw [if_pos hp, if_pos hp] at h
    have eN : s 30 (a 47 p.toNat).toNat = askN a p.toNat := by
      rw [e30, (hD.1 (a 47 p.toNat).toNat (by omega)).1]
      rfl
    have eV : max 0 (wr (paysF a p.toNat (askN a p.toNat) - s 32 p.toNat)) = askV a p.toNat := by
      rw [e32, hD.2.1 p.toNat (by omega)]
      rfl
    refine m42 hI hs hp (B153_25 (m25 (c := a 47 p.toNat) (by omega) (B153_28 (m54 hI hs hp (B153_39 (m27 (by omega) (B153_47 (m55 hI hs hp (B153_67 (m35 (by omega) ?_ (B153_70 ?_)))))))))))
    · split
      · exact Or.inr rfl
      · exact Or.inl rfl
    · rw [eN, eV]
      exact h
  · rw [if_neg (by omega), if_neg (by omega)] at h
    exact h
theorem m33 {f : Nat → Int} (h : Q (some (.inl (sumN f 6))) s) : ∀ (j k : Nat) (o : Option zV), k + j = 6 → (∀ c, c < 6 → s 30 c = f c) → zJ x d 33 13 [some (.inr (.inl 7)), some (.inl (sumN f k)), some (.inr (.inl 30)), some (.inl 6), some (.inl (k : Int)), o] [] s Q := by
  intro j
  induction j with
  | zero => intro k o hk hf; exact B33_13 ⟨fun _ => B33_36 (zQi h (by rw [show k = 6 by omega])), fun h0 => absurd h0 (by omega)⟩
  | succ j ih =>
    intro k o hk hf
    refine B33_13 ⟨fun h0 => absurd h0 (by omega), fun _ => ?_⟩
    rw [Int.toNat_natCast, hf k (by omega), show wr ((k : Int) + 1) = ((k + 1 : Nat) : Int) by rw [wr_id (by unfold zR; omega)]; omega]
    exact ⟨by omega, by omega, ih (k + 1) _ (by omega) hf⟩
theorem m36_a (h : ∀ s', zFr [30, 31] s s' → (∀ c : Nat, c < 6 → s' 30 c = 0 ∧ s' 31 c = 0) → zJ x d 36 30 [some (.inr (.inl 7)), some (.inl 0)] [] s' Q) : ∀ (j k : Nat) (t : zSt), k + j = 6 → zFr [30, 31] s t → (∀ c : Nat, c < k → t 30 c = 0 ∧ t 31 c = 0) → zJ x d 36 2 [some (.inr (.inl 7)), some (.inl (k : Int))] [] t Q := by
  intro j
  induction j with
  | zero => intro k t hk ht h0; exact B36_2 ⟨fun _ => B36_28 (h t ht (fun c hc => h0 c (by omega))), fun e => absurd e (by omega)⟩
  | succ j ih =>
    intro k t hk ht h0
    refine B36_2 ⟨fun e => absurd e (by omega), fun _ => ?_⟩
    rw [Int.toNat_natCast, show wr ((k : Int) + 1) = ((k + 1 : Nat) : Int) by rw [wr_id (by unfold zR; omega)]; omega]
    refine ⟨by omega, by omega, by omega, by omega, ih (k + 1) _ (by omega) ((ht.U rfl _ _).U rfl _ _) (fun c hc => ?_)⟩
    by_cases e : c = k
    · subst e
      rw [zU_at, zU_ne (by decide), zU_at]
      exact ⟨if_pos rfl, if_pos rfl⟩
    · have q := h0 c (by omega)
      rw [zU_at, zU_ne (by decide), zU_at, zU_ne (by decide)]
      exact ⟨(if_neg e).trans q.1, (if_neg e).trans q.2⟩
theorem m36_b (h : ∀ s', zFr [32] s s' → (∀ c : Nat, c < 16 → s' 32 c = 0) → Q none (zU s' 7 6 (wr (s' 7 6 + 1)))) : ∀ (j k : Nat) (t : zSt), k + j = 16 → zFr [32] s t → (∀ c : Nat, c < k → t 32 c = 0) → zJ x d 36 30 [some (.inr (.inl 7)), some (.inl (k : Int))] [] t Q := by
  intro j
  induction j with
  | zero => intro k t hk ht h0; exact B36_30 ⟨fun _ => B36_49 (h t ht (fun c hc => h0 c (by omega))), fun e => absurd e (by omega)⟩
  | succ j ih =>
    intro k t hk ht h0
    refine B36_30 ⟨fun e => absurd e (by omega), fun _ => ?_⟩
    rw [Int.toNat_natCast, show wr ((k : Int) + 1) = ((k + 1 : Nat) : Int) by rw [wr_id (by unfold zR; omega)]; omega]
    refine ⟨by omega, by omega, ih (k + 1) _ (by omega) (ht.U rfl _ _) (fun c hc => ?_)⟩
    rw [zU_at]
    by_cases e : c = k
    · exact if_pos e
    · exact (if_neg e).trans (h0 c (by omega))
theorem c_anew (hD : zDed a) (hs : zSim a s) (h : ∀ s', zFr [7, 30, 31, 32] s s' → (∀ c : Nat, c < 6 → s' 30 c = 0 ∧ s' 31 c = 0) → (∀ c : Nat, c < 16 → s' 32 c = 0) → (∀ k, s' 7 k = if k = 6 then wr (s 7 6 + 1) else s 7 k) → Q (some (.inl (rAnew a))) s') : zE x (d + 2) 154 [.inr (.inl 0)] s Q := by
  have e30 : s 30 = a 30 := hs 30 rfl
  refine N154 (B154_0 (N33 (B33_0 (m33 (f := fun c => a 70 c) (B154_7 (N36 (B36_0 (m36_a (s := s) (fun s1 h1 z1 => m36_b (s := s1) (fun s2 h2 z2 => B154_15 (h _ ?_ ?_ ?_ ?_)) 16 0 s1 (by omega) zFr.rf (fun c hc => absurd hc (by omega))) 6 0 s (by omega) zFr.rf (fun c hc => absurd hc (by omega)))))) 6 0 none (by omega) (fun c hc => ?_)))))
  · exact ((h1.le [7, 30, 31, 32] rfl).tr (h2.le _ rfl)).U rfl _ _
  · intro c hc
    rw [zU_ne (by decide), zU_ne (by decide), h2 30 rfl, h2 31 rfl]
    exact z1 c hc
  · intro c hc
    rw [zU_ne (by decide)]
    exact z2 c hc
  · intro k
    rw [zU_at, h2 7 rfl, h1 7 rfl]
  · rw [e30]
    exact (hD.1 c hc).1
theorem c_led {w : Int} (hD : zDed a) (hs : zSim a s) (h : Q (some (.inl (rLed a w))) s) : zE x (d + 2) 155 [.inr (.inl 0), .inl w] s Q := by
  have e7 : s 7 = a 7 := hs 7 rfl
  obtain ⟨_, _, d1, d2, d3, d4, d5⟩ := hD
  have h := fun v (e : rLed a w = v) => zQi h e
  unfold rLed at h
  refine N155 (B155_0 ⟨fun h0 => B155_36 (N28 (B28_0 (B155_43 (h _ ?_)))), fun h0 => ⟨fun h1 => B155_44 (N29 (B29_0 (B155_51 (h _ ?_)))), fun h1 => ⟨fun h2 => B155_52 (N31 (B31_0 (B155_59 (h _ ?_)))), fun h2 => ⟨fun h3 => B155_60 (N30 (B30_0 (B155_67 (h _ ?_)))), fun h3 => ⟨fun h4 => B155_68 (N32 (B32_0 (B155_75 (h _ ?_)))), fun h4 => B155_76 (h _ ?_)⟩⟩⟩⟩⟩)
  · subst h0; rw [e7, d1]; rfl
  · subst h1; rw [e7, d2]; rfl
  · subst h2; rw [e7, d3]; rfl
  · subst h3; rw [e7, d4]; rfl
  · subst h4; rw [e7, d5]; rfl
  · rw [if_neg (by omega)]
noncomputable def uImage (s : zSt) : zSt := zU (zU (zU (zU (zU (zU (zF (zF (zF s 33 (zCpF (s 30) (s 33) 0 0 6)) 34 (zCpF (s 31) (s 34) 0 0 6)) 35 (zCpF (s 32) (s 35) 0 0 16)) 8 3 (s 7 3)) 8 4 (s 7 4)) 8 5 (s 7 5)) 8 6 (s 7 6)) 8 7 (s 7 7)) 0 8 1
noncomputable def uBack (s : zSt) : zSt := zU (zU (zU (zU (zU (zF (zF (zF s 30 (zCpF (s 33) (s 30) 0 0 6)) 31 (zCpF (s 34) (s 31) 0 0 6)) 32 (zCpF (s 35) (s 32) 0 0 16)) 7 3 (s 8 3)) 7 4 (s 8 4)) 7 5 (s 8 5)) 7 6 (s 8 6)) 7 7 (s 8 7)
theorem c_image (hD : zDed a) (hs : zSim a s) (h : Q (some (.inl (a 73 0))) (uImage s)) : zE x (d + 2) 156 [.inr (.inl 0)] s Q := by
  have e7 : s 7 = a 7 := hs 7 rfl
  refine N156 (B156_0 (N37b (B37b_0 ⟨by omega, by omega, by omega, by omega, by omega, by omega, by omega, by omega, by omega, by omega, by omega, by omega, by omega, by omega, by omega, B156_11 ⟨by omega, N28 (B28_0 (B156_23 (zQi h ?_)))⟩⟩)))
  show a 73 0 = s 7 3
  rw [e7, hD.2.2.1]
theorem c_back (hG : zImg a) (hs : zSim a s) (h : Q (some (.inl (if a 42 47 = 0 then -5 else a 76 0))) (if a 42 47 = 0 then s else uBack s)) : zE x (d + 2) 157 [.inr (.inl 0)] s Q := by
  have e8 : s 8 = a 8 := hs 8 rfl
  have e0 : s 0 8 = a 42 47 := (congrFun (hs 0 rfl) 8).trans hG.2.2.2
  refine N157 (B157_0 ⟨fun h0 => B157_10 (N37a (B37a_0 ⟨by omega, by omega, by omega, by omega, by omega, by omega, by omega, by omega, by omega, by omega, by omega, by omega, by omega, by omega, by omega, B157_21 (N28 (B28_0 (B157_28 ?_)))⟩)), fun h0 => ?_⟩)
  · rw [if_neg (by omega), if_neg (by omega)] at h
    refine zQi h ?_
    show a 76 0 = s 8 3
    rw [e8, hG.2.2.1.1]
  · rw [if_pos (by omega), if_pos (by omega)] at h
    exact h
end ZDeed
