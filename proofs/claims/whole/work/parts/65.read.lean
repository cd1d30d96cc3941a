/-! the law's text read by the reference: numbers, operands -/
abbrev rfF (a s : zSt) : Prop := zFr [42, 58, 59] a s ∧ (∀ k, k < 25 ∨ 28 < k → s 42 k = a 42 k) ∧ ∀ k, k < 130 → s 58 k = a 58 k ∧ s 59 k = a 59 k
abbrev rfD (s : zSt) (D : List (Int × Int)) : Prop := s 42 28 = D.length ∧ ∀ k o, D[k]? = some o → s 58 (130 + k) = o.1 ∧ s 59 (130 + k) = o.2
abbrev rfG (a s : zSt) (p : Nat) (dep : Int) (D : List (Int × Int)) : Prop := rfF a s ∧ s 42 25 = p ∧ s 42 26 = -1 ∧ s 42 27 = dep ∧ rfD s D
abbrev rfX (a s : zSt) (q : Nat) (n : Int) : Prop := rfF a s ∧ s 42 25 = q ∧ s 42 26 = q ∧ 0 ≤ s 42 28 ∧ s 42 28 ≤ n
def eOK (x : List Int) (n m : Nat) (a : zSt) (f : Nat → zPr) (dep : Int) : Prop := ∀ (s : zSt) (p : Nat) (D : List (Int × Int)) (Q : zQ), rfG a s p dep D → D.length ≤ p → p ≤ (a 42 24).toNat →
  ((f p).1 = true → ∀ s', rfG a s' (f p).2.1 dep (D ++ (f p).2.2) → Q none s') →
  ((f p).1 = false → ∀ s', rfX a s' (f p).2.1 ((D.length : Int) + ((f p).2.1 : Nat) - p + 1) → Q none s') → zE x n m [.inr (.inl 42)] s Q
theorem tpF_eq {a s : zSt} (h1 : s 57 = a 57) (h2 : s 42 24 = a 42 24) : tpF s = tpF a := by
  funext p
  unfold tpF
  rw [h1, h2]
section ZRead
variable {x : List Int} {d : Nat} {a s : zSt} {Q : zQ}
theorem rfF.U {k : Nat} {v : Int} (hs : rfF a s) (hk : 25 ≤ k ∧ k ≤ 28) : rfF a (zU s 42 k v) := ⟨hs.1.U rfl _ _, fun j hj => by
  rw [zU_at]
  exact (if_neg (by omega)).trans (hs.2.1 j hj), fun j hj => by
  rw [zU_ne (by decide), zU_ne (by decide)]
  exact hs.2.2 j hj⟩
theorem m187 {p : Nat} (h24 : 0 ≤ a 42 24 ∧ a 42 24 ≤ 120) (hs : rfF a s) (hp : s 42 25 = p) (h : Q (some (.inl (tpF a p))) s) : zE x (d + 1) 187 [.inr (.inl 42)] s Q := by
  have e24 : s 42 24 = a 42 24 := hs.2.1 24 (by omega)
  have e57 : s 57 = a 57 := hs.1 57 rfl
  refine N187 (B187_0 ⟨fun h0 => B187_23 (B187_24 (zQi h ?_)), fun h0 => ⟨by omega, by omega, B187_24 (zQi h ?_)⟩⟩)
  · exact if_neg (by omega)
  · rw [e57, hp, Int.toNat_natCast]
    exact if_pos (by omega)
theorem m188 {q : Nat} {dep : Int} {D : List (Int × Int)} (hs : rfG a s q dep D) (h : ∀ s', rfX a s' q D.length → Q none s') : zE x (d + 1) 188 [.inr (.inl 42)] s Q := by
  obtain ⟨f, g1, g2, g3, g4⟩ := hs
  refine N188 (B188_0 ⟨fun e => absurd e (by omega), fun _ => B188_15 (h _ ⟨f.U (by omega), g1, g1, ?_, ?_⟩)⟩)
  · show 0 ≤ s 42 28
    have := g4.1
    omega
  · show s 42 28 ≤ D.length
    have := g4.1
    omega
theorem w88_id {c : Int} (hc : -128 ≤ c ∧ c ≤ 127) : w8 (w8 c) = c := by unfold w8; omega
theorem m189 {q : Nat} {dep c v : Int} {D : List (Int × Int)} (hs : rfG a s q dep D) (hl : D.length < 130) (hc : -128 ≤ c ∧ c ≤ 127) (h : ∀ s', rfG a s' q dep (D ++ [(c, v)]) → Q none s') : zE x (d + 1) 189 [.inr (.inl 42), .inl c, .inl v] s Q := by
  obtain ⟨f, g1, g2, g3, g4, g5⟩ := hs
  refine N189 (B189_0 ?_)
  rw [g4, wr_id (x := 130 + (D.length : Int)) (by unfold zR; omega), wr_id (x := (D.length : Int) + 1) (by unfold zR; omega), show (130 + (D.length : Int)).toNat = 130 + D.length by omega, w88_id hc]
  refine ⟨by omega, by omega, by omega, by omega, h _ ⟨⟨((f.1.U rfl _ _).U rfl _ _).U rfl _ _, fun k hk => ?_, fun k hk => ?_⟩, g1, g2, g3, ?_, fun k o hk => ?_⟩⟩
  · show (if k = 28 then _ else s 42 k) = _
    rw [if_neg (by omega)]
    exact f.2.1 k hk
  · show (if k = 130 + D.length then _ else s 58 k) = _ ∧ (if k = 130 + D.length then _ else s 59 k) = _
    rw [if_neg (by omega), if_neg (by omega)]
    exact f.2.2 k hk
  · show (D.length : Int) + 1 = _
    rw [List.length_append]
    simp only [List.length_cons, List.length_nil]
    omega
  · show (if 130 + k = 130 + D.length then c else s 58 (130 + k)) = _ ∧ (if 130 + k = 130 + D.length then v else s 59 (130 + k)) = _
    by_cases e2 : k = D.length
    · rw [if_pos (by omega), if_pos (by omega)]
      rw [List.getElem?_append_right (by omega), show k - D.length = 0 by omega] at hk
      have := Option.some.inj hk
      rw [← this]
      exact ⟨rfl, rfl⟩
    · rw [if_neg (by omega), if_neg (by omega)]
      have hlt : k < D.length := by
        have := (List.getElem?_eq_some_iff.mp hk).1
        simp only [List.length_append, List.length_cons, List.length_nil] at this
        omega
      rw [List.getElem?_append_left hlt] at hk
      exact g5 k o hk
theorem m189x {q : Nat} {c v n : Int} (hs : rfX a s q n) (hn : n < 130) (h : ∀ s', rfX a s' q (n + 1) → Q none s') : zE x (d + 1) 189 [.inr (.inl 42), .inl c, .inl v] s Q := by
  obtain ⟨f, g1, g2, g3, g4⟩ := hs
  refine N189 (B189_0 ?_)
  rw [wr_id (x := 130 + s 42 28) (by unfold zR; omega), wr_id (x := s 42 28 + 1) (by unfold zR; omega)]
  refine ⟨by omega, by omega, by omega, by omega, h _ ⟨⟨((f.1.U rfl _ _).U rfl _ _).U rfl _ _, fun k hk => ?_, fun k hk => ?_⟩, g1, g2, ?_, ?_⟩⟩
  · show (if k = 28 then _ else s 42 k) = _
    rw [if_neg (by omega)]
    exact f.2.1 k hk
  · show (if k = (130 + s 42 28).toNat then _ else s 58 k) = _ ∧ (if k = (130 + s 42 28).toNat then _ else s 59 k) = _
    rw [if_neg (by omega), if_neg (by omega)]
    exact f.2.2 k hk
  · show 0 ≤ s 42 28 + 1
    omega
  · show s 42 28 + 1 ≤ n + 1
    omega
theorem m190 {c : Int} (h : Q (some (.inl (nmOf c))) s) : zE x (d + 1) 190 [.inl c] s Q := by
  refine N190 ?_
  repeat' (first | with_reducible refine B190_0 ?_ | with_reducible refine B190_88 ?_ | with_reducible refine B190_90 ?_ | with_reducible refine B190_92 ?_ | with_reducible refine B190_94 ?_ | with_reducible refine B190_96 ?_ | with_reducible refine B190_98 ?_ | with_reducible refine B190_100 ?_ | with_reducible refine ⟨fun _ => ?_, fun _ => ?_⟩ | refine ⟨by omega, by omega, ?_⟩ | fail)
  all_goals refine zQi h ?_
  all_goals unfold nmOf
  all_goals (repeat' split) <;> omega
theorem rfG.go {p : Nat} {dep : Int} {D : List (Int × Int)} (hs : rfG a s p dep D) (hp : p ≤ 120) : rfG a (zU s 42 25 (wr (s 42 25 + 1))) (p + 1) dep D := by
  obtain ⟨f, g1, g2, g3, g4⟩ := hs
  refine ⟨f.U (by omega), ?_, g2, g3, g4⟩
  show wr (s 42 25 + 1) = ((p + 1 : Nat) : Int)
  rw [g1, wr_id (by unfold zR; omega)]
  omega
theorem rfX.le {q : Nat} {n m : Int} (hs : rfX a s q n) (h : n ≤ m) : rfX a s q m := ⟨hs.1, hs.2.1, hs.2.2.1, hs.2.2.2.1, by have := hs.2.2.2.2; omega⟩
theorem m191_no {p : Nat} {D : List (Int × Int)} (hs : rfG a s p 6 D) (h : ∀ s', rfX a s' p D.length → Q (some (.inl 0)) s') : zE x (d + 2) 191 [.inr (.inl 42)] s Q :=
  N191 (B191_0 ⟨fun e => absurd hs.2.2.2.1 e, fun _ => m188 hs (fun s' h' => B191_13 ⟨Or.inl rfl, h s' h'⟩)⟩)
theorem m191_go {p : Nat} {dep : Int} {D : List (Int × Int)} (hs : rfG a s p dep D) (hd : 0 ≤ dep ∧ dep < 6) (hp : p ≤ 120) (h : ∀ s', rfG a s' (p + 1) (dep + 1) D → Q (some (.inl 1)) s') : zE x (d + 2) 191 [.inr (.inl 42)] s Q := by
  have hs' := hs
  obtain ⟨f, g1, g2, g3, g4⟩ := hs
  refine N191 (B191_0 ⟨fun e => B191_15 ⟨Or.inr rfl, h _ ⟨(f.U (by omega)).U (by omega), ?_, g2, ?_, g4⟩⟩, fun e => absurd (fun e2 => by omega) e⟩)
  · show wr (s 42 25 + 1) = ((p + 1 : Nat) : Int)
    rw [g1, wr_id (by unfold zR; omega)]
    omega
  · show wr (s 42 27 + 1) = dep + 1
    rw [g3, wr_id (by unfold zR; omega)]
theorem m192_loop {dep : Int} {D : List (Int × Int)} (h24 : 0 ≤ a 42 24 ∧ a 42 24 ≤ 120) : ∀ (j c p : Nat) (v : Int) (s : zSt), j + c = 4 → rfG a s p dep D → p ≤ (a 42 24).toNat → (0 ≤ v ∧ v ≤ 9999) → (c = 0 → v = 0) → (c = 1 → v ≤ 9) → (c = 2 → v ≤ 99) → (c = 3 → v ≤ 999) →
    (∀ s' (c' : Int), rfG a s' (pNum (tpF a) j p v).1 dep D → ((c' = 0 ∧ c = 0 ∧ (j = 0 ∨ ¬ isDg (tpF a p))) ∨ (0 < c' ∧ (0 < c ∨ (j ≠ 0 ∧ isDg (tpF a p))))) → zJ x (d + 1) 192 52 [some (.inr (.inl 42)), some (.inl (pNum (tpF a) j p v).2), some (.inl c')] [] s' Q) → zJ x (d + 1) 192 4 [some (.inr (.inl 42)), some (.inl v), some (.inl (c : Int))] [] s Q := by
  intro j
  induction j with
  | zero => intro c p v s hc hs hp hv v0 v1 v2 v3 h; exact B192_4 ⟨fun _ => h s c hs (by omega), fun e => absurd e (by omega)⟩
  | succ j ih =>
    intro c p v s hc hs hp hv v0 v1 v2 v3 h
    rw [pNum_s] at h
    refine B192_4 ⟨fun e => absurd e (by omega), fun _ => m187 h24 hs.1 hs.2.1 (B192_13 (m170 (B192_20 ⟨fun h1 => ?_, fun h1 => m187 h24 hs.1 hs.2.1 (B192_31 ?_)⟩)))⟩
    · have nd : ¬ isDg (tpF a p) := fun e => by
        unfold isDg at e
        omega
      rw [if_neg nd] at h
      refine h s c hs ?_
      by_cases c0 : c = 0
      · exact Or.inl ⟨by omega, c0, Or.inr nd⟩
      · exact Or.inr ⟨by omega, Or.inl (by omega)⟩
    · have hd : isDg (tpF a p) := by
        unfold isDg
        omega
      rw [if_pos hd] at h
      rw [wr_id (x := 10 * v) (by unfold zR; omega), wr_id (x := 10 * v + tpF a p) (by unfold zR; omega), wr_id (x := 10 * v + tpF a p - 48) (by unfold zR; omega), show wr ((c : Int) + 1) = ((c + 1 : Nat) : Int) by rw [wr_id (by unfold zR; omega)]; omega, show 10 * v + tpF a p - 48 = v * 10 + tpF a p - 48 by omega]
      have hp2 : p + 1 ≤ (a 42 24).toNat := by
        refine Nat.lt_of_not_le (fun e => ?_)
        have := tpF_end a p e
        omega
      refine ih (c + 1) (p + 1) _ _ (by omega) (hs.go (by omega)) hp2 (by omega) (by omega) (by omega) (by omega) (by omega) (fun s' c' h1 h2 => h s' c' h1 (Or.inr ⟨?_, Or.inr ⟨by omega, hd⟩⟩))
      rcases h2 with h2 | h2
      · omega
      · exact h2.1
theorem m192 {dep : Int} {D : List (Int × Int)} {p : Nat} (h24 : 0 ≤ a 42 24 ∧ a 42 24 ≤ 120) (hs : rfG a s p dep D) (hl : D.length ≤ p) (hp : p ≤ (a 42 24).toNat)
    (h1 : isDg (tpF a p) → (pFig (tpF a) p).1 = true → ∀ s', rfG a s' (pFig (tpF a) p).2.1 dep (D ++ (pFig (tpF a) p).2.2) → Q none s')
    (h0 : ∀ s' q, ((isDg (tpF a p) ∧ (pFig (tpF a) p).1 = false ∧ q = (pFig (tpF a) p).2.1) ∨ (¬ isDg (tpF a p) ∧ q = p)) → rfX a s' q ((D.length : Int) + 1) → Q none s') : zE x (d + 2) 192 [.inr (.inl 42)] s Q := by
  have bad : ∀ s' q v c, rfG a s' q dep D → ((isDg (tpF a p) ∧ (pFig (tpF a) p).1 = false ∧ q = (pFig (tpF a) p).2.1) ∨ (¬ isDg (tpF a p) ∧ q = p)) → zJ x (d + 1) 192 70 [some (.inr (.inl 42)), some (.inl v), some (.inl c)] [] s' Q := fun s' q v c g e =>
    B192_70 (m188 g (fun s1 g1 => B192_74 (m189x g1 (by omega) (fun s2 g2 => B192_80 (h0 s2 q e g2)))))
  refine N192 (B192_0 (m192_loop h24 4 0 p 0 s rfl hs hp (by omega) (by omega) (by omega) (by omega) (by omega) (fun s' c' g e => B192_52 ⟨fun c0 => bad s' _ _ _ g ?_, fun c0 => m187 h24 g.1 g.2.1 (B192_60 (m170 (B192_67 ⟨fun nd => B192_74 (m189 g (by omega) (by omega) (fun s2 g2 => B192_80 ?_)), fun hd => bad s' _ _ _ g ?_⟩)))⟩)))
  · rcases e with e | e
    · have nd : ¬ isDg (tpF a p) := by
        rcases e.2.2 with e | e
        · omega
        · exact e
      exact Or.inr ⟨nd, by rw [pNum_s, if_neg nd]⟩
    · omega
  · have dg : isDg (tpF a p) := by
      rcases e with e | e
      · omega
      · rcases e.2 with e | e
        · omega
        · exact e.2
    have e2 : pFig (tpF a) p = (true, (pNum (tpF a) 4 p 0).1, [(1, (pNum (tpF a) 4 p 0).2)]) := if_neg (fun e => by
      unfold isDg at e
      omega)
    rw [e2] at h1
    exact h1 dg rfl s2 g2
  · have dg : isDg (tpF a p) := by
      rcases e with e | e
      · omega
      · rcases e.2 with e | e
        · omega
        · exact e.2
    have e2 : pFig (tpF a) p = (false, (pNum (tpF a) 4 p 0).1, []) := if_pos (by
      unfold isDg
      omega)
    rw [e2]
    exact Or.inl ⟨dg, rfl, rfl⟩
theorem nm_nd {c : Int} (h : 0 ≤ nmOf c) : ¬ isDg c := by
  unfold nmOf at h
  unfold isDg
  repeat' split at h
  all_goals omega
theorem nm_R (c : Int) : -1 ≤ nmOf c ∧ nmOf c ≤ 5 := by
  unfold nmOf
  repeat' split
  all_goals omega
theorem m193_one {dep : Int} {p : Nat} {D : List (Int × Int)} {k : zPr} (h24 : 0 ≤ a 42 24 ∧ a 42 24 ≤ 120) (hs : rfG a s p dep D) (hl : D.length ≤ p) (hp : p ≤ (a 42 24).toNat)
    (h1 : (pOne (tpF a) p k).1 = true → ∀ s', rfG a s' (pOne (tpF a) p k).2.1 dep (D ++ (pOne (tpF a) p k).2.2) → Q none s')
    (h0 : (pOne (tpF a) p k).1 = false → ∀ s', rfX a s' (pOne (tpF a) p k).2.1 ((D.length : Int) + ((pOne (tpF a) p k).2.1 : Nat) - p + 1) → Q none s')
    (hkf : tpF a p ≠ 33 → tpF a p ≠ 45 → tpF a p ≠ 40 → k = (false, p, []))
    (hk1 : pOne (tpF a) p k = k → tpF a p = 33 ∨ tpF a p = 45 → zJ x (d + 3) 193 46 [some (.inr (.inl 42)), some (.inl (tpF a p))] [] s Q)
    (hk2 : pOne (tpF a) p k = k → tpF a p = 40 → zJ x (d + 3) 193 87 [some (.inr (.inl 42)), some (.inl (tpF a p))] [] s Q) : zE x (d + 4) 193 [.inr (.inl 42)] s Q := by
  refine N193 (B193_0 (m187 h24 hs.1 hs.2.1 (B193_4 (m190 (B193_9 ⟨fun hn => ?_, fun hn => m190 (B193_18 (m189 hs (by omega) (by omega) (fun s1 g1 => B193_21 (B193_154 ?_))))⟩)))))
  · have nn : ¬ 0 ≤ nmOf (tpF a p) := by omega
    have e0 : ¬ isDg (tpF a p) → pOne (tpF a) p k = k := fun nd => by
      unfold pOne
      rw [if_neg nd, if_neg nn]
    by_cases c1 : tpF a p = 33 ∨ tpF a p = 45
    · have e := hk1 (e0 (fun e => by unfold isDg at e; omega)) c1
      exact B193_34 ⟨fun _ => e, fun _ => ⟨fun c2 => absurd c1 (by omega), fun _ => e⟩⟩
    · refine B193_34 ⟨fun c2 => absurd (Or.inl c2) c1, fun _ => ⟨fun _ => ?_, fun c2 => absurd (Or.inr (Decidable.not_not.mp c2)) c1⟩⟩
      by_cases c3 : tpF a p = 40
      · exact hk2 (e0 (fun e => by unfold isDg at e; omega)) c3
      · have ek := hkf (by omega) (by omega) c3
        refine B193_87 ⟨fun _ => B193_150 (m192 h24 hs hl hp (fun dg e s' g => B193_154 ?_) (fun s' q e g => B193_154 ?_)), fun c => absurd c3 c⟩
        · have e3 : pOne (tpF a) p k = pFig (tpF a) p := if_pos dg
          rw [e3] at h1
          exact h1 e s' g
        · rcases e with ⟨dg, e, eq⟩ | ⟨nd, eq⟩
          · have e3 : pOne (tpF a) p k = pFig (tpF a) p := if_pos dg
            rw [e3] at h0
            rw [eq] at g
            refine h0 e s' (g.le ?_)
            have e4 : p ≤ (pFig (tpF a) p).2.1 := by
              have q := pNum_good (tpF_end a) 4 p 0 hp
              unfold pFig
              split
              · exact q.1
              · exact q.1
            omega
          · rw [e0 nd, ek] at h0
            rw [eq] at g
            refine h0 rfl s' (g.le ?_)
            show (D.length : Int) + 1 ≤ D.length + (p : Nat) - p + 1
            omega
  · have hn : 0 ≤ nmOf (tpF a p) := by omega
    have e3 : pOne (tpF a) p k = (true, p + 1, [(2, nmOf (tpF a p))]) := by
      unfold pOne
      rw [if_neg (nm_nd hn), if_pos hn]
    rw [e3] at h1
    exact h1 rfl _ (g1.go (by omega))
end ZRead
