/-! the class reads operands -/
section ZParse3
variable {x : List Int} {d : Nat} {a s : zSt} {Q : zQ} {q : Nat}
theorem m63_5 {dep : Int} {f : Nat → zPr} (hf : cOK x d 64 [.inr (.inl 1), .inl dep] a q f) : cOK x (d + 1) 63 [.inr (.inl 1), .inl (4 + 1), .inl dep] a q f := by
  intro s p D Q hs hD hl hp h1 h0
  refine N63 (B63_0 ⟨fun e => absurd e (by omega), fun _ => hf s p D _ hs hD hl hp (fun e s' f1 f2 => B63_10 ⟨by omega, h1 e s' f1 f2⟩) (fun e s' v f1 f2 => B63_10 ⟨by omega, h0 e s' v f1 f2⟩)⟩)
theorem m63_all {dep : Int} {f : Nat → zPr} (hT : zTap a) (hq : q = 12 ∨ q = 13) (hg : fGood (a 42 24).toNat f) (hf : cOK x (d + 1) 64 [.inr (.inl 1), .inl dep] a q f) : cOK x (d + 7) 63 [.inr (.inl 1), .inl 0, .inl dep] a q (pAll (tpF a) f) := by
  have e := tpF_end a
  have g4 := pLv_good (lv := 4) e (by omega) hg
  have g3 := pLv_good (lv := 3) e (by omega) g4
  have g2 := pLv_good (lv := 2) e (by omega) g3
  have g1 := pLv_good (lv := 1) e (by omega) g2
  have c4 := m63 (lv := 4) hT hq (by omega) hg (m63_5 hf)
  have c3 := m63 (lv := 3) hT hq (by omega) g4 c4
  have c2 := m63 (lv := 2) hT hq (by omega) g3 c3
  have c1 := m63 (lv := 1) hT hq (by omega) g2 c2
  exact m63 (lv := 0) hT hq (by omega) g1 c1
theorem m65 {p : Nat} (hT : zTap a) (hq : q = 12 ∨ q = 13) (hs : csF a q s p) (hp : p ≤ 120) (h1 : tpF a p = 41 → Q (some (.inl 1)) (zU s 1 2 (wr (s 1 2 + 1)))) (h0 : tpF a p ≠ 41 → Q (some (.inl 0)) (zU s 1 2 (wr (s 1 2 + 0)))) : zE x (d + 2) 65 [.inr (.inl 1)] s Q := by
  refine N65 (B65_0 (m67 hT hq hs (fun y hy => B65_4 ⟨fun e => B65_13 (B65_14 ⟨fun _ => B65_28 (B65_29 ⟨by omega, h0 (by omega)⟩), fun e => absurd rfl e⟩), fun e => B65_14 ⟨fun e => absurd e (by decide), fun _ => B65_29 ⟨by omega, h1 (by omega)⟩⟩⟩)))
theorem m64_one {dep : Int} {p : Nat} {D : List Int} {k : zPr} (hT : zTap a) (hq : q = 12 ∨ q = 13) (hs : csF a q s p) (hD : csD q s D) (hl : D.length ≤ p) (hp : p ≤ (a 42 24).toNat)
    (h1 : (pOne (tpF a) p k).1 = true → ∀ s', csF a q s' (pOne (tpF a) p k).2.1 → csD q s' (D ++ (pOne (tpF a) p k).2.2.map encO) → Q (some (.inl 1)) s')
    (h0 : (pOne (tpF a) p k).1 = false → ∀ s' v, csF a q s' (pOne (tpF a) p k).2.1 → (v = 0 ∨ (v = 1 ∧ isDg (tpF a (pOne (tpF a) p k).2.1))) → Q (some (.inl v)) s')
    (hk : ¬ isDg (tpF a p) → ¬ 0 ≤ nmOf (tpF a p) → pOne (tpF a) p k = k → ∀ y w : Int, sgR y (tpF a p) → zJ x (d + 2) 64 46 [some (.inr (.inl 1)), some (.inl dep), some (.inl y), some (.inl w)] [] s Q) : zE x (d + 3) 64 [.inr (.inl 1), .inl dep] s Q := by
  have hN : (a 42 24).toNat ≤ 120 := by have := hT.1; have := hT.2.1; omega
  refine N64 (B64_0 (m67 hT hq hs (fun y hy => B64_4 (m69 (B64_9 ⟨fun g => B64_18 (m70 (B64_22 ?_)), fun g => m66 hT hq (by omega) hs hD hp (fun s' f1 f2 => B64_16 ⟨by omega, ?_⟩)⟩)))))
  · rw [(lvOf_sg hy).2]
    have nd : ¬ isDg (tpF a p) := fun e => by
      have : isDg y := by omega
      rw [if_pos this] at g
      omega
    by_cases hn : 0 ≤ nmOf (tpF a p)
    · have ep : pOne (tpF a) p k = (true, p + 1, [(2, nmOf (tpF a p))]) := by
        unfold pOne
        rw [if_neg nd, if_pos hn]
      rw [ep] at h1
      refine ⟨fun e => absurd e (by omega), fun _ => ?_⟩
      have nr : nmOf (tpF a p) ≤ 5 := by
        unfold nmOf
        repeat' split
        all_goals omega
      rw [wr_id (x := -1 - nmOf (tpF a p)) (by unfold zR; omega)]
      exact m68 hq (hs.go hq (by omega)) (fun s2 k1 k2 => B64_44 ⟨by omega, h1 rfl s2 k1 (k2 D (hD.at hq) (by omega))⟩)
    · have ep : pOne (tpF a) p k = k := by
        unfold pOne
        rw [if_neg nd, if_neg hn]
      exact ⟨fun _ => hk nd hn ep y _ hy, fun e => absurd (by omega) e⟩
  · have hd : isDg (tpF a p) := by
      by_cases e : isDg y
      · omega
      · rw [if_neg e] at g; exact absurd rfl g
    have ep : pOne (tpF a) p k = pFig (tpF a) p := if_pos hd
    rw [ep] at h1 h0
    unfold pFig at h1 h0
    by_cases e : isDg (tpF a (pNum (tpF a) 4 p 0).1)
    · rw [if_pos e] at h0
      exact h0 rfl s' 1 f1 (Or.inr ⟨rfl, e⟩)
    · rw [if_neg e] at h1
      exact h1 rfl s' f1 f2
theorem m64 (hT : zTap a) (hq : q = 12 ∨ q = 13) : ∀ (r n : Nat) (dep : Int), dep + r = 6 → 0 ≤ dep → 8 * r + 3 ≤ n → cOK x n 64 [.inr (.inl 1), .inl dep] a q (pOpnd (tpF a) r)
  | 0, n, dep, hr, h00, hn => by
    intro s p D Q hs hD hl hp h1 h0
    obtain ⟨d, rfl⟩ : ∃ d, n = d + 3 := ⟨n - 3, by omega⟩
    refine m64_one (d := d) hT hq hs hD hl hp h1 h0 (fun nd nn ep y w hy => ?_)
    have ep : pOpnd (tpF a) 0 p = (false, p, []) := ep
    rw [ep] at h0
    have out : zJ x (d + 2) 64 70 [some (.inr (.inl 1)), some (.inl dep), some (.inl y), some (.inl w)] [] s Q := B64_70 ⟨by omega, h0 rfl s 0 hs (Or.inl rfl)⟩
    have out2 : zJ x (d + 2) 64 64 [some (.inr (.inl 1)), some (.inl dep), some (.inl y), some (.inl w)] [] s Q := B64_64 ⟨fun e => absurd e (by omega), fun _ => out⟩
    exact B64_46 ⟨fun _ => out2, fun _ => ⟨fun _ => out2, fun _ => ⟨fun _ => out, fun _ => out2⟩⟩⟩
  | r + 1, n, dep, hr, h00, hn => by
    intro s p D Q hs hD hl hp h1 h0
    have hN : (a 42 24).toNat ≤ 120 := by have := hT.1; have := hT.2.1; omega
    obtain ⟨d, rfl⟩ : ∃ d, n = d + 8 := ⟨n - 8, by omega⟩
    have sub := m64 hT hq r (d + 7) (dep + 1) (by omega) (by omega) (by omega)
    have gs := pOpnd_good (tpF_end a) r
    have all := m63_all (x := x) (d := d) hT hq gs (m64 hT hq r (d + 1) (dep + 1) (by omega) (by omega) (by omega))
    have ga := pAll_good (tpF_end a) gs
    refine m64_one (d := d + 5) hT hq hs hD hl hp h1 h0 (fun nd nn ep y w hy => ?_)
    have eq : pOpnd (tpF a) (r + 1) p = (if tpF a p = 40 then (if (pAll (tpF a) (pOpnd (tpF a) r) (p + 1)).1 = true ∧ tpF a (pAll (tpF a) (pOpnd (tpF a) r) (p + 1)).2.1 = 41 then (true, (pAll (tpF a) (pOpnd (tpF a) r) (p + 1)).2.1 + 1, (pAll (tpF a) (pOpnd (tpF a) r) (p + 1)).2.2) else (false, (pAll (tpF a) (pOpnd (tpF a) r) (p + 1)).2.1, [])) else if tpF a p = 33 ∨ tpF a p = 45 then (if (pOpnd (tpF a) r (p + 1)).1 then (true, (pOpnd (tpF a) r (p + 1)).2.1, (pOpnd (tpF a) r (p + 1)).2.2 ++ [(if tpF a p = 33 then 3 else 4, 0)]) else (false, (pOpnd (tpF a) r (p + 1)).2.1, [])) else (false, p, [])) := ep
    have np : tpF a p ≠ -1 → p + 1 ≤ (a 42 24).toNat := fun e => Nat.lt_of_not_le (fun g => e (tpF_end a p g))
    by_cases c40 : tpF a p = 40
    · rw [if_pos c40] at eq
      have hp2 := np (by omega)
      have hy40 : y = 40 := by omega
      have g := ga (p + 1) hp2
      refine B64_46 ⟨fun _ => B64_64 ⟨fun _ => B64_72 ⟨fun e => absurd hy40 e, fun _ => ?_⟩, fun e => absurd (by omega) e⟩, fun e => absurd hy40 e⟩
      rw [wr_id (x := dep + 1) (by unfold zR; omega)]
      have bad : ∀ s', csF a q s' (pAll (tpF a) (pOpnd (tpF a) r) (p + 1)).2.1 → ¬ ((pAll (tpF a) (pOpnd (tpF a) r) (p + 1)).1 = true ∧ tpF a (pAll (tpF a) (pOpnd (tpF a) r) (p + 1)).2.1 = 41) → zJ x (d + 7) 64 110 [some (.inr (.inl 1)), some (.inl dep), some (.inl y), some (.inl w)] [] s' Q := fun s' f1 e => by
        rw [if_neg e] at eq
        rw [eq] at h0
        exact B64_110 (B64_111 ⟨by omega, h0 rfl s' 0 f1 (Or.inl rfl)⟩)
      have stay : ∀ s', csF a q s' (pAll (tpF a) (pOpnd (tpF a) r) (p + 1)).2.1 → csF a q (zU s' 1 2 (wr (s' 1 2 + 0))) (pAll (tpF a) (pOpnd (tpF a) r) (p + 1)).2.1 := fun s' f1 => f1.at hq (by
        have e := f1.2.2.2.2.2.1
        rw [e, wr_id (by unfold zR; omega)]
        omega)
      refine all _ (p + 1) D _ (hs.go hq (by omega)) (hD.at hq) (by omega) hp2 (fun e s' f1 f2 => B64_96 ⟨fun g => absurd g (by decide), fun _ => m65 hT hq f1 (by omega) (fun c41 => B64_103 ⟨fun g => absurd g (by decide), fun _ => B64_111 ⟨by omega, ?_⟩⟩) (fun c41 => B64_103 ⟨fun _ => bad _ (stay s' f1) (fun g => c41 g.2), fun g => absurd rfl g⟩)⟩) (fun e s' v f1 f2 => B64_96 ⟨fun _ => bad s' f1 (fun g => by rw [e] at g; exact absurd g.1 (by decide)), fun hv => m65 hT hq f1 (by omega) (fun c41 => ?_) (fun c41 => B64_103 ⟨fun _ => bad _ (stay s' f1) (fun g => c41 g.2), fun g => absurd rfl g⟩)⟩)
      · rw [if_pos ⟨e, c41⟩] at eq
        rw [eq] at h1
        exact h1 rfl _ (f1.go hq (by omega)) (f2.at hq)
      · exfalso
        rcases f2 with f2 | f2
        · exact hv f2
        · have := f2.2
          omega
    · rw [if_neg c40] at eq
      by_cases c33 : tpF a p = 33 ∨ tpF a p = 45
      · rw [if_pos c33] at eq
        have hp2 := np (by omega)
        have hyc : y = tpF a p := by omega
        have g := gs (p + 1) hp2
        have go : zJ x (d + 7) 64 64 [some (.inr (.inl 1)), some (.inl dep), some (.inl y), some (.inl w)] [] s Q := by
          refine B64_64 ⟨fun _ => B64_72 ⟨fun _ => B64_112 ?_, fun e => absurd (by omega) e⟩, fun e => absurd (by omega) e⟩
          rw [wr_id (x := dep + 1) (by unfold zR; omega)]
          have wrt : ∀ s' (v : Int), csF a q s' (pOpnd (tpF a) r (p + 1)).2.1 → (∀ s2, csF a q s2 (pOpnd (tpF a) r (p + 1)).2.1 → (∀ D', csD q s' D' → D'.length < 121 → csD q s2 (D' ++ [encO (if tpF a p = 33 then 3 else 4, 0)])) → Q (some (.inl 1)) s2) → zJ x (d + 7) 64 124 [some (.inr (.inl 1)), some (.inl dep), some (.inl y), some (.inl w)] [] s' Q := fun s' _ f1 hk => by
            refine B64_124 ⟨fun e => B64_136 (B64_138 (m68 hq f1 (fun s2 k1 k2 => B64_141 ⟨by omega, hk s2 k1 ?_⟩))), fun e => B64_138 (m68 hq f1 (fun s2 k1 k2 => B64_141 ⟨by omega, hk s2 k1 ?_⟩))⟩
            · rw [if_neg (show ¬ tpF a p = 33 by omega)]
              exact k2
            · rw [if_pos (show tpF a p = 33 by omega)]
              exact k2
          refine sub _ (p + 1) D _ (hs.go hq (by omega)) (hD.at hq) (by omega) hp2 (fun e s' f1 f2 => B64_119 ⟨fun _ => wrt s' 0 f1 (fun s2 k1 k2 => ?_), fun g => absurd (by decide) g⟩) (fun e s' v f1 f2 => B64_119 ⟨fun hv => wrt s' 0 f1 (fun s2 k1 k2 => ?_), fun hv => ⟨by omega, ?_⟩⟩)
          · rw [if_pos e] at eq
            rw [eq] at h1
            have g3 := g.2.2 e
            refine h1 rfl s2 k1 ?_
            have k2 := k2 _ f2 (by rw [List.length_append, List.length_map]; omega)
            rw [List.append_assoc] at k2
            show csD q s2 (D ++ ((pOpnd (tpF a) r (p + 1)).2.2 ++ [(if tpF a p = 33 then 3 else 4, 0)]).map encO)
            rw [List.map_append]
            exact k2
          · rw [if_neg (by rw [e]; decide)] at eq
            rw [eq] at h0
            rcases f2 with f2 | f2
            · exact absurd f2 hv
            · exact h0 rfl s2 1 k1 (Or.inr ⟨rfl, f2.2⟩)
          · rw [if_neg (by rw [e]; decide)] at eq
            rw [eq] at h0
            exact h0 rfl s' 0 f1 (Or.inl rfl)
        exact B64_46 ⟨fun e => absurd e (by omega), fun _ => ⟨fun _ => go, fun _ => ⟨fun e => absurd (by omega) e, fun _ => go⟩⟩⟩
      · rw [if_neg c33] at eq
        rw [eq] at h0
        have out : zJ x (d + 7) 64 70 [some (.inr (.inl 1)), some (.inl dep), some (.inl y), some (.inl w)] [] s Q := B64_70 ⟨by omega, h0 rfl s 0 hs (Or.inl rfl)⟩
        exact B64_46 ⟨fun e => absurd e (by omega), fun _ => ⟨fun e => absurd e (by omega), fun _ => ⟨fun _ => out, fun e => absurd (by omega) e⟩⟩⟩
end ZParse3
