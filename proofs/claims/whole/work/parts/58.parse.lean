/-! the class reads numbers, levels -/
section ZParse2
variable {x : List Int} {d : Nat} {a s : zSt} {Q : zQ} {q : Nat}
theorem csF.go {p : Nat} (hs : csF a q s p) (hq : q = 12 ∨ q = 13) (hp : p ≤ 120) : csF a q (zU s 1 2 (wr (s 1 2 + 1))) (p + 1) := hs.at hq (by
  have e := hs.2.2.2.2.2.1
  rw [e, wr_id (by unfold zR; omega)]
  omega)
theorem m66_loop {D : List Int} (hT : zTap a) (hq : q = 12 ∨ q = 13) (hl : D.length < 121) : ∀ (j c p : Nat) (v : Int) (s : zSt), j + c = 4 → csF a q s p → csD q s D → p ≤ (a 42 24).toNat → (0 ≤ v ∧ v ≤ 9999) → (c = 0 → v = 0) → (c = 1 → v ≤ 9) → (c = 2 → v ≤ 99) → (c = 3 → v ≤ 999) → (∀ s', csF a q s' (pNum (tpF a) j p v).1 → csD q s' (D ++ [(pNum (tpF a) j p v).2]) → Q none s') → zJ x (d + 1) 66 4 [some (.inr (.inl 1)), some (.inl v), some (.inl (c : Int))] [] s Q := by
  have hN : (a 42 24).toNat ≤ 120 := by have := hT.1; have := hT.2.1; omega
  have fin : ∀ (c p : Nat) (v : Int) (s : zSt), csF a q s p → csD q s D → (∀ s', csF a q s' p → csD q s' (D ++ [v]) → Q none s') → zJ x (d + 1) 66 48 [some (.inr (.inl 1)), some (.inl v), some (.inl (c : Int))] [] s Q := fun c p v s hs hD h => B66_48 (m68 hq hs (fun s' h1 h2 => B66_53 (h s' h1 (h2 D hD hl))))
  intro j
  induction j with
  | zero => intro c p v s hc hs hD hp hv v0 v1 v2 v3 h; exact B66_4 ⟨fun _ => fin c p v s hs hD h, fun e => absurd e (by omega)⟩
  | succ j ih =>
    intro c p v s hc hs hD hp hv v0 v1 v2 v3 h
    rw [pNum_s] at h
    refine B66_4 ⟨fun e => absurd e (by omega), fun _ => m67 hT hq hs (fun y hy => B66_13 (m69 (B66_16 ⟨fun h1 => fin c p v s hs hD ?_, fun h1 => m67 hT hq hs (fun z hz => B66_27 ?_)⟩)))⟩
    · rw [if_neg (fun e => by omega)] at h
      exact h
    · have hd : isDg (tpF a p) := by
        by_cases g : isDg y
        · omega
        · rw [if_neg g] at h1; omega
      have ez : z = tpF a p := by omega
      rw [if_pos hd] at h
      rw [ez, wr_id (x := v * 10) (by unfold zR; omega), wr_id (x := v * 10 + tpF a p) (by unfold zR; omega), wr_id (x := v * 10 + tpF a p - 48) (by unfold zR; omega), show wr ((c : Int) + 1) = ((c + 1 : Nat) : Int) by rw [wr_id (by unfold zR; omega)]; omega]
      have hp2 : p + 1 ≤ (a 42 24).toNat := by
        refine Nat.lt_of_not_le (fun e => ?_)
        have := tpF_end a p e
        omega
      exact ih (c + 1) (p + 1) _ _ (by omega) (hs.go hq (by omega)) (hD.at hq) hp2 (by omega) (by omega) (by omega) (by omega) (by omega) h
theorem m66 {D : List Int} {p : Nat} (hT : zTap a) (hq : q = 12 ∨ q = 13) (hl : D.length < 121) (hs : csF a q s p) (hD : csD q s D) (hp : p ≤ (a 42 24).toNat) (h : ∀ s', csF a q s' (pNum (tpF a) 4 p 0).1 → csD q s' (D ++ [(pNum (tpF a) 4 p 0).2]) → Q none s') : zE x (d + 2) 66 [.inr (.inl 1)] s Q :=
  N66 (B66_0 (m66_loop (D := D) hT hq hl 4 0 p 0 s rfl hs hD hp (by omega) (by omega) (by omega) (by omega) (by omega) h))
theorem m63_loop {D : List Int} {lv dep : Int} {f : Nat → zPr} (hT : zTap a) (hq : q = 12 ∨ q = 13) (hlv : 0 ≤ lv ∧ lv ≤ 4) (hg : fGood (a 42 24).toNat f) (hf : cOK x (d + 1) 63 [.inr (.inl 1), .inl (lv + 1), .inl dep] a q f) (hL : (D.length : Int) ≤ 120) :
    ∀ (j c p : Nat) (os : List (Int × Int)) (s : zSt) (o5 : Option zV), (j : Int) + c = (if lv = 2 then 1 else 120) → csF a q s p → csD q s (D ++ os.map encO) → D.length + os.length ≤ p → p ≤ (a 42 24).toNat →
    ((pLoop (tpF a) f lv j p os).1 = true → ∀ s', csF a q s' (pLoop (tpF a) f lv j p os).2.1 → csD q s' (D ++ (pLoop (tpF a) f lv j p os).2.2.map encO) → Q (some (.inl 1)) s') →
    ((pLoop (tpF a) f lv j p os).1 = false → ∀ s' v, csF a q s' (pLoop (tpF a) f lv j p os).2.1 → (v = 0 ∨ (v = 1 ∧ isDg (tpF a (pLoop (tpF a) f lv j p os).2.1))) → Q (some (.inl v)) s') →
    zJ x (d + 1) 63 39 [some (.inr (.inl 1)), some (.inl lv), some (.inl dep), some (.inl (if lv = 2 then 1 else 120)), some (.inl (c : Int)), o5] [] s Q := by
  have hN : (a 42 24).toNat ≤ 120 := by have := hT.1; have := hT.2.1; omega
  intro j
  induction j with
  | zero => intro c p os s o5 hc hs hD hl hp h1 h0; exact B63_39 ⟨fun _ => B63_98 ⟨by omega, h1 rfl s hs hD⟩, fun e => absurd e (by omega)⟩
  | succ j ih =>
    intro c p os s o5 hc hs hD hl hp h1 h0
    unfold pLoop at h1 h0
    refine B63_39 ⟨fun e => absurd e (by split at hc <;> omega), fun _ => m67 hT hq hs (fun y hy => B63_49 (m71 (B63_52 ?_)))⟩
    rw [(lvOf_sg hy).1]
    refine ⟨fun h2 => B63_98 ⟨by omega, ?_⟩, fun h2 => m67 hT hq hs (fun z hz => B63_60 ?_)⟩
    · rw [if_neg h2] at h1
      exact h1 rfl s hs hD
    · have h2 := Decidable.not_not.mp h2
      have hc2 := lvOf_in h2 hlv.1
      rw [if_pos h2] at h1 h0
      have hp2 : p + 1 ≤ (a 42 24).toNat := by
        refine Nat.lt_of_not_le (fun e => ?_)
        have := tpF_end a p e
        omega
      have ez : z = tpF a p := by omega
      rw [wr_id (x := lv + 1) (by unfold zR; omega)]
      have g := hg (p + 1) hp2
      refine hf _ (p + 1) _ _ (hs.go hq (by omega)) (hD.at hq) (by rw [List.length_append, List.length_map]; omega) hp2 (fun e s' f1 f2 => B63_80 ⟨fun _ => B63_85 ?_, fun e => absurd (by decide) e⟩) (fun e s' v f1 f2 => B63_80 ?_)
      · rw [if_pos e] at h1 h0
        have g3 := g.2.2 e
        refine m68 hq f1 (fun s2 k1 k2 => B63_92 ?_)
        have k2 := k2 _ f2 (by simp only [List.length_append, List.length_map]; omega)
        have ee : wr (-z) = encO (tpF a p, 0) := by
          rw [ez, wr_id (by unfold zR; omega)]
          unfold encO
          show -tpF a p = (if tpF a p = 1 then 0 else if tpF a p = 2 then -1 - 0 else if tpF a p = 3 then -33 else if tpF a p = 4 then -110 else -tpF a p)
          rw [if_neg (by omega), if_neg (by omega), if_neg (by omega), if_neg (by omega)]
        rw [ee, show D ++ os.map encO ++ (f (p + 1)).2.2.map encO ++ [encO (tpF a p, 0)] = D ++ (os ++ ((f (p + 1)).2.2 ++ [(tpF a p, 0)])).map encO by simp] at k2
        rw [show wr ((c : Int) + 1) = ((c + 1 : Nat) : Int) by rw [wr_id (by unfold zR; omega)]; omega]
        exact ih (c + 1) _ _ s2 _ (by omega) k1 k2 (by simp only [List.length_append, List.length_cons, List.length_nil]; omega) g.2.1 h1 h0
      · rw [if_neg (by rw [e]; decide)] at h1 h0
        refine ⟨fun hv => B63_85 (m68 hq f1 (fun s2 k1 _ => B63_92 ?_)), fun hv => ⟨by omega, zQi (h0 rfl s' 0 f1 (Or.inl rfl)) rfl⟩⟩
        have hd : isDg (tpF a (f (p + 1)).2.1) := by
          rcases f2 with f2 | f2
          · exact absurd f2 hv
          · exact f2.2
        have out := h0 rfl s2 1 k1 (Or.inr ⟨rfl, hd⟩)
        refine B63_39 ⟨fun _ => B63_98 ⟨by omega, out⟩, fun _ => m67 hT hq k1 (fun y2 hy2 => B63_49 (m71 (B63_52 ?_)))⟩
        rw [(lvOf_sg hy2).1]
        refine ⟨fun _ => B63_98 ⟨by omega, out⟩, fun e2 => ?_⟩
        have := lvOf_in (Decidable.not_not.mp e2) hlv.1
        omega
theorem m63 {lv dep : Int} {f : Nat → zPr} (hT : zTap a) (hq : q = 12 ∨ q = 13) (hlv : 0 ≤ lv ∧ lv ≤ 4) (hg : fGood (a 42 24).toNat f) (hf : cOK x (d + 1) 63 [.inr (.inl 1), .inl (lv + 1), .inl dep] a q f) : cOK x (d + 2) 63 [.inr (.inl 1), .inl lv, .inl dep] a q (pLv (tpF a) f lv) := by
  intro s p D Q hs hD hl hp h1 h0
  have hN : (a 42 24).toNat ≤ 120 := by have := hT.1; have := hT.2.1; omega
  have g := hg p hp
  unfold pLv at h1 h0
  refine N63 (B63_0 ⟨fun _ => B63_11 ?_, fun e => absurd (by omega) e⟩)
  rw [wr_id (x := lv + 1) (by unfold zR; omega)]
  refine hf s p D _ hs hD hl hp (fun e s' f1 f2 => B63_19 ⟨fun _ => B63_24 ?_, fun e => absurd (by decide) e⟩) (fun e s' v f1 f2 => B63_19 ?_)
  · rw [if_pos e] at h1 h0
    have g3 := g.2.2 e
    have loop := fun o5 => m63_loop (x := x) (d := d) (Q := Q) (D := D) (lv := lv) (dep := dep) hT hq hlv hg hf (by omega) (if lv = 2 then 1 else 120) 0 (f p).2.1 (f p).2.2 s' o5 (by split <;> rfl) f1 f2 (by omega) g.2.1 h1 h0
    refine ⟨fun h2 => B63_33 (B63_35 ?_), fun h2 => B63_35 ?_⟩
    · have l := loop none
      rw [if_neg h2] at l
      exact l
    · have l := loop none
      rw [if_pos (Decidable.not_not.mp h2)] at l
      exact l
  · rw [if_neg (by rw [e]; decide)] at h1 h0
    refine ⟨fun hv => B63_24 ?_, fun hv => ⟨by omega, h0 rfl s' 0 f1 (Or.inl rfl)⟩⟩
    have hd : isDg (tpF a (f p).2.1) := by
      rcases f2 with f2 | f2
      · exact absurd f2 hv
      · exact f2.2
    have out := h0 rfl s' 1 f1 (Or.inr ⟨rfl, hd⟩)
    have go : ∀ n : Int, zJ x (d + 1) 63 35 [some (.inr (.inl 1)), some (.inl lv), some (.inl dep), none, none, none] [.inl n] s' Q := fun n => by
      refine B63_35 (B63_39 ⟨fun _ => B63_98 ⟨by omega, out⟩, fun _ => m67 hT hq f1 (fun y2 hy2 => B63_49 (m71 (B63_52 ?_)))⟩)
      rw [(lvOf_sg hy2).1]
      refine ⟨fun _ => B63_98 ⟨by omega, out⟩, fun e2 => ?_⟩
      have := lvOf_in (Decidable.not_not.mp e2) hlv.1
      omega
    exact ⟨fun h2 => B63_33 (go 120), fun h2 => go 1⟩
end ZParse2
