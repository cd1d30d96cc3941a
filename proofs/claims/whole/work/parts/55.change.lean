/-! mend, undo, redo: the reference -/
noncomputable def vMendP (a s s' : zSt) (n w v : Int) : Prop := (okMend a n w v ∧ v ≠ numF a w n ∧ ∃ t, drpM s t ∧ s' = setF (addM t w n (numF a w n) v) w n v) ∨ (¬ (okMend a n w v ∧ v ≠ numF a w n) ∧ s' = s)
def vUndo (s : zSt) : zSt := if 0 < s 42 17 then setF (zU (zU s 42 17 (s 42 17 - 1)) 42 18 (s 42 18 + 1)) (s 53 (s 42 17 - 1).toNat) (s 54 (s 42 17 - 1).toNat) (s 55 (s 42 17 - 1).toNat) else s
def vRedo (s : zSt) : zSt := if 0 < s 42 18 then zU (zU (setF s (s 53 (s 42 17).toNat) (s 54 (s 42 17).toNat) (s 56 (s 42 17).toNat)) 42 17 (s 42 17 + 1)) 42 18 (s 42 18 - 1) else s
section ZMMend
variable {x : List Int} {d : Nat} {a s : zSt} {Q : zQ}
theorem numF_M {w n : Int} (hs : zSimM a s) : numF s w n = numF a w n := by
  unfold numF
  rw [hs 43 (by decide) rfl, hs 44 (by decide) rfl, hs 45 (by decide) rfl, hs 46 (by decide) rfl, hs 48 (by decide) rfl, hs 49 (by decide) rfl, hs 50 (by decide) rfl, hs 51 (by decide) rfl, hs 52 (by decide) rfl, hs 42 (by decide) rfl]
theorem m179_loop {w n v b : Int} {t0 : zSt} (h : ∀ t, zFr [53, 54, 55, 56] t0 t → (∀ k : Nat, k < 39 → t 53 k = t0 53 (k + 1) ∧ t 54 k = t0 54 (k + 1) ∧ t 55 k = t0 55 (k + 1) ∧ t 56 k = t0 56 (k + 1)) → ∀ o : Option zV, zJ x d 179 111 [some (.inr (.inl 42)), some (.inl w), some (.inl n), some (.inl v), some (.inl b), some (.inl 40)] [] t Q) :
    ∀ (j k : Nat) (t : zSt), k + j = 40 → 1 ≤ k → zFr [53, 54, 55, 56] t0 t → (∀ p : Nat, p + 1 < k → t 53 p = t0 53 (p + 1) ∧ t 54 p = t0 54 (p + 1) ∧ t 55 p = t0 55 (p + 1) ∧ t 56 p = t0 56 (p + 1)) → (∀ p : Nat, k ≤ p + 1 → t 53 p = t0 53 p ∧ t 54 p = t0 54 p ∧ t 55 p = t0 55 p ∧ t 56 p = t0 56 p) → zJ x d 179 34 [some (.inr (.inl 42)), some (.inl w), some (.inl n), some (.inl v), some (.inl b), some (.inl (k : Int))] [] t Q := by
  intro j
  induction j with
  | zero =>
    intro k t hk h1 ht hd hu
    refine B179_34 ⟨fun _ => ?_, fun e => absurd e (by omega)⟩
    rw [show (k : Int) = 40 by omega]
    exact h t ht (fun p hp => hd p (by omega)) none
  | succ j ih =>
    intro k t hk h1 ht hd hu
    have q := hu k (by omega)
    refine B179_34 ⟨fun e => absurd e (by omega), fun _ => ?_⟩
    rw [show wr ((k : Int) - 1) = ((k - 1 : Nat) : Int) by rw [wr_id (by unfold zR; omega)]; omega, show wr ((k : Int) + 1) = ((k + 1 : Nat) : Int) by rw [wr_id (by unfold zR; omega)]; omega, Int.toNat_natCast, Int.toNat_natCast]
    have e0 : ∀ z : zSt, zU (zU (zU (zU t 53 (k - 1) (t 53 k)) 54 (k - 1) (zU t 53 (k - 1) (t 53 k) 54 k)) 55 (k - 1) (zU (zU t 53 (k - 1) (t 53 k)) 54 (k - 1) (zU t 53 (k - 1) (t 53 k) 54 k) 55 k)) 56 (k - 1) (zU (zU (zU t 53 (k - 1) (t 53 k)) 54 (k - 1) (zU t 53 (k - 1) (t 53 k) 54 k)) 55 (k - 1) (zU (zU t 53 (k - 1) (t 53 k)) 54 (k - 1) (zU t 53 (k - 1) (t 53 k) 54 k) 55 k) 56 k) = zU (zU (zU (zU t 53 (k - 1) (t 53 k)) 54 (k - 1) (t 54 k)) 55 (k - 1) (t 55 k)) 56 (k - 1) (t 56 k) := fun _ => rfl
    refine ⟨by omega, by omega, by omega, by omega, by omega, by omega, by omega, by omega, by omega, by omega, by omega, by omega, by omega, by omega, by omega, by omega, ih (k + 1) _ (by omega) (by omega) ((((ht.U rfl _ _).U rfl _ _).U rfl _ _).U rfl _ _) (fun p hp => ?_) (fun p hp => ?_)⟩
    · show (if p = k - 1 then t 53 k else t 53 p) = _ ∧ (if p = k - 1 then t 54 k else t 54 p) = _ ∧ (if p = k - 1 then t 55 k else t 55 p) = _ ∧ (if p = k - 1 then t 56 k else t 56 p) = _
      by_cases e : p = k - 1
      · rw [if_pos e, if_pos e, if_pos e, if_pos e, show p + 1 = k by omega]
        exact q
      · rw [if_neg e, if_neg e, if_neg e, if_neg e]
        exact hd p (by omega)
    · show (if p = k - 1 then t 53 k else t 53 p) = _ ∧ (if p = k - 1 then t 54 k else t 54 p) = _ ∧ (if p = k - 1 then t 55 k else t 55 p) = _ ∧ (if p = k - 1 then t 56 k else t 56 p) = _
      have e : ¬ p = k - 1 := by omega
      rw [if_neg e, if_neg e, if_neg e, if_neg e]
      exact hu p (by omega)
theorem e_mend {n w v : Int} (hI : zFolk a) (h17 : 0 ≤ a 42 17 ∧ a 42 17 ≤ 40) (hs : zSimM a s) (h : ∀ s', vMendP a s s' n w v → Q (some (.inl (rMend a n w v))) s') : zE x (d + 5) 184 [.inr (.inl 42), .inl n, .inl w, .inl v] s Q := by
  have e42 : s 42 17 = a 42 17 := congrFun (hs 42 (by decide) rfl) 17
  have bad : ¬ okMend a n w v → Q (some (.inl (-1))) s := fun e => by
    refine zQi (h s (Or.inr ⟨fun g => e g.1, rfl⟩)) ?_
    unfold rMend
    rw [if_neg e]
  refine N184 (B184_0 (m182 hI hs (fun hw => B184_6 ⟨fun e => absurd e (by decide), fun _ => m183 (okN_R hI hw).1 (B184_14 ⟨fun h1 => B184_27 (B184_28 (bad (fun e => by rw [if_pos e.2] at h1; omega))), fun h1 => ?_⟩)⟩) (fun hw => B184_6 ⟨fun _ => B184_27 (B184_28 (bad (fun e => hw e.1))), fun e => absurd rfl e⟩)))
  have ho : okMend a n w v := ⟨hw, Decidable.not_not.mp (fun e => by rw [if_neg e] at h1; omega)⟩
  have er : rMend a n w v = numF a w n := if_pos ho
  have r := okN_R hI hw
  refine N179 (B179_0 (m177 r.1 r.2.1 r.2.2 (B179_6 ?_)))
  rw [numF_M hs]
  refine ⟨fun h2 => B179_17 ?_, fun h2 => B184_24 (B184_28 (zQi (h s (Or.inr ⟨fun g => h2 g.2.symm, rfl⟩)) er))⟩
  have last : ∀ t : zSt, drpM s t → (0 ≤ t 42 17 ∧ t 42 17 < 40) → ∀ o : Option zV, zJ x (d + 3) 179 121 [some (.inr (.inl 42)), some (.inl w), some (.inl n), some (.inl v), some (.inl (numF a w n)), o] [] t (fun r s1 => zJ x (d + 4) 184 24 [some (.inr (.inl 42)), some (.inl n), some (.inl w), some (.inl v)] (zAp r []) s1 Q) := fun t ht h3 o => by
    refine B179_121 ⟨by omega, by omega, by omega, by omega, by omega, by omega, by omega, by omega, m178 r.1 r.2.1 r.2.2 (B179_179 (B184_24 (B184_28 (zQi (h _ (Or.inl ⟨ho, fun e => h2 e.symm, t, ht, ?_⟩)) er))))⟩
    rw [show wr (t 42 17 + 1) = t 42 17 + 1 from wr_id (by unfold zR; omega)]
    rfl
  refine ⟨fun h3 => last _ (Or.inl ⟨by omega, rfl⟩) ⟨by show 0 ≤ s 42 17; omega, by show s 42 17 < 40; omega⟩ none, fun h3 => ?_⟩
  refine m179_loop (t0 := zU s 42 18 0) (fun t ht hd o => B179_111 ?_) 39 1 _ (by omega) (by omega) zFr.rf (fun p hp => absurd hp (by omega)) (fun p _ => ⟨rfl, rfl, rfl, rfl⟩)
  have e17 : t 42 17 = s 42 17 := congrFun (ht 42 rfl) 17
  have ew : wr (t 42 17 - 1) = 39 := by rw [wr_id (by unfold zR; omega)]; omega
  rw [ew]
  refine last _ (Or.inr ⟨by omega, ht.UU _ _ _, fun k hk => hd k hk⟩) ⟨by show (0 : Int) ≤ 39; decide, by show (39 : Int) < 40; decide⟩ _
theorem e_undo (hI : zFolk a) (hC : zChg a) (hs : zSimM a s) (h : Q (some (.inl (rUndo a))) (vUndo s)) : zE x (d + 3) 180 [.inr (.inl 42)] s Q := by
  have e42 : ∀ k, s 42 k = a 42 k := fun k => congrFun (hs 42 (by decide) rfl) k
  have e53 : s 53 = a 53 := hs 53 (by decide) rfl
  have e54 : s 54 = a 54 := hs 54 (by decide) rfl
  have e17 := e42 17
  have e18 := e42 18
  have c1 := hC.1
  unfold rUndo vUndo at h
  refine N180 (B180_0 ⟨fun h0 => B180_10 ?_, fun h0 => ?_⟩)
  · rw [if_pos (by omega), if_pos (by omega)] at h
    rw [wr_id (x := s 42 17 - 1) (by unfold zR; omega), wr_id (x := s 42 18 + 1) (by unfold zR; omega)]
    have c2 := hC.2 (s 42 17 - 1).toNat (by omega)
    have r := okN_R hI c2.1
    rw [← e53, ← e54] at r
    refine ⟨by omega, by omega, by omega, by omega, by omega, by omega, m178 r.1 r.2.1 r.2.2 (B180_61 (zQi h ?_))⟩
    rw [setF_42 (by decide)]
    show a 42 17 - 1 = s 42 17 - 1
    omega
  · rw [if_neg (by omega), if_neg (by omega)] at h
    exact h
theorem e_redo (hI : zFolk a) (hC : zChg a) (hs : zSimM a s) (h : Q (some (.inl (rRedo a))) (vRedo s)) : zE x (d + 3) 181 [.inr (.inl 42)] s Q := by
  have e42 : ∀ k, s 42 k = a 42 k := fun k => congrFun (hs 42 (by decide) rfl) k
  have e53 : s 53 = a 53 := hs 53 (by decide) rfl
  have e54 : s 54 = a 54 := hs 54 (by decide) rfl
  have e17 := e42 17
  have e18 := e42 18
  have c1 := hC.1
  unfold rRedo vRedo at h
  refine N181 (B181_0 ⟨fun h0 => B181_10 ?_, fun h0 => ?_⟩)
  · rw [if_pos (by omega), if_pos (by omega)] at h
    have c2 := hC.2 (s 42 17).toNat (by omega)
    have r := okN_R hI c2.1
    rw [← e53, ← e54] at r
    refine ⟨by omega, by omega, by omega, by omega, by omega, by omega, m178 r.1 r.2.1 r.2.2 (B181_41 ?_)⟩
    rw [setF_42 (by decide), setF_42 (by decide), wr_id (x := s 42 17 + 1) (by unfold zR; omega), wr_id (x := s 42 18 - 1) (by unfold zR; omega)]
    exact zQi h (by omega)
  · rw [if_neg (by omega), if_neg (by omega)] at h
    exact h
end ZMMend
