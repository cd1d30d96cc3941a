/-! who comes, what is mended, undone, done again: class and reference answer alike, what holds between calls stays -/
theorem plF_val {ch sp w n : Int} (h : zOkN ch sp w n) : (w ≤ 3 ∧ 0 ≤ w ∧ 0 ≤ n ∧ n < ch ∧ plF ch sp n w = n * 4 + w) ∨ (4 ≤ w ∧ w ≤ 8 ∧ 0 ≤ n ∧ n < sp ∧ plF ch sp n w = 24 + n * 5 + w - 4) ∨ (9 ≤ w ∧ w ≤ 12 ∧ n = 0 ∧ plF ch sp n w = 104 + w - 9) := by
  unfold zOkN at h
  unfold plF
  omega
theorem plF_mono {ch sp ch' sp' w n : Int} (h : zOkN ch sp w n) (h1 : ch ≤ ch') (h2 : sp ≤ sp') : zOkN ch' sp' w n ∧ plF ch' sp' n w = plF ch sp n w := by
  have k : zOkN ch' sp' w n := by
    unfold zOkN at h ⊢
    omega
  refine ⟨k, ?_⟩
  have a := plF_val h
  have b := plF_val k
  omega
theorem zChg_mono {a b : zSt} (h : zChg a) (h3 : b 3 = a 3) (h17 : b 42 17 = a 42 17) (h18 : b 42 18 = a 42 18) (e18 : b 18 = a 18) (e19 : b 19 = a 19) (e20 : b 20 = a 20) (e53 : b 53 = a 53) (e54 : b 54 = a 54) (e55 : b 55 = a 55) (e56 : b 56 = a 56) (hc : a 2 3 ≤ b 2 3) (hp : a 2 4 ≤ b 2 4) : zChg b := by
  obtain ⟨c, e⟩ := h
  unfold zChg
  rw [h3, h17, h18, e18, e19, e20, e53, e54, e55, e56]
  refine ⟨c, fun k hk => ?_⟩
  obtain ⟨k1, k2, k3⟩ := e k hk
  have m := plF_mono k1 hc hp
  exact ⟨m.1, k2.trans m.2.symm, k3⟩
theorem numF_cong {a b : zSt} {w n : Int} (h0 : w = 0 → b 43 n.toNat = a 43 n.toNat) (h1 : w = 1 → b 44 n.toNat = a 44 n.toNat) (h2 : w = 2 → b 45 n.toNat = a 45 n.toNat) (h3 : w = 3 → b 46 n.toNat = a 46 n.toNat) (h4 : w = 4 → b 48 n.toNat = a 48 n.toNat) (h5 : w = 5 → b 49 n.toNat = a 49 n.toNat) (h6 : w = 6 → b 50 n.toNat = a 50 n.toNat) (h7 : w = 7 → b 51 n.toNat = a 51 n.toNat) (h8 : w = 8 → b 52 n.toNat = a 52 n.toNat) (h9 : w = 9 → b 42 13 = a 42 13) (h10 : w = 10 → b 42 14 = a 42 14) (h11 : w = 11 → b 42 15 = a 42 15) (h12 : ¬ (0 ≤ w ∧ w ≤ 11) → b 42 16 = a 42 16) : numF b w n = numF a w n := by
  unfold numF
  by_cases e0 : w = 0
  · rw [if_pos e0, if_pos e0]
    exact h0 e0
  rw [if_neg e0, if_neg e0]
  by_cases e1 : w = 1
  · rw [if_pos e1, if_pos e1]
    exact h1 e1
  rw [if_neg e1, if_neg e1]
  by_cases e2 : w = 2
  · rw [if_pos e2, if_pos e2]
    exact h2 e2
  rw [if_neg e2, if_neg e2]
  by_cases e3 : w = 3
  · rw [if_pos e3, if_pos e3]
    exact h3 e3
  rw [if_neg e3, if_neg e3]
  by_cases e4 : w = 4
  · rw [if_pos e4, if_pos e4]
    exact h4 e4
  rw [if_neg e4, if_neg e4]
  by_cases e5 : w = 5
  · rw [if_pos e5, if_pos e5]
    exact h5 e5
  rw [if_neg e5, if_neg e5]
  by_cases e6 : w = 6
  · rw [if_pos e6, if_pos e6]
    exact h6 e6
  rw [if_neg e6, if_neg e6]
  by_cases e7 : w = 7
  · rw [if_pos e7, if_pos e7]
    exact h7 e7
  rw [if_neg e7, if_neg e7]
  by_cases e8 : w = 8
  · rw [if_pos e8, if_pos e8]
    exact h8 e8
  rw [if_neg e8, if_neg e8]
  by_cases e9 : w = 9
  · rw [if_pos e9, if_pos e9]
    exact h9 e9
  rw [if_neg e9, if_neg e9]
  by_cases e10 : w = 10
  · rw [if_pos e10, if_pos e10]
    exact h10 e10
  rw [if_neg e10, if_neg e10]
  by_cases e11 : w = 11
  · rw [if_pos e11, if_pos e11]
    exact h11 e11
  rw [if_neg e11, if_neg e11]
  exact h12 (by omega)
theorem setF_num {ch sp w n v w' n' : Int} {u : zSt} (h : zOkN ch sp w n) (h' : zOkN ch sp w' n') : numF (setF u w n v) w' n' = if w' = w ∧ n' = n then v else numF u w' n' := by
  have hw : w = 0 ∨ w = 1 ∨ w = 2 ∨ w = 3 ∨ w = 4 ∨ w = 5 ∨ w = 6 ∨ w = 7 ∨ w = 8 ∨ w = 9 ∨ w = 10 ∨ w = 11 ∨ w = 12 := by
    unfold zOkN at h
    omega
  unfold zOkN at h h'
  rcases hw with rfl | rfl | rfl | rfl | rfl | rfl | rfl | rfl | rfl | rfl | rfl | rfl | rfl
  · by_cases e : w' = 0
    · subst e
      have k : numF (setF u 0 n v) 0 n' = if n'.toNat = n.toNat then v else u 43 n'.toNat := rfl
      rw [k]
      by_cases en : n' = n
      · rw [if_pos (by rw [en]), if_pos ⟨rfl, en⟩]
      · rw [if_neg (by omega), if_neg (fun g => en g.2)]
        rfl
    · rw [if_neg (fun g => e g.1)]
      exact numF_cong (fun g => absurd g e) (fun _ => rfl) (fun _ => rfl) (fun _ => rfl) (fun _ => rfl) (fun _ => rfl) (fun _ => rfl) (fun _ => rfl) (fun _ => rfl) (fun _ => rfl) (fun _ => rfl) (fun _ => rfl) (fun _ => rfl)
  · by_cases e : w' = 1
    · subst e
      have k : numF (setF u 1 n v) 1 n' = if n'.toNat = n.toNat then v else u 44 n'.toNat := rfl
      rw [k]
      by_cases en : n' = n
      · rw [if_pos (by rw [en]), if_pos ⟨rfl, en⟩]
      · rw [if_neg (by omega), if_neg (fun g => en g.2)]
        rfl
    · rw [if_neg (fun g => e g.1)]
      exact numF_cong (fun _ => rfl) (fun g => absurd g e) (fun _ => rfl) (fun _ => rfl) (fun _ => rfl) (fun _ => rfl) (fun _ => rfl) (fun _ => rfl) (fun _ => rfl) (fun _ => rfl) (fun _ => rfl) (fun _ => rfl) (fun _ => rfl)
  · by_cases e : w' = 2
    · subst e
      have k : numF (setF u 2 n v) 2 n' = if n'.toNat = n.toNat then v else u 45 n'.toNat := rfl
      rw [k]
      by_cases en : n' = n
      · rw [if_pos (by rw [en]), if_pos ⟨rfl, en⟩]
      · rw [if_neg (by omega), if_neg (fun g => en g.2)]
        rfl
    · rw [if_neg (fun g => e g.1)]
      exact numF_cong (fun _ => rfl) (fun _ => rfl) (fun g => absurd g e) (fun _ => rfl) (fun _ => rfl) (fun _ => rfl) (fun _ => rfl) (fun _ => rfl) (fun _ => rfl) (fun _ => rfl) (fun _ => rfl) (fun _ => rfl) (fun _ => rfl)
  · by_cases e : w' = 3
    · subst e
      have k : numF (setF u 3 n v) 3 n' = if n'.toNat = n.toNat then v else u 46 n'.toNat := rfl
      rw [k]
      by_cases en : n' = n
      · rw [if_pos (by rw [en]), if_pos ⟨rfl, en⟩]
      · rw [if_neg (by omega), if_neg (fun g => en g.2)]
        rfl
    · rw [if_neg (fun g => e g.1)]
      exact numF_cong (fun _ => rfl) (fun _ => rfl) (fun _ => rfl) (fun g => absurd g e) (fun _ => rfl) (fun _ => rfl) (fun _ => rfl) (fun _ => rfl) (fun _ => rfl) (fun _ => rfl) (fun _ => rfl) (fun _ => rfl) (fun _ => rfl)
  · by_cases e : w' = 4
    · subst e
      have k : numF (setF u 4 n v) 4 n' = if n'.toNat = n.toNat then v else u 48 n'.toNat := rfl
      rw [k]
      by_cases en : n' = n
      · rw [if_pos (by rw [en]), if_pos ⟨rfl, en⟩]
      · rw [if_neg (by omega), if_neg (fun g => en g.2)]
        rfl
    · rw [if_neg (fun g => e g.1)]
      exact numF_cong (fun _ => rfl) (fun _ => rfl) (fun _ => rfl) (fun _ => rfl) (fun g => absurd g e) (fun _ => rfl) (fun _ => rfl) (fun _ => rfl) (fun _ => rfl) (fun _ => rfl) (fun _ => rfl) (fun _ => rfl) (fun _ => rfl)
  · by_cases e : w' = 5
    · subst e
      have k : numF (setF u 5 n v) 5 n' = if n'.toNat = n.toNat then v else u 49 n'.toNat := rfl
      rw [k]
      by_cases en : n' = n
      · rw [if_pos (by rw [en]), if_pos ⟨rfl, en⟩]
      · rw [if_neg (by omega), if_neg (fun g => en g.2)]
        rfl
    · rw [if_neg (fun g => e g.1)]
      exact numF_cong (fun _ => rfl) (fun _ => rfl) (fun _ => rfl) (fun _ => rfl) (fun _ => rfl) (fun g => absurd g e) (fun _ => rfl) (fun _ => rfl) (fun _ => rfl) (fun _ => rfl) (fun _ => rfl) (fun _ => rfl) (fun _ => rfl)
  · by_cases e : w' = 6
    · subst e
      have k : numF (setF u 6 n v) 6 n' = if n'.toNat = n.toNat then v else u 50 n'.toNat := rfl
      rw [k]
      by_cases en : n' = n
      · rw [if_pos (by rw [en]), if_pos ⟨rfl, en⟩]
      · rw [if_neg (by omega), if_neg (fun g => en g.2)]
        rfl
    · rw [if_neg (fun g => e g.1)]
      exact numF_cong (fun _ => rfl) (fun _ => rfl) (fun _ => rfl) (fun _ => rfl) (fun _ => rfl) (fun _ => rfl) (fun g => absurd g e) (fun _ => rfl) (fun _ => rfl) (fun _ => rfl) (fun _ => rfl) (fun _ => rfl) (fun _ => rfl)
  · by_cases e : w' = 7
    · subst e
      have k : numF (setF u 7 n v) 7 n' = if n'.toNat = n.toNat then v else u 51 n'.toNat := rfl
      rw [k]
      by_cases en : n' = n
      · rw [if_pos (by rw [en]), if_pos ⟨rfl, en⟩]
      · rw [if_neg (by omega), if_neg (fun g => en g.2)]
        rfl
    · rw [if_neg (fun g => e g.1)]
      exact numF_cong (fun _ => rfl) (fun _ => rfl) (fun _ => rfl) (fun _ => rfl) (fun _ => rfl) (fun _ => rfl) (fun _ => rfl) (fun g => absurd g e) (fun _ => rfl) (fun _ => rfl) (fun _ => rfl) (fun _ => rfl) (fun _ => rfl)
  · by_cases e : w' = 8
    · subst e
      have k : numF (setF u 8 n v) 8 n' = if n'.toNat = n.toNat then v else u 52 n'.toNat := rfl
      rw [k]
      by_cases en : n' = n
      · rw [if_pos (by rw [en]), if_pos ⟨rfl, en⟩]
      · rw [if_neg (by omega), if_neg (fun g => en g.2)]
        rfl
    · rw [if_neg (fun g => e g.1)]
      exact numF_cong (fun _ => rfl) (fun _ => rfl) (fun _ => rfl) (fun _ => rfl) (fun _ => rfl) (fun _ => rfl) (fun _ => rfl) (fun _ => rfl) (fun g => absurd g e) (fun _ => rfl) (fun _ => rfl) (fun _ => rfl) (fun _ => rfl)
  · by_cases e : w' = 9
    · subst e
      have k : numF (setF u 9 n v) 9 n' = v := rfl
      rw [k, if_pos ⟨rfl, by omega⟩]
    · rw [if_neg (fun g => e g.1)]
      exact numF_cong (fun _ => rfl) (fun _ => rfl) (fun _ => rfl) (fun _ => rfl) (fun _ => rfl) (fun _ => rfl) (fun _ => rfl) (fun _ => rfl) (fun _ => rfl) (fun g => absurd g e) (fun _ => rfl) (fun _ => rfl) (fun _ => rfl)
  · by_cases e : w' = 10
    · subst e
      have k : numF (setF u 10 n v) 10 n' = v := rfl
      rw [k, if_pos ⟨rfl, by omega⟩]
    · rw [if_neg (fun g => e g.1)]
      exact numF_cong (fun _ => rfl) (fun _ => rfl) (fun _ => rfl) (fun _ => rfl) (fun _ => rfl) (fun _ => rfl) (fun _ => rfl) (fun _ => rfl) (fun _ => rfl) (fun _ => rfl) (fun g => absurd g e) (fun _ => rfl) (fun _ => rfl)
  · by_cases e : w' = 11
    · subst e
      have k : numF (setF u 11 n v) 11 n' = v := rfl
      rw [k, if_pos ⟨rfl, by omega⟩]
    · rw [if_neg (fun g => e g.1)]
      exact numF_cong (fun _ => rfl) (fun _ => rfl) (fun _ => rfl) (fun _ => rfl) (fun _ => rfl) (fun _ => rfl) (fun _ => rfl) (fun _ => rfl) (fun _ => rfl) (fun _ => rfl) (fun _ => rfl) (fun g => absurd g e) (fun _ => rfl)
  · by_cases e : w' = 12
    · subst e
      have k : numF (setF u 12 n v) 12 n' = v := rfl
      rw [k, if_pos ⟨rfl, by omega⟩]
    · rw [if_neg (fun g => e g.1)]
      exact numF_cong (fun _ => rfl) (fun _ => rfl) (fun _ => rfl) (fun _ => rfl) (fun _ => rfl) (fun _ => rfl) (fun _ => rfl) (fun _ => rfl) (fun _ => rfl) (fun _ => rfl) (fun _ => rfl) (fun _ => rfl) (fun g => absurd g (by omega))
theorem folk_set {a b : zSt} {w n v : Int} (hF : zFolk a) (hok : zOkN (a 2 3) (a 2 4) w n) (hv : zLEAST.getD w.toNat 0 ≤ v ∧ v ≤ zMOST.getD w.toNat 0) (h2 : b 2 = a 2) (h17 : b 17 = a 17) (h47 : b 47 = a 47) (h1 : b 42 1 = a 42 1) (h6 : b 42 6 = a 42 6) (h16 : ∀ j, b 16 j = if j = (plF (a 2 3) (a 2 4) n w).toNat then v else a 16 j) (hn : ∀ w' n', zOkN (a 2 3) (a 2 4) w' n' → numF b w' n' = if w' = w ∧ n' = n then v else numF a w' n') : zFolk b := by
  obtain ⟨c, nm, o⟩ := hF
  refine ⟨?_, fun w' n' h' => ?_, ?_⟩
  · unfold zCnt at c ⊢
    rw [h2, h1, h6]
    exact c
  · rw [h2] at h' ⊢
    rw [h16, hn w' n' h']
    have p := plF_val hok
    have p' := plF_val h'
    by_cases e : w' = w ∧ n' = n
    · rw [e.1, e.2, if_pos rfl, if_pos ⟨rfl, rfl⟩]
      exact ⟨rfl, hv⟩
    · rw [if_neg e]
      unfold zCnt at c
      rw [if_neg (by omega)]
      exact nm w' n' h'
  · unfold zOfc at o ⊢
    rw [h2, h17, h47]
    exact o
theorem zU_q {t t' : zSt} {q : Nat} (h : t q = t' q) (p k : Nat) (v : Int) : zU t p k v q = zU t' p k v q := by
  by_cases e : q = p
  · subst e
    rw [zU_at, zU_at, h]
  · rw [zU_ne e, zU_ne e, h]
theorem uSp1_q {t t' : zSt} {q : Nat} {m c v w : Int} (h : t q = t' q) : uSp1 t m c v w q = uSp1 t' m c v w q := zU_q (zU_q (zU_q (zU_q (zU_q (zU_q (zU_q h _ _ _) _ _ _) _ _ _) _ _ _) _ _ _) _ _ _) _ _ _
theorem vSp1_q {t t' : zSt} {q : Nat} {m c v w : Int} (h : t q = t' q) : vSp1 t m c v w q = vSp1 t' m c v w q := zU_q (zU_q (zU_q (zU_q (zU_q (zU_q (zU_q h _ _ _) _ _ _) _ _ _) _ _ _) _ _ _) _ _ _) _ _ _
theorem vSps_q {a t t' : zSt} {q i : Nat} {f : Int} (h : t q = t' q) : ∀ k, vSpsN a t i f k q = vSpsN a t' i f k q
  | 0 => h
  | k + 1 => vSp1_q (vSps_q h k)
theorem uSp1_o {t : zSt} {q : Nat} {m c v w : Int} (hq : q ≠ 2 ∧ q ≠ 16 ∧ q ≠ 17) : uSp1 t m c v w q = t q := by
  unfold uSp1
  rw [zU_ne hq.2.1, zU_ne hq.2.1, zU_ne hq.2.1, zU_ne hq.2.1, zU_ne hq.2.1, zU_ne hq.2.2, zU_ne hq.1]
theorem uvSps {a t : zSt} {i k : Nat} {f m c v w : Int} : vSpsN a (uSp1 t m c v w) i f k = uSp1 (vSpsN a t i f k) m c v w := by
  funext q
  by_cases h : q ≠ 2 ∧ q ≠ 16 ∧ q ≠ 17
  · rw [uSp1_o h]
    exact vSps_q (uSp1_o h) k
  · have e : ∀ u, vSpsN a u i f k q = u q := fun u => vSps_o (by omega) k
    rw [e]
    exact uSp1_q (e t).symm
theorem add_sp {t : zSt} {c v w : Int} (hF : zFolk t) (hC : zChg t) (hm : t 2 4 < 16) (hc : isCh t c) (hv : 0 ≤ v ∧ v ≤ 200) (hw : 0 ≤ w ∧ w ≤ 999) : zFolk (vSp1 (uSp1 t (t 2 4) c v w) (t 2 4) c v w) ∧ zChg (vSp1 (uSp1 t (t 2 4) c v w) (t 2 4) c v w) := by
  obtain ⟨⟨c1, c2, c3, c4⟩, nm, o⟩ := hF
  generalize hM : t 2 4 = M at *
  generalize hb : vSp1 (uSp1 t M c v w) M c v w = b
  have b23 : b 2 3 = t 2 3 := by rw [← hb]; rfl
  have b24 : b 2 4 = M + 1 := by rw [← hb]; rfl
  have b1 : b 42 1 = t 42 1 := by rw [← hb]; rfl
  have b6 : b 42 6 = M + 1 := by rw [← hb]; rfl
  have b17 : ∀ j, b 17 j = if j = M.toNat then c else t 17 j := fun j => by rw [← hb]; rfl
  have b47 : ∀ j, b 47 j = if j = M.toNat then c else t 47 j := fun j => by rw [← hb]; rfl
  have b48 : ∀ j, b 48 j = if j = M.toNat then v else t 48 j := fun j => by rw [← hb]; rfl
  have b49 : ∀ j, b 49 j = if j = M.toNat then w else t 49 j := fun j => by rw [← hb]; rfl
  have b50 : ∀ j, b 50 j = if j = M.toNat then 10 else t 50 j := fun j => by rw [← hb]; rfl
  have b51 : ∀ j, b 51 j = if j = M.toNat then 0 else t 51 j := fun j => by rw [← hb]; rfl
  have b52 : ∀ j, b 52 j = if j = M.toNat then 9999 else t 52 j := fun j => by rw [← hb]; rfl
  have b16 : ∀ j, b 16 j = if j = (M * 5 + 28).toNat then 9999 else if j = (M * 5 + 27).toNat then 0 else if j = (M * 5 + 26).toNat then 10 else if j = (M * 5 + 25).toNat then w else if j = (M * 5 + 24).toNat then v else t 16 j := fun j => by rw [← hb]; rfl
  have b43 : b 43 = t 43 := by rw [← hb]; rfl
  have b44 : b 44 = t 44 := by rw [← hb]; rfl
  have b45 : b 45 = t 45 := by rw [← hb]; rfl
  have b46 : b 46 = t 46 := by rw [← hb]; rfl
  have b4x : ∀ k, k = 13 ∨ k = 14 ∨ k = 15 ∨ k = 16 → b 42 k = t 42 k := fun k hk => by
    rw [← hb]
    rcases hk with rfl | rfl | rfl | rfl <;> rfl
  refine ⟨⟨⟨by rw [b23]; exact c1, by rw [b24]; omega, by rw [b1, b23]; exact c3, by rw [b6, b24]⟩, fun w' n h => ?_, fun p hp => ?_⟩, ?_⟩
  · rw [b23, b24] at h ⊢
    by_cases hn : (4 ≤ w' ∧ w' ≤ 8) ∧ n = M
    · have p := plF_val h
      have e : w' = 4 ∨ w' = 5 ∨ w' = 6 ∨ w' = 7 ∨ w' = 8 := by omega
      have en := hn.2
      rcases e with rfl | rfl | rfl | rfl | rfl
      · have g : numF b 4 n = b 48 n.toNat := rfl
        rw [g, b48, if_pos (by omega), b16, if_neg (by omega), if_neg (by omega), if_neg (by omega), if_neg (by omega), if_pos (by omega)]
        exact ⟨rfl, hv⟩
      · have g : numF b 5 n = b 49 n.toNat := rfl
        rw [g, b49, if_pos (by omega), b16, if_neg (by omega), if_neg (by omega), if_neg (by omega), if_pos (by omega)]
        exact ⟨rfl, hw⟩
      · have g : numF b 6 n = b 50 n.toNat := rfl
        rw [g, b50, if_pos (by omega), b16, if_neg (by omega), if_neg (by omega), if_pos (by omega)]
        exact ⟨rfl, by decide, by decide⟩
      · have g : numF b 7 n = b 51 n.toNat := rfl
        rw [g, b51, if_pos (by omega), b16, if_neg (by omega), if_pos (by omega)]
        exact ⟨rfl, by decide, by decide⟩
      · have g : numF b 8 n = b 52 n.toNat := rfl
        rw [g, b52, if_pos (by omega), b16, if_pos (by omega)]
        exact ⟨rfl, by decide, by decide⟩
    · have h' : zOkN (t 2 3) M w' n := by
        unfold zOkN at h ⊢
        omega
      have p := plF_val h'
      have p2 := plF_val h
      have k := nm w' n (by rw [hM]; exact h')
      rw [hM] at k
      have en : numF b w' n = numF t w' n := numF_cong (fun _ => by rw [b43]) (fun _ => by rw [b44]) (fun _ => by rw [b45]) (fun _ => by rw [b46]) (fun e => by rw [b48, if_neg (by omega)]) (fun e => by rw [b49, if_neg (by omega)]) (fun e => by rw [b50, if_neg (by omega)]) (fun e => by rw [b51, if_neg (by omega)]) (fun e => by rw [b52, if_neg (by omega)]) (fun _ => b4x 13 (by omega)) (fun _ => b4x 14 (by omega)) (fun _ => b4x 15 (by omega)) (fun _ => b4x 16 (by omega))
      rw [en, show plF (t 2 3) (M + 1) n w' = plF (t 2 3) M n w' by omega, b16, if_neg (by omega), if_neg (by omega), if_neg (by omega), if_neg (by omega), if_neg (by omega)]
      exact k
  · rw [b24] at hp
    rw [b17, b47, b23]
    by_cases e : p = M.toNat
    · rw [if_pos e, if_pos e]
      exact ⟨rfl, hc⟩
    · rw [if_neg e, if_neg e]
      exact o p (by omega)
  · have q : ∀ q, ¬ (q = 2 ∨ q = 16 ∨ q = 17 ∨ q = 42 ∨ (47 ≤ q ∧ q ≤ 52)) → b q = t q := fun q hq => by
      rw [← hb]
      unfold vSp1
      rw [zU_ne (by omega), zU_ne (by omega), zU_ne (by omega), zU_ne (by omega), zU_ne (by omega), zU_ne (by omega), zU_ne (by omega), uSp1_o (by omega)]
    exact zChg_mono hC (q 3 (by omega)) (by rw [← hb]; rfl) (by rw [← hb]; rfl) (q 18 (by omega)) (q 19 (by omega)) (q 20 (by omega)) (q 53 (by omega)) (q 54 (by omega)) (q 55 (by omega)) (q 56 (by omega)) (by omega) (by omega)
theorem zInv.folks {s s2 : zSt} (hI : zInv s) (F : zFK [2, 3, 16, 17, 18, 19, 20, 43, 44, 45, 46, 47, 48, 49, 50, 51, 52, 53, 54, 55, 56] [1, 6, 13, 14, 15, 16, 17, 18] s s2) (h1 : zFolk s2) (h2 : zChg s2) (h3 : s 2 3 ≤ s2 2 3) : zInv s2 := ⟨h1, hI.law.k F rfl rfl, hI.shv.k F rfl rfl, hI.bod.k F rfl rfl, hI.trc.k F rfl rfl, hI.ded.k F rfl, hI.img.k F rfl rfl, h2, hI.tap.k F rfl rfl, fun j hj => by
  rw [F.1 25 (by decide) rfl]
  exact hI.row j (by omega)⟩
section ZStepC
variable {x : List Int} {s : zSt} {Q : zQ}
theorem st_child {v : Int} (hI : zInv s) (h : ∀ (ans : Int) s1, zAns x 173 [.inr (.inl 42), .inl v] (.inl ans) s1 → Q (some (.inl ans)) s1) : zE x 64 120 [.inr (.inl 0), .inl v] s Q := by
  have m1 : ∀ q, 42 ≤ q → uChild s s v q = s q := fun q hq => by
    unfold uChild uCh1
    split
    · rw [zU_ne (by omega), zU_ne (by omega), zU_ne (by omega), zU_ne (by omega), zU_ne (by omega)]
    · rfl
  refine c_child hI.folk zFr.rf (h _ _ (fun Q2 kk => e_child (a := s) hI.folk (zSimM_of m1) (kk _ ?_)))
  by_cases hc : okChild s v
  · have e1 : uChild s s v = uCh1 s (s 2 3) v := if_pos hc
    have e2 : vChild s (uChild s s v) v = zU (zU (zU (zU (zU (uCh1 s (s 2 3) v) 43 (s 2 3).toNat v) 44 (s 2 3).toNat 0) 45 (s 2 3).toNat 99) 46 (s 2 3).toNat 0) 42 1 (s 2 3 + 1) := by
      unfold vChild
      rw [if_pos hc, e1]
    rw [e2]
    have F : zFK [2, 3, 16, 17, 18, 19, 20, 43, 44, 45, 46, 47, 48, 49, 50, 51, 52, 53, 54, 55, 56] [1, 6, 13, 14, 15, 16, 17, 18] s (zU (zU (zU (zU (zU (uCh1 s (s 2 3) v) 43 (s 2 3).toNat v) 44 (s 2 3).toNat 0) 45 (s 2 3).toNat 99) 46 (s 2 3).toNat 0) 42 1 (s 2 3 + 1)) := (((((((((zFK.rf.U (by decide) rfl _ _).U (by decide) rfl _ _).U (by decide) rfl _ _).U (by decide) rfl _ _).U (by decide) rfl _ _).U (by decide) rfl _ _).U (by decide) rfl _ _).U (by decide) rfl _ _).U (by decide) rfl _ _).V rfl _
    obtain ⟨⟨c1, c2, c3, c4⟩, nm, o⟩ := hI.folk
    have cN := hc.2
    generalize hN : s 2 3 = N at *
    generalize hb : zU (zU (zU (zU (zU (uCh1 s N v) 43 N.toNat v) 44 N.toNat 0) 45 N.toNat 99) 46 N.toNat 0) 42 1 (N + 1) = b at *
    have b23 : b 2 3 = N + 1 := by rw [← hb]; rfl
    have b24 : b 2 4 = s 2 4 := by rw [← hb]; rfl
    have b1 : b 42 1 = N + 1 := by rw [← hb]; rfl
    have b6 : b 42 6 = s 42 6 := by rw [← hb]; rfl
    have b16 : ∀ j, b 16 j = if j = (N * 4 + 3).toNat then 0 else if j = (N * 4 + 2).toNat then 99 else if j = (N * 4 + 1).toNat then 0 else if j = (N * 4).toNat then v else s 16 j := fun j => by rw [← hb]; rfl
    have b43 : ∀ j, b 43 j = if j = N.toNat then v else s 43 j := fun j => by rw [← hb]; rfl
    have b44 : ∀ j, b 44 j = if j = N.toNat then 0 else s 44 j := fun j => by rw [← hb]; rfl
    have b45 : ∀ j, b 45 j = if j = N.toNat then 99 else s 45 j := fun j => by rw [← hb]; rfl
    have b46 : ∀ j, b 46 j = if j = N.toNat then 0 else s 46 j := fun j => by rw [← hb]; rfl
    have bo : ∀ q, ¬ (q = 2 ∨ q = 16 ∨ (42 ≤ q ∧ q ≤ 46)) → b q = s q := fun q hq => by
      rw [← hb]
      unfold uCh1
      rw [zU_ne (by omega), zU_ne (by omega), zU_ne (by omega), zU_ne (by omega), zU_ne (by omega), zU_ne (by omega), zU_ne (by omega), zU_ne (by omega), zU_ne (by omega), zU_ne (by omega)]
    have b4x : ∀ k, k ≠ 1 → b 42 k = s 42 k := fun k hk => by
      rw [← hb, zU_at]
      exact if_neg hk
    refine hI.folks F ⟨⟨by rw [b23]; omega, by rw [b24]; exact c2, by rw [b1, b23], by rw [b6, b24]; exact c4⟩, fun w' n h => ?_, fun p hp => ?_⟩ (zChg_mono hI.chg (bo 3 (by omega)) (b4x 17 (by omega)) (b4x 18 (by omega)) (bo 18 (by omega)) (bo 19 (by omega)) (bo 20 (by omega)) (bo 53 (by omega)) (bo 54 (by omega)) (bo 55 (by omega)) (bo 56 (by omega)) (by omega) (by omega)) (by omega)
    · rw [b23, b24] at h ⊢
      by_cases hn : (0 ≤ w' ∧ w' ≤ 3) ∧ n = N
      · have p := plF_val h
        have e : w' = 0 ∨ w' = 1 ∨ w' = 2 ∨ w' = 3 := by omega
        have en := hn.2
        rcases e with rfl | rfl | rfl | rfl
        · have g : numF b 0 n = b 43 n.toNat := rfl
          rw [g, b43, if_pos (by omega), b16, if_neg (by omega), if_neg (by omega), if_neg (by omega), if_pos (by omega)]
          exact ⟨rfl, hc.1⟩
        · have g : numF b 1 n = b 44 n.toNat := rfl
          rw [g, b44, if_pos (by omega), b16, if_neg (by omega), if_neg (by omega), if_pos (by omega)]
          exact ⟨rfl, by decide, by decide⟩
        · have g : numF b 2 n = b 45 n.toNat := rfl
          rw [g, b45, if_pos (by omega), b16, if_neg (by omega), if_pos (by omega)]
          exact ⟨rfl, by decide, by decide⟩
        · have g : numF b 3 n = b 46 n.toNat := rfl
          rw [g, b46, if_pos (by omega), b16, if_pos (by omega)]
          exact ⟨rfl, by decide, by decide⟩
      · have h' : zOkN N (s 2 4) w' n := by
          unfold zOkN at h ⊢
          omega
        have p := plF_val h'
        have p2 := plF_val h
        have k := nm w' n (by rw [hN]; exact h')
        rw [hN] at k
        have en : numF b w' n = numF s w' n := numF_cong (fun e => by rw [b43, if_neg (by omega)]) (fun e => by rw [b44, if_neg (by omega)]) (fun e => by rw [b45, if_neg (by omega)]) (fun e => by rw [b46, if_neg (by omega)]) (fun _ => by rw [bo 48 (by omega)]) (fun _ => by rw [bo 49 (by omega)]) (fun _ => by rw [bo 50 (by omega)]) (fun _ => by rw [bo 51 (by omega)]) (fun _ => by rw [bo 52 (by omega)]) (fun _ => b4x 13 (by omega)) (fun _ => b4x 14 (by omega)) (fun _ => b4x 15 (by omega)) (fun _ => b4x 16 (by omega))
        rw [en, show plF (N + 1) (s 2 4) n w' = plF N (s 2 4) n w' by omega, b16, if_neg (by omega), if_neg (by omega), if_neg (by omega), if_neg (by omega)]
        exact k
    · rw [b24] at hp
      rw [bo 17 (by omega), bo 47 (by omega), b23]
      have k := o p hp
      rw [hN] at k
      exact ⟨k.1, k.2.1, by omega⟩
  · have e1 : uChild s s v = s := if_neg hc
    have e2 : vChild s s v = s := if_neg hc
    rw [e1, e2]
    exact hI
theorem st_sponsor {c v : Int} (hI : zInv s) (h : ∀ (ans : Int) s1, zAns x 175 [.inr (.inl 42), .inl c, .inl v] (.inl ans) s1 → Q (some (.inl ans)) s1) : zE x 64 121 [.inr (.inl 0), .inl c, .inl v] s Q := by
  have m1 : ∀ q, 42 ≤ q → uSponsor s s c v q = s q := fun q hq => by
    unfold uSponsor
    split
    · exact uSp1_o (by omega)
    · rfl
  refine c_sponsor hI.folk zFr.rf (h _ _ (fun Q2 kk => e_sponsor (a := s) hI.folk (zSimM_of m1) (kk _ ?_)))
  by_cases hc : maySp s c v 0 ∧ s 2 4 < 16
  · have e1 : uSponsor s s c v = uSp1 s (s 2 4) c v 0 := if_pos hc
    have e2 : vSponsor s (uSponsor s s c v) c v = vSp1 (uSp1 s (s 2 4) c v 0) (s 2 4) c v 0 := by
      unfold vSponsor
      rw [if_pos hc, e1]
    rw [e2]
    have a := add_sp hI.folk hI.chg hc.2 hc.1.1 hc.1.2.1 hc.1.2.2
    exact hI.folks ((((((((((((((zFK.rf.U (by decide) rfl _ _).U (by decide) rfl _ _).U (by decide) rfl _ _).U (by decide) rfl _ _).U (by decide) rfl _ _).U (by decide) rfl _ _).U (by decide) rfl _ _).U (by decide) rfl _ _).U (by decide) rfl _ _).U (by decide) rfl _ _).U (by decide) rfl _ _).U (by decide) rfl _ _).U (by decide) rfl _ _).V rfl _) a.1 a.2 (Int.le_refl _)
  · have e1 : uSponsor s s c v = s := if_neg hc
    have e2 : vSponsor s s c v = s := if_neg hc
    rw [e1, e2]
    exact hI
theorem spsN_ok {a : zSt} {i : Nat} {f : Int} : ∀ (n k j : Nat), k ≤ j → j < spsN a i f n k → okSps a i f j
  | 0, k, j, h1, h2 => by
    have h2 : j < k := h2
    omega
  | n + 1, k, j, h1, h2 => by
    unfold spsN at h2
    by_cases e : okSps a i f k
    · rw [if_pos e] at h2
      by_cases ej : j = k
      · rw [ej]; exact e
      · exact spsN_ok n (k + 1) j (by omega) h2
    · rw [if_neg e] at h2
      omega
theorem st_sponsors {i f n : Int} (hI : zInv s) (h : ∀ (ans : Int) s1, zAns x 176 [.inr (.inl 42), .inl i, .inl f, .inl n] (.inl ans) s1 → Q (some (.inl ans)) s1) : zE x 64 122 [.inr (.inl 0), .inl i, .inl f, .inl n] s Q := by
  have m1 : ∀ q, 42 ≤ q → uSponsors s s i f n q = s q := fun q hq => by
    unfold uSponsors
    split
    · exact uSps_o (by omega) _
    · rfl
  refine c_sponsors hI.folk hI.shv zFr.rf (h _ _ (fun Q2 kk => e_sponsors (a := s) hI.folk hI.shv (zSimM_of m1) (kk _ ?_)))
  by_cases hc : okSpsA i n ∧ ¬ refF s i.toNat 1 = -12
  · have e1 : uSponsors s s i f n = uSpsN s s i.toNat f (numSps s i.toNat f n) := if_pos hc
    have e2 : vSponsors s (uSponsors s s i f n) i f n = vSpsN s (uSpsN s s i.toNat f (numSps s i.toNat f n)) i.toNat f (numSps s i.toNat f n) := by
      unfold vSponsors
      rw [if_pos hc, e1]
    rw [e2]
    have ok : ∀ j, j < numSps s i.toNat f n → okSps s i.toNat f j := fun j hj => by
      unfold numSps at hj
      split at hj
      · omega
      · exact spsN_ok _ 0 j (Nat.zero_le _) hj
    have P : ∀ k, k ≤ numSps s i.toNat f n → zFolk (vSpsN s (uSpsN s s i.toNat f k) i.toNat f k) ∧ zChg (vSpsN s (uSpsN s s i.toNat f k) i.toNat f k) ∧ vSpsN s (uSpsN s s i.toNat f k) i.toNat f k 2 4 = s 2 4 + k ∧ vSpsN s (uSpsN s s i.toNat f k) i.toNat f k 2 3 = s 2 3 := by
      intro k
      induction k with
      | zero => exact fun _ => ⟨hI.folk, hI.chg, by show s 2 4 = s 2 4 + 0; omega, rfl⟩
      | succ k ih =>
        intro hk
        obtain ⟨i1, i2, i3, i4⟩ := ih (by omega)
        have o := ok k (by omega)
        have st : vSpsN s (uSpsN s s i.toNat f (k + 1)) i.toNat f (k + 1) = vSp1 (uSp1 (vSpsN s (uSpsN s s i.toNat f k) i.toNat f k) (s 2 4 + k) (cellF s i.toNat (f + 3 * k)) (cellF s i.toNat (f + 3 * k + 1)) (cellF s i.toNat (f + 3 * k + 2))) (s 2 4 + k) (cellF s i.toNat (f + 3 * k)) (cellF s i.toNat (f + 3 * k + 1)) (cellF s i.toNat (f + 3 * k + 2)) := by
          show vSp1 (vSpsN s (uSp1 (uSpsN s s i.toNat f k) (s 2 4 + k) (cellF s i.toNat (f + 3 * k)) (cellF s i.toNat (f + 3 * k + 1)) (cellF s i.toNat (f + 3 * k + 2))) i.toNat f k) (s 2 4 + k) (cellF s i.toNat (f + 3 * k)) (cellF s i.toNat (f + 3 * k + 1)) (cellF s i.toNat (f + 3 * k + 2)) = _
          rw [uvSps]
        have a := add_sp (c := cellF s i.toNat (f + 3 * k)) (v := cellF s i.toNat (f + 3 * k + 1)) (w := cellF s i.toNat (f + 3 * k + 2)) i1 i2 (by rw [i3]; exact o.2.1) (by unfold isCh; rw [i4]; exact o.2.2.1) o.2.2.2.1 o.2.2.2.2
        rw [i3, ← st] at a
        refine ⟨a.1, a.2, ?_, ?_⟩
        · rw [st]
          show s 2 4 + (k : Int) + 1 = s 2 4 + ((k + 1 : Nat) : Int)
          omega
        · rw [st]
          exact i4
    have p := P _ (Nat.le_refl _)
    refine hI.folks ⟨fun q h0 hq => ?_, fun k hk => ?_⟩ p.1 p.2.1 (Int.le_of_eq p.2.2.2.symm)
    · simp only [List.contains_cons, List.contains_nil, Bool.or_false, Bool.or_eq_false_iff, beq_eq_false_iff_ne] at hq
      rw [vSps_o (by omega), uSps_o (by omega)]
    · simp only [List.contains_cons, List.contains_nil, Bool.or_false, Bool.or_eq_false_iff, beq_eq_false_iff_ne] at hk
      rw [vSps_42, if_neg (by omega), uSps_o (by decide)]
  · have e1 : uSponsors s s i f n = s := if_neg hc
    have e2 : vSponsors s s i f n = s := if_neg hc
    rw [e1, e2]
    exact hI
end ZStepC
