/-! law, feed: the class -/
section ZParse6
variable {x : List Int} {d : Nat} {a s : zSt} {Q : zQ} {q : Nat}
/-- the law is told: steps and draft change places, or stay -/
theorem m60 (hT : zTap s) (hr : (s 1 3 = 12 ∧ s 1 5 = 13) ∨ (s 1 3 = 13 ∧ s 1 5 = 12))
    (h1 : (pText s).1 = true → ∀ s', zFr [1, (s 1 5).toNat] s s' → s' 1 1 = 0 → s' 1 3 = s 1 5 → s' 1 5 = s 1 3 → s' 1 4 = (encC (pText s).2.2).length → (∀ k v, (encC (pText s).2.2)[k]? = some v → s' (s 1 5).toNat k = v) → Q (some (.inl (-1))) s')
    (h0 : (pText s).1 = false → ∀ s', zFr [1, (s 1 5).toNat] s s' → s' 1 1 = 0 → s' 1 3 = s 1 3 → s' 1 5 = s 1 5 → s' 1 4 = s 1 4 → Q (some (.inl ((pText s).2.1 : Nat))) s') : zE x (d + 60) 60 [.inr (.inl 1)] s Q := by
  have hq : (s 1 5).toNat = 12 ∨ (s 1 5).toNat = 13 := by omega
  have r5 : s 1 5 = ((s 1 5).toNat : Nat) := by omega
  rcases hr with ⟨e3, e5⟩ | ⟨e3, e5⟩
  · refine N60a (B60a_0 (m61 (a := s) (q := (s 1 5).toNat) hT hq zFr.rf rfl rfl rfl r5 (fun e s1 f1 f2 => B60a_4 ⟨fun g => absurd g (by decide), fun _ => B60a_14 ?_ ?_ (B60a_40 (h1 e _ ?_ ?_ ?_ ?_ ?_ ?_))⟩) (fun e s1 f1 => B60a_4 ⟨fun _ => B60a_40 (h0 e _ ?_ ?_ ?_ ?_ ?_), fun g => absurd (by omega) g⟩)))
    · show (s1 1 3).toNat = 12
      rw [f1.2.2.1, e3]; rfl
    · show (s1 1 5).toNat = 13
      rw [f1.2.2.2.2.1, e5]; rfl
    · exact (((f1.1.U rfl _ _).U rfl _ _).U rfl _ _).U rfl _ _
    · rfl
    · rw [e5]; rfl
    · rw [e3]; rfl
    · exact f2.1
    · intro k v hk
      rw [zU_ne (by omega), zU_ne (by omega), zU_ne (by omega), zU_ne (by omega)]
      exact f2.2 k v hk
    · exact f1.1.U rfl _ _
    · rfl
    · exact f1.2.2.1
    · exact f1.2.2.2.2.1.trans r5.symm
    · exact f1.2.2.2.1
  · refine N60b (B60b_0 (m61 (a := s) (q := (s 1 5).toNat) hT hq zFr.rf rfl rfl rfl r5 (fun e s1 f1 f2 => B60b_4 ⟨fun g => absurd g (by decide), fun _ => B60b_14 ?_ ?_ (B60b_40 (h1 e _ ?_ ?_ ?_ ?_ ?_ ?_))⟩) (fun e s1 f1 => B60b_4 ⟨fun _ => B60b_40 (h0 e _ ?_ ?_ ?_ ?_ ?_), fun g => absurd (by omega) g⟩)))
    · show (s1 1 3).toNat = 13
      rw [f1.2.2.1, e3]; rfl
    · show (s1 1 5).toNat = 12
      rw [f1.2.2.2.2.1, e5]; rfl
    · exact (((f1.1.U rfl _ _).U rfl _ _).U rfl _ _).U rfl _ _
    · rfl
    · rw [e5]; rfl
    · rw [e3]; rfl
    · exact f2.1
    · intro k v hk
      rw [zU_ne (by omega), zU_ne (by omega), zU_ne (by omega), zU_ne (by omega)]
      exact f2.2 k v hk
    · exact f1.1.U rfl _ _
    · rfl
    · exact f1.2.2.1
    · exact f1.2.2.2.2.1.trans r5.symm
    · exact f1.2.2.2.1
end ZParse6
