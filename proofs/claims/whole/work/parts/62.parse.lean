/-! law, feed: the class -/
section ZParse6
variable {x : List Int} {d : Nat} {a s : zSt} {Q : zQ} {q : Nat}
/-- the law is told: steps and draft change places, or stay -/
theorem m60 (hT : zTap s) (hr : (s 1 3 = 12 ∧ s 1 5 = 13) ∨ (s 1 3 = 13 ∧ s 1 5 = 12))
    (h1 : (pText s).1 = true → ∀ s', zFr [1, (s 1 5).toNat] s s' → s' 1 1 = 0 → s' 1 3 = s 1 5 → s' 1 5 = s 1 3 → s' 1 4 = (encC (pText s).2.2).length → (∀ k v, (encC (pText s).2.2)[k]? = some v → s' (s 1 5).toNat k = v) → Q (some (.inl (-1))) s')
    (h0 : (pText s).1 = false → ∀ s', zFr [1, (s 1 5).toNat] s s' → s' 1 1 = 0 → s' 1 3 = s 1 3 → s' 1 5 = s 1 5 → s' 1 4 = s 1 4 → Q (some (.inl ((pText s).2.1 : Nat))) s') : zE x (d + 60) 60 [.inr (.inl 1)] s Q := by
  have hq : (s 1 5).toNat = 12 ∨ (s 1 5).toNat = 13 := by omega
  have r5 : s 1 5 = ((s 1 5).toNat : Nat) := by omega
  rcases hr with ⟨e3, e5⟩ | ⟨e3, e5⟩
  · refine N60a (B60a_0 (m61 (a := s) (q := (s 1 5).toNat) hT hq zFr.rf rfl rfl rfl r5 (fun e s1 f1 f2 => B60a_4 ⟨fun g => absurd g (by decide), fun _ => B60a_14 ?_ ?_ (B60a_40 (h1 e _ ?_ ?_ ?_ ?_ ?_ ?_))⟩) (fun e s1 f1 => B60a_4 ⟨fun _ => B60a_40 (h0 e _ ?_ ?_ ?_ ?_ ?_), fun g => absurd (by omega) g⟩)))
    · show (s1 1 3).toNat = 12
      rw [f1.2.2.1, e3]; rfl
    · show (s1 1 5).toNat = 13
      rw [f1.2.2.2.2.1, e5]; rfl
    · exact (((f1.1.U rfl _ _).U rfl _ _).U rfl _ _).U rfl _ _
    · rfl
    · rw [e5]; rfl
    · rw [e3]; rfl
    · exact f2.1
    · intro k v hk
      rw [zU_ne (by omega), zU_ne (by omega), zU_ne (by omega), zU_ne (by omega)]
      exact f2.2 k v hk
    · exact f1.1.U rfl _ _
    · rfl
    · exact f1.2.2.1
    · exact f1.2.2.2.2.1.trans r5.symm
    · exact f1.2.2.2.1
  · refine N60b (B60b_0 (m61 (a := s) (q := (s 1 5).toNat) hT hq zFr.rf rfl rfl rfl r5 (fun e s1 f1 f2 => B60b_4 ⟨fun g => absurd g (by decide), fun _ => B60b_14 ?_ ?_ (B60b_40 (h1 e _ ?_ ?_ ?_ ?_ ?_ ?_))⟩) (fun e s1 f1 => B60b_4 ⟨fun _ => B60b_40 (h0 e _ ?_ ?_ ?_ ?_ ?_), fun g => absurd (by omega) g⟩)))
    · show (s1 1 3).toNat = 13
      rw [f1.2.2.1, e3]; rfl
    · show (s1 1 5).toNat = 12
      rw [f1.2.2.2.2.1, e5]; rfl
    · exact (((f1.1.U rfl _ _).U rfl _ _).U rfl _ _).U rfl _ _
    · rfl
    · rw [e5]; rfl
    · rw [e3]; rfl
    · exact f2.1
    · intro k v hk
      rw [zU_ne (by omega), zU_ne (by omega), zU_ne (by omega), zU_ne (by omega)]
      exact f2.2 k v hk
    · exact f1.1.U rfl _ _
    · rfl
    · exact f1.2.2.1
    · exact f1.2.2.2.2.1.trans r5.symm
    · exact f1.2.2.2.1
theorem c_law (hT : zTap s) (hr : (s 1 3 = 12 ∧ s 1 5 = 13) ∨ (s 1 3 = 13 ∧ s 1 5 = 12)) (hp : ((pText s).2.1 : Int) ≤ 1000)
    (h1 : (pText s).1 = true → ∀ s', zFr [1, (s 1 5).toNat] s s' → s' 1 1 = 0 → s' 1 3 = s 1 5 → s' 1 5 = s 1 3 → s' 1 4 = (encC (pText s).2.2).length → (∀ k v, (encC (pText s).2.2)[k]? = some v → s' (s 1 5).toNat k = v) → Q (some (.inl 1)) s')
    (h0 : (pText s).1 = false → ∀ s', zFr [1, (s 1 5).toNat] s s' → s' 1 1 = 0 → s' 1 3 = s 1 3 → s' 1 5 = s 1 5 → s' 1 4 = s 1 4 → Q (some (.inl (-100 - ((pText s).2.1 : Nat)))) s') : zE x (d + 61) 127 [.inr (.inl 0)] s Q :=
  N127 (B127_0 (m60 hT hr (fun e s' a1 a2 a3 a4 a5 a6 => B127_7 ⟨fun g => absurd g (by decide), fun _ => B127_20 (h1 e s' a1 a2 a3 a4 a5 a6)⟩) (fun e s' a1 a2 a3 a4 a5 => B127_7 ⟨fun _ => B127_16 (B127_20 (zQi (h0 e s' a1 a2 a3 a4 a5) (by rw [wr_id (by unfold zR; omega)]))), fun g => absurd (by omega) g⟩)))
def rFeed (a : zSt) (v : Int) : Int := if 0 ≤ v ∧ v ≤ 255 then (if a 42 24 < 120 then a 42 24 + 1 else -3) else -1
def uFeed (s : zSt) (v : Int) : zSt := if (0 ≤ v ∧ v ≤ 255) ∧ s 1 1 < 120 then zU (zU s 11 (s 1 1).toNat v) 1 1 (s 1 1 + 1) else s
theorem c_feed {v : Int} (hT : zTap a) (hs : zSim a s) (h : Q (some (.inl (rFeed a v))) (uFeed s v)) : zE x (d + 2) 126 [.inr (.inl 0), .inl v] s Q := by
  have e1 : s 1 1 = a 1 1 := congrFun (hs 1 rfl) 1
  have t1 := hT.1
  have t2 := hT.2.1
  unfold rFeed uFeed at h
  refine N126 (B126_0 (m118 (B126_8 ⟨fun h0 => B126_13 (N59 (B59_0 ⟨fun h1 => B59_12 ⟨by omega, by omega, B126_21 ?_⟩, fun h1 => B126_21 ?_⟩)), fun h0 => ?_⟩)))
  · rw [if_pos (by omega), if_pos (by omega), if_pos (by omega)] at h
    rw [wr_id (x := s 1 1 + 1) (by unfold zR; omega)]
    exact zQi h (by omega)
  · rw [if_pos (by omega), if_neg (by omega), if_neg (by omega)] at h
    exact h
  · rw [if_neg (by omega), if_neg (by omega)] at h
    exact h
def vFeed (s : zSt) (v : Int) : zSt := if (0 ≤ v ∧ v ≤ 255) ∧ s 42 24 < 120 then zU (zU s 57 (s 42 24).toNat (w8 (w8 v))) 42 24 (s 42 24 + 1) else s
theorem e_feed {v : Int} (h24 : 0 ≤ a 42 24 ∧ a 42 24 ≤ 120) (hs : zSimM a s) (h : Q (some (.inl (rFeed a v))) (vFeed s v)) : zE x (d + 2) 186 [.inr (.inl 42), .inl v] s Q := by
  have e1 : s 42 24 = a 42 24 := congrFun (hs 42 (by decide) rfl) 24
  unfold rFeed vFeed at h
  refine N186 (B186_0 (m170 (B186_8 ⟨fun h0 => B186_13 ⟨fun h1 => B186_25 ⟨by omega, by omega, ?_⟩, fun h1 => ?_⟩, fun h0 => ?_⟩)))
  · rw [if_pos (by omega), if_pos (by omega), if_pos (by omega)] at h
    rw [wr_id (x := s 42 24 + 1) (by unfold zR; omega)]
    exact zQi h (by omega)
  · rw [if_pos (by omega), if_neg (by omega), if_neg (by omega)] at h
    exact h
  · rw [if_neg (by omega), if_neg (by omega)] at h
    exact h
end ZParse6
