/-! the class: who is there (Folk) -/
section ZFolk
variable {x : List Int} {d : Nat} {a s : zSt} {Q : zQ}
theorem m118 {v lo hi : Int} (h : Q (some (.inl (if lo ≤ v ∧ v ≤ hi then 1 else 0))) s) : zE x (d + 1) 118 [.inl v, .inl lo, .inl hi] s Q := by
  refine N118 ?_
  repeat' (first | with_reducible refine B118_0 ?_ | with_reducible refine B118_14 ?_ | with_reducible refine B118_15 ?_ | with_reducible refine ⟨fun _ => ?_, fun _ => ?_⟩ | (refine ⟨by omega, ?_⟩) | refine ⟨by omega, by omega, ?_⟩ | fail)
  all_goals exact zQi h (by omega)
theorem m38 (hs : zSim a s) (h : Q (some (.inl (a 2 3))) s) : zE x (d + 1) 38 [.inr (.inl 2)] s Q := by
  refine N38 ?_
  have e : s 2 3 = a 2 3 := congrFun (hs 2 rfl) 3
  repeat' (first | with_reducible refine B38_0 ?_ | with_reducible refine ⟨fun _ => ?_, fun _ => ?_⟩ | refine ⟨by omega, by omega, ?_⟩ | fail)
  all_goals exact zQi h (by omega)
theorem m39 (hs : zSim a s) (h : Q (some (.inl (a 2 4))) s) : zE x (d + 1) 39 [.inr (.inl 2)] s Q := by
  refine N39 ?_
  have e : s 2 4 = a 2 4 := congrFun (hs 2 rfl) 4
  repeat' (first | with_reducible refine B39_0 ?_ | with_reducible refine ⟨fun _ => ?_, fun _ => ?_⟩ | refine ⟨by omega, by omega, ?_⟩ | fail)
  all_goals exact zQi h (by omega)
theorem m40 {n : Int} (hs : zSim a s) (h : Q (some (.inl (if 0 ≤ n ∧ n < a 2 3 then 1 else 0))) s) : zE x (d + 1) 40 [.inr (.inl 2), .inl n] s Q := by
  refine N40 ?_
  have e : s 2 3 = a 2 3 := congrFun (hs 2 rfl) 3
  repeat' (first | with_reducible refine B40_0 ?_ | with_reducible refine B40_16 ?_ | with_reducible refine B40_17 ?_ | with_reducible refine ⟨fun _ => ?_, fun _ => ?_⟩ | (refine ⟨by omega, ?_⟩) | refine ⟨by omega, by omega, ?_⟩ | fail)
  all_goals exact zQi h (by omega)
theorem m41 {n : Int} (hs : zSim a s) (h : Q (some (.inl (if 0 ≤ n ∧ n < a 2 4 then 1 else 0))) s) : zE x (d + 1) 41 [.inr (.inl 2), .inl n] s Q := by
  refine N41 ?_
  have e : s 2 4 = a 2 4 := congrFun (hs 2 rfl) 4
  repeat' (first | with_reducible refine B41_0 ?_ | with_reducible refine B41_16 ?_ | with_reducible refine B41_17 ?_ | with_reducible refine ⟨fun _ => ?_, fun _ => ?_⟩ | (refine ⟨by omega, ?_⟩) | refine ⟨by omega, by omega, ?_⟩ | fail)
  all_goals exact zQi h (by omega)
theorem m42 {n : Int} (hI : zFolk a) (hs : zSim a s) (hn : 0 ≤ n ∧ n < a 2 4) (h : Q (some (.inl (a 47 n.toNat))) s) : zE x (d + 2) 42 [.inr (.inl 2), .inl n] s Q := by
  refine N42 ?_
  have e17 : s 17 = a 17 := hs 17 rfl
  obtain ⟨⟨i1, i2, i3, i4⟩, -, i6⟩ := hI
  have i7 := i6 n.toNat (by omega)
  repeat' (first | with_reducible refine B42_0 ?_ | with_reducible refine B42_5 ?_ | with_reducible refine B42_17 ?_ | with_reducible refine B42_18 ?_ | with_reducible refine ⟨fun _ => ?_, fun _ => ?_⟩ | (refine m41 hs ?_) | refine ⟨by omega, by omega, ?_⟩ | fail)
  all_goals try (exfalso; omega)
  all_goals exact zQi h (by rw [e17]; exact i7.1.symm)
theorem m43 {n w : Int} (hI : zCnt a) (hs : zSim a s) (h : Q (some (.inl (plF (a 2 3) (a 2 4) n w))) s) : zE x (d + 1) 43 [.inr (.inl 2), .inl n, .inl w] s Q := by
  refine N43 ?_
  have e : s 2 3 = a 2 3 := congrFun (hs 2 rfl) 3
  have e' : s 2 4 = a 2 4 := congrFun (hs 2 rfl) 4
  obtain ⟨i1, i2, i3, i4⟩ := hI
  repeat' (first | with_reducible refine B43_0 ?_ | with_reducible refine B43_14 ?_ | with_reducible refine B43_16 ?_ | with_reducible refine B43_37 ?_ | with_reducible refine B43_38 ?_ | with_reducible refine B43_39 ?_ | with_reducible refine B43_66 ?_ | with_reducible refine B43_67 ?_ | with_reducible refine B43_68 ?_ | with_reducible refine B43_82 ?_ | with_reducible refine B43_83 ?_ | with_reducible refine ⟨fun _ => ?_, fun _ => ?_⟩ | refine ⟨by omega, by omega, ?_⟩ | fail)
  all_goals exact zQi h (by
    unfold plF
    try simp only [wr]
    omega)
theorem m44 {p : Int} (hs : zSim a s) (hp : 0 ≤ p ∧ p < 108) (h : Q (some (.inl (a 16 p.toNat))) s) : zE x (d + 1) 44 [.inr (.inl 2), .inl p] s Q := by
  refine N44 ?_
  have e16 : s 16 = a 16 := hs 16 rfl
  repeat' (first | with_reducible refine B44_0 ?_ | with_reducible refine B44_22 ?_ | with_reducible refine B44_23 ?_ | with_reducible refine ⟨fun _ => ?_, fun _ => ?_⟩ | refine ⟨by omega, by omega, ?_⟩ | fail)
  all_goals try (exfalso; omega)
  all_goals exact zQi h (by rw [e16])
theorem plF_R {ch sp n w : Int} (h1 : 0 ≤ ch ∧ ch ≤ 6) (h2 : 0 ≤ sp ∧ sp ≤ 16) (h : zOkN ch sp w n) : 0 ≤ plF ch sp n w ∧ plF ch sp n w < 108 := by
  unfold zOkN at h
  unfold plF
  omega
theorem m46 {n w : Int} (hI : zFolk a) (hs : zSim a s) (hn : zOkN (a 2 3) (a 2 4) w n) (h : Q (some (.inl (numF a w n))) s) : zE x (d + 2) 46 [.inr (.inl 2), .inl n, .inl w] s Q := by
  refine N46 ?_
  have hp := plF_R hI.1.1 hI.1.2.1 hn
  repeat' (first | with_reducible refine B46_0 ?_ | with_reducible refine B46_7 ?_ | with_reducible refine B46_10 ?_ | with_reducible refine ⟨fun _ => ?_, fun _ => ?_⟩ | (refine m43 hI.1 hs ?_) | (refine m44 hs hp ?_) | refine ⟨by omega, by omega, ?_⟩ | fail)
  all_goals exact zQi h (hI.2.1 w n hn).1.symm
end ZFolk
