/-! calls that change what is kept: tape, law, deed, ledger, image, bodies, shelves -/
theorem zFK.rf {L K : List Nat} {a : zSt} : zFK L K a a := ⟨fun _ _ _ => rfl, fun _ _ => rfl⟩
theorem zFK.U {L K : List Nat} {a t : zSt} (h : zFK L K a t) {q : Nat} (h0 : q ≠ 42) (hq : L.contains q = true) (k : Nat) (v : Int) : zFK L K a (zU t q k v) := ⟨fun q' h' hq' => by
  rw [zU_ne (fun e => by rw [e, hq] at hq'; cases hq')]
  exact h.1 q' h' hq', fun j hj => by
  rw [zU_ne (Ne.symm h0)]
  exact h.2 j hj⟩
theorem zFK.V {L K : List Nat} {a t : zSt} (h : zFK L K a t) {k : Nat} (hk : K.contains k = true) (v : Int) : zFK L K a (zU t 42 k v) := ⟨fun q' h' hq' => by
  rw [zU_ne h']
  exact h.1 q' h' hq', fun j hj => by
  rw [zU_at]
  exact (if_neg (fun e => by rw [e, hk] at hj; cases hj)).trans (h.2 j hj)⟩
theorem zFK.F {L K : List Nat} {a t : zSt} (h : zFK L K a t) {q : Nat} (h0 : q ≠ 42) (hq : L.contains q = true) (f : Nat → Int) : zFK L K a (zF t q f) := ⟨fun q' h' hq' => by
  rw [zF_ne (fun e => by rw [e, hq] at hq'; cases hq')]
  exact h.1 q' h' hq', fun j hj => by
  rw [zF_ne (Ne.symm h0)]
  exact h.2 j hj⟩
theorem zSimM_of {a s : zSt} (h : ∀ q, 42 ≤ q → s q = a q) : zSimM a s := fun q hq _ => h q hq
/-- laps, pence hang on the reference's rows alone -/
theorem runF_M {a b : zSt} {f : Nat → Int} (h58 : b 58 = a 58) (h59 : b 59 = a 59) : ∀ (n k : Nat) (st : List Int), runF b f n k st = runF a f n k st
  | 0, _, _ => rfl
  | n + 1, k, st => by
    show runF b f n (k + 1) (opF f (b 58 k) (b 59 k) st) = runF a f n (k + 1) (opF f (a 58 k) (a 59 k) st)
    rw [runF_M h58 h59 n, h58, h59]
theorem givF_M {a b : zSt} {f : Nat → Int} (h58 : b 58 = a 58) (h59 : b 59 = a 59) (h61 : b 61 = a 61) (h62 : b 62 = a 62) : ∀ (n l : Nat) (u : Int), givF b f n l u = givF a f n l u
  | 0, _, _ => rfl
  | n + 1, l, u => by
    unfold givF workF
    rw [h61, h62, runF_M h58 h59, runF_M h58 h59, givF_M h58 h59 h61 h62 n]
theorem lapF_M {a b : zSt} (h : ∀ q, 42 ≤ q → b q = a q) {c : Nat} {k m : Int} : lapF b c k m = lapF a c k m := by
  unfold lapF lawF
  rw [givF_M (h 58 (by decide)) (h 59 (by decide)) (h 61 (by decide)) (h 62 (by decide)), h 42 (by decide), h 43 (by decide), h 44 (by decide), h 60 (by decide)]
section ZStepU
variable {x : List Int} {s : zSt} {Q : zQ}
theorem st_feed {v : Int} (hI : zInv s) (h : ∀ (ans : Int) s1, zAns x 186 [.inr (.inl 42), .inl v] (.inl ans) s1 → Q (some (.inl ans)) s1) : zE x 64 126 [.inr (.inl 0), .inl v] s Q := by
  have T := hI.tap
  have M : zSimM s (uFeed s v) := zSimM_of (fun q hq => by
    unfold uFeed
    split
    · rw [zU_ne (by omega), zU_ne (by omega)]
    · rfl)
  refine c_feed hI.tap zFr.rf (h _ _ (fun Q2 k => e_feed ⟨by have := T.1; have := T.2.1; omega, by have := T.1; have := T.2.1; omega⟩ M (k _ ?_)))
  by_cases hc : (0 ≤ v ∧ v ≤ 255) ∧ s 1 1 < 120
  · have e1 : uFeed s v = zU (zU s 11 (s 1 1).toNat v) 1 1 (s 1 1 + 1) := if_pos hc
    have e42 : (uFeed s v) 42 = s 42 := by rw [e1]; rfl
    have e24 : (uFeed s v) 42 24 = s 1 1 := by rw [e42]; exact T.1.symm
    have e2 : vFeed (uFeed s v) v = zU (zU (zU (zU s 11 (s 1 1).toNat v) 1 1 (s 1 1 + 1)) 57 (s 1 1).toNat (w8 (w8 v))) 42 24 (s 1 1 + 1) := by
      unfold vFeed
      rw [e24, if_pos hc, e1]
    rw [e2]
    have f : zFK [1, 11, 57] [24] s (zU (zU (zU (zU s 11 (s 1 1).toNat v) 1 1 (s 1 1 + 1)) 57 (s 1 1).toNat (w8 (w8 v))) 42 24 (s 1 1 + 1)) := (((zFK.rf.U (by decide) rfl _ _).U (by decide) rfl _ _).U (by decide) rfl _ _).V rfl _
    refine ⟨hI.folk.k f rfl rfl, hI.law.eq rfl rfl rfl ?_ rfl (fun k _ => ⟨rfl, rfl⟩) rfl (fun k _ => ⟨rfl, rfl⟩), hI.shv.k f rfl rfl, hI.bod.k f rfl rfl, hI.trc.k f rfl rfl, hI.ded.k f rfl, hI.img.k f rfl rfl, hI.chg.k f rfl rfl, ⟨rfl, ⟨?_, ?_⟩, fun k hk => ?_⟩, hI.row.k f rfl⟩
    · rfl
    · show 0 ≤ s 1 1 + 1
      have := T.2.1
      omega
    · show s 1 1 + 1 ≤ 120
      omega
    · have hk : (k : Int) < s 1 1 + 1 := hk
      have t3 := T.2.2 k
      show (0 ≤ (if k = (s 1 1).toNat then v else s 11 k) ∧ (if k = (s 1 1).toNat then v else s 11 k) ≤ 255) ∧ (if k = (s 1 1).toNat then w8 (w8 v) else s 57 k) = w8 (if k = (s 1 1).toNat then v else s 11 k)
      by_cases e : k = (s 1 1).toNat
      · rw [if_pos e, if_pos e]
        refine ⟨hc.1, ?_⟩
        unfold w8
        omega
      · rw [if_neg e, if_neg e]
        exact t3 (by have := T.2.1; omega)
  · have e1 : uFeed s v = s := if_neg hc
    have e2 : vFeed s v = s := if_neg (by rw [← T.1]; exact hc)
    rw [e1, e2]
    exact hI
theorem st_law (hI : zInv s) (h : ∀ (ans : Int) s1, zAns x 204 [.inr (.inl 42)] (.inl ans) s1 → Q (some (.inl ans)) s1) : zE x 64 127 [.inr (.inl 0)] s Q := by
  have T := hI.tap
  have h24 : 0 ≤ s 42 24 ∧ s 42 24 ≤ 120 := by have := T.1; have := T.2.1; omega
  have hp : (pText s).2.1 ≤ (s 42 24).toNat := pLines_good (tpF_end s) 121 0 [] (Nat.zero_le _)
  have hr := hI.law.1
  have hq : (s 1 5).toNat = 12 ∨ (s 1 5).toNat = 13 := by omega
  have same : ∀ s1, zFr [1, (s 1 5).toNat] s s1 → pText s1 = pText s := fun s1 f => by
    have n57 : ([1, (s 1 5).toNat] : List Nat).contains 57 = false := by rcases hq with e | e <;> rw [e] <;> rfl
    have n42 : ([1, (s 1 5).toNat] : List Nat).contains 42 = false := by rcases hq with e | e <;> rw [e] <;> rfl
    unfold pText
    rw [tpF_eq (f 57 n57) (congrFun (f 42 n42) 24), f 42 n42]
  have fk : ∀ {s1 s2}, zFr [1, (s 1 5).toNat] s s1 → zFr rlL s1 s2 → (∀ k, k < 24 ∨ 28 < k ∧ k ≠ 36 → s2 42 k = s1 42 k) → zFK [1, 12, 13, 58, 59, 60, 61, 62] [24, 25, 26, 27, 28, 36] s s2 := fun {s1 s2} f1 f2 g => by
    have a1 : zFr [1, 12, 13] s s1 := f1.le _ (by rcases hq with e | e <;> rw [e] <;> rfl)
    refine ⟨fun q h0 hq => ?_, fun k hk => ?_⟩
    · rw [f2 q (by simp only [rlL, List.contains_cons, Bool.or_eq_false_iff] at hq ⊢; refine ⟨beq_false_of_ne h0, ?_⟩; simp_all), a1 q (by simp only [List.contains_cons, Bool.or_eq_false_iff] at hq ⊢; simp_all)]
    · rw [g k (by
        simp only [List.contains_cons, List.contains_nil, Bool.or_false, Bool.or_eq_false_iff, beq_eq_false_iff_ne] at hk
        omega), congrFun (a1 42 rfl) k]
  have rest : ∀ {s2}, zFK [1, 12, 13, 58, 59, 60, 61, 62] [24, 25, 26, 27, 28, 36] s s2 → zLaw s2 → s2 1 1 = 0 → s2 42 24 = 0 → zInv s2 := fun {s2} f l e1 e2 => ⟨hI.folk.k f rfl rfl, l, hI.shv.k f rfl rfl, hI.bod.k f rfl rfl, hI.trc.k f rfl rfl, hI.ded.k f rfl, hI.img.k f rfl rfl, hI.chg.k f rfl rfl, ⟨e1.trans e2.symm, by omega, fun k hk => absurd hk (by omega)⟩, hI.row.k f rfl⟩
  refine c_law T hr (by omega) (fun e s1 f1 g1 g3 g5 g4 gD => ?_) (fun e s1 f1 g1 g3 g5 g4 => ?_)
  · have e42 : s1 42 = s 42 := f1 42 (by rcases hq with e | e <;> rw [e] <;> rfl)
    refine h _ s1 (fun Q2 k => e_law (by rw [e42]; exact h24) (fun e' s2 f2 k1 k2 k3 k4 k5 k6 => k s2 ?_) (fun e' => by rw [same s1 f1, e] at e'; cases e'))
    rw [same s1 f1] at k4 k5 k6
    have l1 : s2 1 = s1 1 := f2 1 rfl
    have l12 : s2 12 = s1 12 := f2 12 rfl
    have l13 : s2 13 = s1 13 := f2 13 rfl
    refine rest (fk f1 f2 k1) ?_ (by rw [l1]; exact g1) k2
    have wf := pLines_wf (T := tpF s) (N := (s 42 24).toNat) 121 0 [] (fun l hl => by cases hl) e
    have len := pLines_len (tpF_end s) 121 0 [] (Nat.zero_le _) (Nat.le_refl _) (Nat.le_refl _) e
    have wf : (pText s).2.2 ≠ [] ∧ ∀ l ∈ (pText s).2.2, (l.1 = [] ∨ wfO l.1) ∧ wfO l.2 := wf
    have len : (encC (pText s).2.2).length ≤ (s 42 24).toNat + 1 ∧ 2 * (pText s).2.2.length ≤ (s 42 24).toNat + 2 := len
    have ol := opsL_len (pText s).2.2
    refine ⟨by rw [l1, g3, g5]; omega, Or.inr ⟨k3, (pText s).2.2, wf.1, wf.2, by omega, by rw [l1]; exact g4, fun j v hj => ?_, by omega, k4, by omega, k5, k6⟩⟩
    have := gD j v hj
    unfold zStp
    rw [l1, l12, l13, g3]
    by_cases e12 : s 1 5 = 12
    · rw [if_pos e12]
      rw [show (s 1 5).toNat = 12 by omega] at this
      exact this
    · rw [if_neg e12]
      rw [show (s 1 5).toNat = 13 by omega] at this
      exact this
  · have e42 : s1 42 = s 42 := f1 42 (by rcases hq with e | e <;> rw [e] <;> rfl)
    refine h _ s1 (fun Q2 k => e_law (by rw [e42]; exact h24) (fun e' => by rw [same s1 f1, e] at e'; cases e') (fun e' s2 f2 k1 k2 k3 k4 k5 => ?_))
    rw [same s1 f1]
    refine k s2 ?_
    have l1 : s2 1 = s1 1 := f2 1 rfl
    have l12 : s2 12 = s1 12 := f2 12 rfl
    have l13 : s2 13 = s1 13 := f2 13 rfl
    refine rest (fk f1 f2 (fun k hk => k1 k (by omega))) ?_ (by rw [l1]; exact g1) k2
    have o : ∀ q, q = 58 ∨ q = 59 ∨ q = 60 ∨ q = 61 ∨ q = 62 → s1 q = s q := fun q hq' => f1 q (by
      rcases hq with e | e <;> rw [e] <;> rcases hq' with rfl | rfl | rfl | rfl | rfl <;> rfl)
    refine hI.law.eq (by rw [l1]; exact g3) (by rw [l1]; exact g4) (by rw [l1]; exact g5) ?_ ((k1 36 (by omega)).trans (congrFun e42 36)) (fun j hj => ?_) ?_ (fun j hj => ?_)
    · unfold zStp
      rw [l1, g3, l12, l13]
      rcases hr with ⟨r3, r5⟩ | ⟨r3, r5⟩
      · rw [if_pos r3, if_pos r3]
        exact f1 12 (by rw [r5]; rfl)
      · rw [if_neg (by omega), if_neg (by omega)]
        exact f1 13 (by rw [r5]; rfl)
    · rw [(k3 j hj).1, (k3 j hj).2, o 58 (by omega), o 59 (by omega)]
      exact ⟨rfl, rfl⟩
    · rw [k4, o 60 (by omega)]
    · rw [(k5 j hj).1, (k5 j hj).2, o 61 (by omega), o 62 (by omega)]
      exact ⟨rfl, rfl⟩
theorem uRun_M {c : Int} : ∀ q, 42 ≤ q → uRun s s c q = s q := fun q hq => by
  unfold uRun
  split
  · rw [zU_ne (by omega), zU_ne (by omega), zU_ne (by omega), zU_ne (by omega)]
  · rfl
theorem st_run {c : Int} (hI : zInv s) (h : ∀ (ans : Int) s1, zAns x 252 [.inr (.inl 42), .inl c] (.inl ans) s1 → Q (some (.inl ans)) s1) : zE x 64 152 [.inr (.inl 0), .inl c] s Q := by
  refine c_run hI.folk hI.law hI.ded zFr.rf (fun s1 f1 => h _ s1 (fun Q2 k => ?_))
  have m1 : ∀ q, 42 ≤ q → s1 q = s q := fun q hq => (f1 q (by
    simp only [List.contains_cons, List.contains_nil, Bool.or_false, Bool.or_eq_false_iff, beq_eq_false_iff_ne]
    omega)).trans (uRun_M q hq)
  have u1 : zFK [7, 30, 31] [] s (uRun s s c) := by
    unfold uRun
    split
    · exact (((zFK.rf.U (by decide) rfl _ _).U (by decide) rfl _ _).U (by decide) rfl _ _).U (by decide) rfl _ _
    · exact zFK.rf
  have F1 : zFK [7, 30, 31, 14, 15] [] s s1 := (u1.le _ _ rfl rfl).tr ((zFr.K f1 rfl).le _ _ rfl rfl)
  have e2 : s1 2 = s 2 := F1.1 2 (by decide) rfl
  have nx : nxtF s1 c.toNat = nxtF s c.toNat := by
    unfold nxtF
    rw [lapF_M m1, m1 70 (by decide), m1 71 (by decide)]
  have ok : okRun s1 c ↔ okRun s c := by
    unfold okRun isCh
    rw [nx, e2, m1 70 (by decide), m1 45 (by decide)]
  have an : rRun s1 c = rRun s c := by
    unfold rRun isCh
    rw [nx, e2, m1 70 (by decide), m1 45 (by decide)]
  refine e_run (a := s1) (hI.folk.k F1 rfl rfl) (hI.law.k F1 rfl rfl) zFr.rf (fun s2 f2 => ?_)
  rw [an]
  refine k s2 ?_
  have v1 : zFK [70, 71, 73] [] s1 (vRun s1 s1 c) := by
    unfold vRun
    split
    · exact (((zFK.rf.U (by decide) rfl _ _).U (by decide) rfl _ _).U (by decide) rfl _ _).U (by decide) rfl _ _
    · exact zFK.rf
  have F2 : zFK [7, 30, 31, 14, 15, 70, 71, 73, 63, 64] [] s s2 := (F1.le _ _ rfl rfl).tr ((v1.le _ _ rfl rfl).tr ((zFr.K f2 rfl).le _ _ rfl rfl))
  refine ⟨hI.folk.k F2 rfl rfl, hI.law.k F2 rfl rfl, hI.shv.k F2 rfl rfl, hI.bod.k F2 rfl rfl, hI.trc.k F2 rfl rfl, ?_, hI.img.k F2 rfl rfl, hI.chg.k F2 rfl rfl, hI.tap.k F2 rfl rfl, hI.row.k F2 rfl⟩
  obtain ⟨d1, d2, d3, d4, d5, d6, d7⟩ := hI.ded
  have r7 : s2 7 = s1 7 := (f2 7 rfl).trans (v1.1 7 (by decide) rfl)
  have r30 : s2 30 = s1 30 := (f2 30 rfl).trans (v1.1 30 (by decide) rfl)
  have r31 : s2 31 = s1 31 := (f2 31 rfl).trans (v1.1 31 (by decide) rfl)
  have r32 : s2 32 = s 32 := F2.1 32 (by decide) rfl
  have r72 : s2 72 = s 72 := F2.1 72 (by decide) rfl
  by_cases hc : okRun s c
  · have eu : uRun s s c = zU (zU (zU (zU s 7 3 (wr (s 7 3 + 1))) 7 5 (wr (s 7 5 + lapF s c.toNat (s 70 c.toNat) (s 71 c.toNat)))) 30 c.toNat (wr (s 30 c.toNat + 1))) 31 c.toNat (nxtF s c.toNat) := if_pos hc
    have ev : vRun s1 s1 c = zU (zU (zU (zU s1 70 c.toNat (wr (s1 70 c.toNat + 1))) 71 c.toNat (nxtF s1 c.toNat)) 73 0 (wr (s1 73 0 + 1))) 73 3 (wr (s1 73 3 + lapF s1 c.toNat (s1 70 c.toNat) (s1 71 c.toNat))) := if_pos (ok.mpr hc)
    have a7 : ∀ k, s2 7 k = if k = 5 then wr (s 7 5 + lapF s c.toNat (s 70 c.toNat) (s 71 c.toNat)) else if k = 3 then wr (s 7 3 + 1) else s 7 k := fun k => by rw [r7, f1 7 rfl, eu]; rfl
    have a30 : ∀ k, s2 30 k = if k = c.toNat then wr (s 30 c.toNat + 1) else s 30 k := fun k => by rw [r30, f1 30 rfl, eu]; rfl
    have a31 : ∀ k, s2 31 k = if k = c.toNat then nxtF s c.toNat else s 31 k := fun k => by rw [r31, f1 31 rfl, eu]; rfl
    have a70 : ∀ k, s2 70 k = if k = c.toNat then wr (s 70 c.toNat + 1) else s 70 k := fun k => by rw [f2 70 rfl, ev, ← m1 70 (by decide)]; rfl
    have a71 : ∀ k, s2 71 k = if k = c.toNat then nxtF s c.toNat else s 71 k := fun k => by rw [f2 71 rfl, ev, ← m1 71 (by decide), ← nx]; rfl
    have a73 : ∀ k, s2 73 k = if k = 3 then wr (s 73 3 + lapF s c.toNat (s 70 c.toNat) (s 71 c.toNat)) else if k = 0 then wr (s 73 0 + 1) else s 73 k := fun k => by rw [f2 73 rfl, ev, lapF_M m1, ← m1 73 (by decide), ← m1 70 (by decide), ← m1 71 (by decide)]; rfl
    have hc6 : c.toNat < 6 := by have := hI.folk.1.1; have := hc.1; omega
    refine ⟨fun k hk => ?_, fun p hp => by rw [r32, r72]; exact d2 p hp, ?_, ?_, ?_, ?_, ?_⟩
    · rw [a30, a31, a70, a71]
      have q := d1 k hk
      have q2 := d1 c.toNat hc6
      by_cases e : k = c.toNat
      · rw [if_pos e, if_pos e, if_pos e, if_pos e, q2.1]
        exact ⟨rfl, rfl⟩
      · rw [if_neg e, if_neg e, if_neg e, if_neg e]
        exact q
    · rw [a7, a73, if_neg (by decide), if_pos rfl, if_neg (by decide), if_pos rfl, d3]
    · rw [a7, a73, if_neg (by decide), if_neg (by decide), if_neg (by decide), if_neg (by decide), d4]
    · rw [a7, a73, if_neg (by decide), if_neg (by decide), if_neg (by decide), if_neg (by decide), d5]
    · rw [a7, a73, if_pos rfl, if_pos rfl, d6]
    · rw [a7, a73, if_neg (by decide), if_neg (by decide), if_neg (by decide), if_neg (by decide), d7]
  · have eu : uRun s s c = s := if_neg hc
    have ev : vRun s1 s1 c = s1 := if_neg (fun e => hc (ok.mp e))
    have k7 : s2 7 = s 7 := by rw [r7, f1 7 rfl, eu]
    have k30 : s2 30 = s 30 := by rw [r30, f1 30 rfl, eu]
    have k31 : s2 31 = s 31 := by rw [r31, f1 31 rfl, eu]
    have k70 : s2 70 = s 70 := by rw [f2 70 rfl, ev, m1 70 (by decide)]
    have k71 : s2 71 = s 71 := by rw [f2 71 rfl, ev, m1 71 (by decide)]
    have k73 : s2 73 = s 73 := by rw [f2 73 rfl, ev, m1 73 (by decide)]
    unfold zDed
    rw [k7, k30, k31, k70, k71, k73, r32, r72]
    exact ⟨d1, d2, d3, d4, d5, d6, d7⟩
theorem st_ask {p : Int} (hI : zInv s) (h : ∀ (ans : Int) s1, zAns x 253 [.inr (.inl 42), .inl p] (.inl ans) s1 → Q (some (.inl ans)) s1) : zE x 64 153 [.inr (.inl 0), .inl p] s Q := by
  refine zE_ok (fun hrg _ => ?_)
  have r73 : zR (s 73 4) := (hrg 73 4).2 rfl
  refine c_ask hI.folk hI.ded zFr.rf (h _ _ (fun Q2 k => ?_))
  have u1 : zFK [7, 32] [] s (uAsk s s p) := by
    unfold uAsk
    split
    · exact ((zFK.rf.U (by decide) rfl _ _).U (by decide) rfl _ _).U (by decide) rfl _ _
    · exact zFK.rf
  have m1 : ∀ q, 42 ≤ q → uAsk s s p q = s q := fun q hq => by
    unfold uAsk
    split
    · rw [zU_ne (by omega), zU_ne (by omega), zU_ne (by omega)]
    · rfl
  generalize hs1 : uAsk s s p = s1 at *
  have e2 : s1 2 = s 2 := u1.1 2 (by decide) rfl
  have n : askN s1 p.toNat = askN s p.toNat := by
    unfold askN
    rw [m1 70 (by decide), m1 47 (by decide)]
  have ow : owesF s1 p.toNat (askN s1 p.toNat) = owesF s p.toNat (askN s p.toNat) := by
    rw [n]
    unfold owesF plainF
    rw [m1 48 (by decide), m1 49 (by decide), m1 50 (by decide), m1 51 (by decide)]
  have av : askV s1 p.toNat = askV s p.toNat := by
    unfold askV paysF
    rw [ow, m1 52 (by decide), m1 72 (by decide)]
  have an : rAsk s1 p = rAsk s p := by
    unfold rAsk isSp
    rw [av, e2]
  refine e_ask (a := s1) (hI.folk.k u1 rfl rfl) zFr.rf ?_
  rw [an]
  refine k _ ?_
  have v1 : zFK [72, 73] [] s1 (vAsk s1 s1 p) := by
    unfold vAsk
    split
    · split
      · exact ((zFK.rf.U (by decide) rfl _ _).U (by decide) rfl _ _).U (by decide) rfl _ _
      · exact (zFK.rf.U (by decide) rfl _ _).U (by decide) rfl _ _
    · exact zFK.rf
  have F2 : zFK [7, 32, 72, 73] [] s (vAsk s1 s1 p) := (u1.le _ _ rfl rfl).tr (v1.le _ _ rfl rfl)
  refine ⟨hI.folk.k F2 rfl rfl, hI.law.k F2 rfl rfl, hI.shv.k F2 rfl rfl, hI.bod.k F2 rfl rfl, hI.trc.k F2 rfl rfl, ?_, hI.img.k F2 rfl rfl, hI.chg.k F2 rfl rfl, hI.tap.k F2 rfl rfl, hI.row.k F2 rfl⟩
  obtain ⟨d1, d2, d3, d4, d5, d6, d7⟩ := hI.ded
  have r7 : vAsk s1 s1 p 7 = s1 7 := v1.1 7 (by decide) rfl
  have r32 : vAsk s1 s1 p 32 = s1 32 := v1.1 32 (by decide) rfl
  have r30 : vAsk s1 s1 p 30 = s 30 := F2.1 30 (by decide) rfl
  have r31 : vAsk s1 s1 p 31 = s 31 := F2.1 31 (by decide) rfl
  have r70 : vAsk s1 s1 p 70 = s 70 := F2.1 70 (by decide) rfl
  have r71 : vAsk s1 s1 p 71 = s 71 := F2.1 71 (by decide) rfl
  by_cases hc : isSp s p
  · have eu : s1 = zU (zU (zU s 32 p.toNat (wr (s 32 p.toNat + askV s p.toNat))) 7 4 (wr (s 7 4 + askV s p.toNat))) 7 7 (wr (s 7 7 + (if s 52 p.toNat < owesF s p.toNat (askN s p.toNat) then 1 else 0))) := hs1.symm.trans (if_pos hc)
    have hc1 : isSp s1 p := by
      unfold isSp
      rw [e2]
      exact hc
    have hp16 : p.toNat < 16 := by have := hI.folk.1.2.1; omega
    have a7 : ∀ k, s1 7 k = if k = 7 then wr (s 7 7 + (if s 52 p.toNat < owesF s p.toNat (askN s p.toNat) then 1 else 0)) else if k = 4 then wr (s 7 4 + askV s p.toNat) else s 7 k := fun k => by rw [eu]; rfl
    have a32 : ∀ k, s1 32 k = if k = p.toNat then wr (s 32 p.toNat + askV s p.toNat) else s 32 k := fun k => by rw [eu]; rfl
    have a72 : ∀ k, vAsk s1 s1 p 72 k = if k = p.toNat then wr (s 72 p.toNat + askV s p.toNat) else s 72 k := fun k => by
      unfold vAsk
      rw [if_pos hc1, av, ← m1 72 (by decide)]
      split <;> rfl
    have a73 : ∀ k, k ≠ 1 → k ≠ 4 → vAsk s1 s1 p 73 k = s 73 k := fun k h1 h4 => by
      unfold vAsk
      rw [if_pos hc1, ← m1 73 (by decide)]
      split
      · show (if k = 4 then _ else if k = 1 then _ else s1 73 k) = _
        rw [if_neg h4, if_neg h1]
      · show (if k = 1 then _ else s1 73 k) = _
        rw [if_neg h1]
    have b1 : vAsk s1 s1 p 73 1 = wr (s 73 1 + askV s p.toNat) := by
      unfold vAsk
      rw [if_pos hc1, av, ← m1 73 (by decide)]
      split <;> rfl
    have b4 : vAsk s1 s1 p 73 4 = if s 52 p.toNat < owesF s p.toNat (askN s p.toNat) then wr (s 73 4 + 1) else s 73 4 := by
      unfold vAsk
      rw [if_pos hc1, ow, m1 52 (by decide), ← m1 73 (by decide)]
      split <;> rfl
    refine ⟨fun c hc => by rw [r30, r31, r70, r71]; exact d1 c hc, fun q hq => ?_, ?_, ?_, ?_, ?_, ?_⟩
    · rw [r32, a32, a72]
      by_cases e : q = p.toNat
      · rw [if_pos e, if_pos e, d2 _ hp16]
      · rw [if_neg e, if_neg e]
        exact d2 q hq
    · rw [r7, a7, a73 0 (by decide) (by decide), if_neg (by decide), if_neg (by decide), d3]
    · rw [r7, a7, b1, if_neg (by decide), if_pos rfl, d4]
    · rw [r7, a7, a73 2 (by decide) (by decide), if_neg (by decide), if_neg (by decide), d5]
    · rw [r7, a7, a73 3 (by decide) (by decide), if_neg (by decide), if_neg (by decide), d6]
    · rw [r7, a7, b4, if_pos rfl, d7]
      split
      · rfl
      · rw [Int.add_zero]
        exact wr_id r73
  · have eu : s1 = s := hs1.symm.trans (if_neg hc)
    have hc1 : ¬ isSp s1 p := by rw [eu]; exact hc
    have ev : vAsk s1 s1 p = s1 := if_neg hc1
    rw [ev, eu]
    exact hI.ded
end ZStepU
