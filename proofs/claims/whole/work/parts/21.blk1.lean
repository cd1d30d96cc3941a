-- laid by wip/whole/blk.py
-- 60a: PennyALap$Law.takeTape
set_option maxRecDepth 100000 in
theorem kb_60 : kBls.getD 60 [] = c60 := rfl
set_option maxRecDepth 100000 in
theorem B60a_0 {x : List Int} {d : Nat} {s : zSt} {Q : zQ}   (h : zE x d 61 [.inr (.inl 1)] s (fun r s1 => zJ x d 60 4 [some (.inr (.inl 1)), none, none] (zAp r []) s1 Q)) : zJ x d 60 0 [some (.inr (.inl 1)), none, none] [] s Q := zJ_of (b := b60_0) (by rw [kBlk, kb_60]; rfl) h
set_option maxRecDepth 100000 in
theorem B60a_4 {x : List Int} {d : Nat} {s : zSt} {Q : zQ} {y0 : Int}  (h : (0 ≤ y0 → zJ x d 60 40 [some (.inr (.inl 1)), some (.inl y0), none] [] (zU s 1 1 0) Q) ∧ (¬ (0 ≤ y0) → zJ x d 60 14 [some (.inr (.inl 1)), some (.inl y0), none] [] (zU s 1 1 0) Q)) : zJ x d 60 4 [some (.inr (.inl 1)), none, none] [.inl y0] s Q := zJ_of (b := b60_4) (by rw [kBlk, kb_60]; rfl) h
set_option maxRecDepth 100000 in
theorem B60a_14 {x : List Int} {d : Nat} {s : zSt} {Q : zQ} {x1 : Int} (h3 : (s 1 3).toNat = 12) (h5 : (s 1 5).toNat = 13) (h : zJ x d 60 40 [some (.inr (.inl 1)), some (.inl x1), some (.inr (.inl 12))] [] (zU (zU (zU s 1 3 13) 1 4 (s 1 6)) 1 5 12) Q) : zJ x d 60 14 [some (.inr (.inl 1)), some (.inl x1), none] [] s Q := zJ_of (b := b60_14) (by rw [kBlk, kb_60]; rfl) (Eq.mpr (congrArg (fun q : Nat => zX zSh (zRo x) (zE x d) (zJ x d 60) (b60_14.drop 2) [some (.inr (.inl 1)), some (.inl x1), none] (.inr (.inl q) :: []) s Q) (show (s 1 3).toNat = 12 from h3)) (show (fun q : Nat => zX zSh (zRo x) (zE x d) (zJ x d 60) (b60_14.drop 2) [some (.inr (.inl 1)), some (.inl x1), none] (.inr (.inl q) :: []) s Q) 12 from (Eq.mpr (congrArg (fun q : Nat => zX zSh (zRo x) (zE x d) (zJ x d 60) (b60_14.drop 6) [some (.inr (.inl 1)), some (.inl x1), some (.inr (.inl 12))] (.inr (.inl q) :: [.inr (.inl 1)]) s Q) (show (s 1 5).toNat = 13 from h5)) (show (fun q : Nat => zX zSh (zRo x) (zE x d) (zJ x d 60) (b60_14.drop 6) [some (.inr (.inl 1)), some (.inl x1), some (.inr (.inl 12))] (.inr (.inl q) :: [.inr (.inl 1)]) s Q) 13 from h))))
set_option maxRecDepth 100000 in
theorem B60a_40 {x : List Int} {d : Nat} {s : zSt} {Q : zQ} {x1 : Int} {o2 : Option zV}  (h : Q (some (.inl x1)) s) : zJ x d 60 40 [some (.inr (.inl 1)), some (.inl x1), o2] [] s Q := zJ_of (b := b60_40) (by rw [kBlk, kb_60]; rfl) h
set_option maxRecDepth 100000 in
theorem N60a {x : List Int} {d : Nat} {s : zSt} {Q : zQ}  (h : zJ x d 60 0 [some (.inr (.inl 1)), none, none] [] s Q) : zE x (d + 1) 60 [.inr (.inl 1)] s Q := zE_of (n := 3) rfl rfl rfl rfl (fun h => (zLok_some (h _ (List.mem_of_getElem? (i := 0) rfl)) (zLok_none (zLok_none zLok_nil)))) h
-- 60b: PennyALap$Law.takeTape
set_option maxRecDepth 100000 in
theorem B60b_0 {x : List Int} {d : Nat} {s : zSt} {Q : zQ}   (h : zE x d 61 [.inr (.inl 1)] s (fun r s1 => zJ x d 60 4 [some (.inr (.inl 1)), none, none] (zAp r []) s1 Q)) : zJ x d 60 0 [some (.inr (.inl 1)), none, none] [] s Q := zJ_of (b := b60_0) (by rw [kBlk, kb_60]; rfl) h
set_option maxRecDepth 100000 in
theorem B60b_4 {x : List Int} {d : Nat} {s : zSt} {Q : zQ} {y0 : Int}  (h : (0 ≤ y0 → zJ x d 60 40 [some (.inr (.inl 1)), some (.inl y0), none] [] (zU s 1 1 0) Q) ∧ (¬ (0 ≤ y0) → zJ x d 60 14 [some (.inr (.inl 1)), some (.inl y0), none] [] (zU s 1 1 0) Q)) : zJ x d 60 4 [some (.inr (.inl 1)), none, none] [.inl y0] s Q := zJ_of (b := b60_4) (by rw [kBlk, kb_60]; rfl) h
set_option maxRecDepth 100000 in
theorem B60b_14 {x : List Int} {d : Nat} {s : zSt} {Q : zQ} {x1 : Int} (h3 : (s 1 3).toNat = 13) (h5 : (s 1 5).toNat = 12) (h : zJ x d 60 40 [some (.inr (.inl 1)), some (.inl x1), some (.inr (.inl 13))] [] (zU (zU (zU s 1 3 12) 1 4 (s 1 6)) 1 5 13) Q) : zJ x d 60 14 [some (.inr (.inl 1)), some (.inl x1), none] [] s Q := zJ_of (b := b60_14) (by rw [kBlk, kb_60]; rfl) (Eq.mpr (congrArg (fun q : Nat => zX zSh (zRo x) (zE x d) (zJ x d 60) (b60_14.drop 2) [some (.inr (.inl 1)), some (.inl x1), none] (.inr (.inl q) :: []) s Q) (show (s 1 3).toNat = 13 from h3)) (show (fun q : Nat => zX zSh (zRo x) (zE x d) (zJ x d 60) (b60_14.drop 2) [some (.inr (.inl 1)), some (.inl x1), none] (.inr (.inl q) :: []) s Q) 13 from (Eq.mpr (congrArg (fun q : Nat => zX zSh (zRo x) (zE x d) (zJ x d 60) (b60_14.drop 6) [some (.inr (.inl 1)), some (.inl x1), some (.inr (.inl 13))] (.inr (.inl q) :: [.inr (.inl 1)]) s Q) (show (s 1 5).toNat = 12 from h5)) (show (fun q : Nat => zX zSh (zRo x) (zE x d) (zJ x d 60) (b60_14.drop 6) [some (.inr (.inl 1)), some (.inl x1), some (.inr (.inl 13))] (.inr (.inl q) :: [.inr (.inl 1)]) s Q) 12 from h))))
set_option maxRecDepth 100000 in
theorem B60b_40 {x : List Int} {d : Nat} {s : zSt} {Q : zQ} {x1 : Int} {o2 : Option zV}  (h : Q (some (.inl x1)) s) : zJ x d 60 40 [some (.inr (.inl 1)), some (.inl x1), o2] [] s Q := zJ_of (b := b60_40) (by rw [kBlk, kb_60]; rfl) h
set_option maxRecDepth 100000 in
theorem N60b {x : List Int} {d : Nat} {s : zSt} {Q : zQ}  (h : zJ x d 60 0 [some (.inr (.inl 1)), none, none] [] s Q) : zE x (d + 1) 60 [.inr (.inl 1)] s Q := zE_of (n := 3) rfl rfl rfl rfl (fun h => (zLok_some (h _ (List.mem_of_getElem? (i := 0) rfl)) (zLok_none (zLok_none zLok_nil)))) h
-- 61: PennyALap$Law.readLines
set_option maxRecDepth 100000 in
theorem kb_61 : kBls.getD 61 [] = c61 := rfl
set_option maxRecDepth 100000 in
theorem B61_0 {x : List Int} {d : Nat} {s : zSt} {Q : zQ}   (h : zJ x d 61 12 [some (.inr (.inl 1)), some (.inl 0)] [] (zU (zU s 1 2 0) 1 6 0) Q) : zJ x d 61 0 [some (.inr (.inl 1)), none] [] s Q := zJ_of (b := b61_0) (by rw [kBlk, kb_61]; rfl) h
set_option maxRecDepth 100000 in
theorem B61_12 {x : List Int} {d : Nat} {s : zSt} {Q : zQ} {x1 : Int}  (h : (120 < x1 → zJ x d 61 78 [some (.inr (.inl 1)), some (.inl x1)] [] s Q) ∧ (¬ (120 < x1) → zE x d 62 [.inr (.inl 1)] s (fun r s1 => zJ x d 61 22 [some (.inr (.inl 1)), some (.inl x1)] (zAp r []) s1 Q))) : zJ x d 61 12 [some (.inr (.inl 1)), some (.inl x1)] [] s Q := zJ_of (b := b61_12) (by rw [kBlk, kb_61]; rfl) h
set_option maxRecDepth 100000 in
theorem B61_22 {x : List Int} {d : Nat} {s : zSt} {Q : zQ} {x1 : Int} {y0 : Int}  (h : (¬ y0 = 0 → zJ x d 61 30 [some (.inr (.inl 1)), some (.inl x1)] [] s Q) ∧ (¬ (¬ y0 = 0) → Q (some (.inl (s 1 2))) s)) : zJ x d 61 22 [some (.inr (.inl 1)), some (.inl x1)] [.inl y0] s Q := zJ_of (b := b61_22) (by rw [kBlk, kb_61]; rfl) h
set_option maxRecDepth 100000 in
theorem B61_30 {x : List Int} {d : Nat} {s : zSt} {Q : zQ} {x1 : Int}  (h : (s 1 2 < s 1 1 → zJ x d 61 43 [some (.inr (.inl 1)), some (.inl x1)] [] s Q) ∧ (¬ (s 1 2 < s 1 1) → Q (some (.inl (-1))) s)) : zJ x d 61 30 [some (.inr (.inl 1)), some (.inl x1)] [] s Q := zJ_of (b := b61_30) (by rw [kBlk, kb_61]; rfl) h
set_option maxRecDepth 100000 in
theorem B61_43 {x : List Int} {d : Nat} {s : zSt} {Q : zQ} {x1 : Int}  (h : (0 : Int) ≤ s 1 2 ∧ (s 1 2 : Int) < 120 ∧ ((s 11 (s 1 2).toNat = 59 → zJ x d 61 62 [some (.inr (.inl 1)), some (.inl x1)] [] s Q) ∧ (¬ (s 11 (s 1 2).toNat = 59) → Q (some (.inl (s 1 2))) s))) : zJ x d 61 43 [some (.inr (.inl 1)), some (.inl x1)] [] s Q := zJ_of (b := b61_43) (by rw [kBlk, kb_61]; rfl) h
set_option maxRecDepth 100000 in
theorem B61_62 {x : List Int} {d : Nat} {s : zSt} {Q : zQ} {x1 : Int}  (h : zJ x d 61 12 [some (.inr (.inl 1)), some (.inl (wr (x1 + 1)))] [] (zU s 1 2 (wr ((s 1 2) + 1))) Q) : zJ x d 61 62 [some (.inr (.inl 1)), some (.inl x1)] [] s Q := zJ_of (b := b61_62) (by rw [kBlk, kb_61]; rfl) h
set_option maxRecDepth 100000 in
theorem B61_78 {x : List Int} {d : Nat} {s : zSt} {Q : zQ} {x1 : Int}  (h : Q (some (.inl (s 1 2))) s) : zJ x d 61 78 [some (.inr (.inl 1)), some (.inl x1)] [] s Q := zJ_of (b := b61_78) (by rw [kBlk, kb_61]; rfl) h
set_option maxRecDepth 100000 in
theorem N61 {x : List Int} {d : Nat} {s : zSt} {Q : zQ}  (h : zJ x d 61 0 [some (.inr (.inl 1)), none] [] s Q) : zE x (d + 1) 61 [.inr (.inl 1)] s Q := zE_of (n := 2) rfl rfl rfl rfl (fun h => (zLok_some (h _ (List.mem_of_getElem? (i := 0) rfl)) (zLok_none zLok_nil))) h
-- 62: PennyALap$Law.readLine
set_option maxRecDepth 100000 in
theorem kb_62 : kBls.getD 62 [] = c62 := rfl
set_option maxRecDepth 100000 in
theorem B62_0 {x : List Int} {d : Nat} {s : zSt} {Q : zQ}   (h : zE x d 63 [.inr (.inl 1), .inl 0, .inl 0] s (fun r s1 => zJ x d 62 6 [some (.inr (.inl 1))] (zAp r []) s1 Q)) : zJ x d 62 0 [some (.inr (.inl 1))] [] s Q := zJ_of (b := b62_0) (by rw [kBlk, kb_62]; rfl) h
set_option maxRecDepth 100000 in
theorem B62_6 {x : List Int} {d : Nat} {s : zSt} {Q : zQ} {y0 : Int}  (h : (¬ y0 = 0 → zJ x d 62 11 [some (.inr (.inl 1))] [] s Q) ∧ (¬ (¬ y0 = 0) → ((0 : Int) = 0 ∨ (0 : Int) = 1) ∧ Q (some (.inl 0)) s)) : zJ x d 62 6 [some (.inr (.inl 1))] [.inl y0] s Q := zJ_of (b := b62_6) (by rw [kBlk, kb_62]; rfl) h
set_option maxRecDepth 100000 in
theorem B62_11 {x : List Int} {d : Nat} {s : zSt} {Q : zQ}   (h : zE x d 67 [.inr (.inl 1)] s (fun r s1 => zJ x d 62 15 [some (.inr (.inl 1))] (zAp r []) s1 Q)) : zJ x d 62 11 [some (.inr (.inl 1))] [] s Q := zJ_of (b := b62_11) (by rw [kBlk, kb_62]; rfl) h
set_option maxRecDepth 100000 in
theorem B62_15 {x : List Int} {d : Nat} {s : zSt} {Q : zQ} {y0 : Int}  (h : (y0 = 63 → zJ x d 62 28 [some (.inr (.inl 1))] [] s Q) ∧ (¬ (y0 = 63) → zE x d 68 [.inr (.inl 1), .inl (-59)] s (fun r s1 => zJ x d 62 26 [some (.inr (.inl 1))] (zAp r []) s1 Q))) : zJ x d 62 15 [some (.inr (.inl 1))] [.inl y0] s Q := zJ_of (b := b62_15) (by rw [kBlk, kb_62]; rfl) h
set_option maxRecDepth 100000 in
theorem B62_26 {x : List Int} {d : Nat} {s : zSt} {Q : zQ}   (h : ((1 : Int) = 0 ∨ (1 : Int) = 1) ∧ Q (some (.inl 1)) s) : zJ x d 62 26 [some (.inr (.inl 1))] [] s Q := zJ_of (b := b62_26) (by rw [kBlk, kb_62]; rfl) h
set_option maxRecDepth 100000 in
theorem B62_28 {x : List Int} {d : Nat} {s : zSt} {Q : zQ}   (h : zE x d 63 [.inr (.inl 1), .inl 0, .inl 0] (zU s 1 2 (wr ((s 1 2) + 1))) (fun r s1 => zJ x d 62 44 [some (.inr (.inl 1))] (zAp r []) s1 Q)) : zJ x d 62 28 [some (.inr (.inl 1))] [] s Q := zJ_of (b := b62_28) (by rw [kBlk, kb_62]; rfl) h
set_option maxRecDepth 100000 in
theorem B62_44 {x : List Int} {d : Nat} {s : zSt} {Q : zQ} {y0 : Int}  (h : (¬ y0 = 0 → zJ x d 62 49 [some (.inr (.inl 1))] [] s Q) ∧ (¬ (¬ y0 = 0) → ((0 : Int) = 0 ∨ (0 : Int) = 1) ∧ Q (some (.inl 0)) s)) : zJ x d 62 44 [some (.inr (.inl 1))] [.inl y0] s Q := zJ_of (b := b62_44) (by rw [kBlk, kb_62]; rfl) h
set_option maxRecDepth 100000 in
theorem B62_49 {x : List Int} {d : Nat} {s : zSt} {Q : zQ}   (h : zE x d 68 [.inr (.inl 1), .inl (-63)] s (fun r s1 => zJ x d 62 55 [some (.inr (.inl 1))] (zAp r []) s1 Q)) : zJ x d 62 49 [some (.inr (.inl 1))] [] s Q := zJ_of (b := b62_49) (by rw [kBlk, kb_62]; rfl) h
set_option maxRecDepth 100000 in
theorem B62_55 {x : List Int} {d : Nat} {s : zSt} {Q : zQ}   (h : ((1 : Int) = 0 ∨ (1 : Int) = 1) ∧ Q (some (.inl 1)) s) : zJ x d 62 55 [some (.inr (.inl 1))] [] s Q := zJ_of (b := b62_55) (by rw [kBlk, kb_62]; rfl) h
set_option maxRecDepth 100000 in
theorem N62 {x : List Int} {d : Nat} {s : zSt} {Q : zQ}  (h : zJ x d 62 0 [some (.inr (.inl 1))] [] s Q) : zE x (d + 1) 62 [.inr (.inl 1)] s Q := zE_of (n := 1) rfl rfl rfl rfl (fun h => (zLok_some (h _ (List.mem_of_getElem? (i := 0) rfl)) zLok_nil)) h
-- 63: PennyALap$Law.readJoined
set_option maxRecDepth 100000 in
theorem kb_63 : kBls.getD 63 [] = c63 := rfl
set_option maxRecDepth 100000 in
theorem B63_0 {x : List Int} {d : Nat} {s : zSt} {Q : zQ} {x1 : Int} {x2 : Int}  (h : (x1 < 5 → zJ x d 63 11 [some (.inr (.inl 1)), some (.inl x1), some (.inl x2), none, none, none] [] s Q) ∧ (¬ (x1 < 5) → zE x d 64 [.inr (.inl 1), .inl x2] s (fun r s1 => zJ x d 63 10 [some (.inr (.inl 1)), some (.inl x1), some (.inl x2), none, none, none] (zAp r []) s1 Q))) : zJ x d 63 0 [some (.inr (.inl 1)), some (.inl x1), some (.inl x2), none, none, none] [] s Q := zJ_of (b := b63_0) (by rw [kBlk, kb_63]; rfl) h
set_option maxRecDepth 100000 in
theorem B63_10 {x : List Int} {d : Nat} {s : zSt} {Q : zQ} {x1 : Int} {x2 : Int} {y0 : Int}  (h : ((y0 : Int) = 0 ∨ (y0 : Int) = 1) ∧ Q (some (.inl y0)) s) : zJ x d 63 10 [some (.inr (.inl 1)), some (.inl x1), some (.inl x2), none, none, none] [.inl y0] s Q := zJ_of (b := b63_10) (by rw [kBlk, kb_63]; rfl) h
set_option maxRecDepth 100000 in
theorem B63_11 {x : List Int} {d : Nat} {s : zSt} {Q : zQ} {x1 : Int} {x2 : Int}  (h : zE x d 63 [.inr (.inl 1), .inl (wr (x1 + 1)), .inl x2] s (fun r s1 => zJ x d 63 19 [some (.inr (.inl 1)), some (.inl x1), some (.inl x2), none, none, none] (zAp r []) s1 Q)) : zJ x d 63 11 [some (.inr (.inl 1)), some (.inl x1), some (.inl x2), none, none, none] [] s Q := zJ_of (b := b63_11) (by rw [kBlk, kb_63]; rfl) h
set_option maxRecDepth 100000 in
theorem B63_19 {x : List Int} {d : Nat} {s : zSt} {Q : zQ} {x1 : Int} {x2 : Int} {y0 : Int}  (h : (¬ y0 = 0 → zJ x d 63 24 [some (.inr (.inl 1)), some (.inl x1), some (.inl x2), none, none, none] [] s Q) ∧ (¬ (¬ y0 = 0) → ((0 : Int) = 0 ∨ (0 : Int) = 1) ∧ Q (some (.inl 0)) s)) : zJ x d 63 19 [some (.inr (.inl 1)), some (.inl x1), some (.inl x2), none, none, none] [.inl y0] s Q := zJ_of (b := b63_19) (by rw [kBlk, kb_63]; rfl) h
set_option maxRecDepth 100000 in
theorem B63_24 {x : List Int} {d : Nat} {s : zSt} {Q : zQ} {x1 : Int} {x2 : Int}  (h : (¬ x1 = 2 → zJ x d 63 33 [some (.inr (.inl 1)), some (.inl x1), some (.inl x2), none, none, none] [] s Q) ∧ (¬ (¬ x1 = 2) → zJ x d 63 35 [some (.inr (.inl 1)), some (.inl x1), some (.inl x2), none, none, none] [.inl 1] s Q)) : zJ x d 63 24 [some (.inr (.inl 1)), some (.inl x1), some (.inl x2), none, none, none] [] s Q := zJ_of (b := b63_24) (by rw [kBlk, kb_63]; rfl) h
set_option maxRecDepth 100000 in
theorem B63_33 {x : List Int} {d : Nat} {s : zSt} {Q : zQ} {x1 : Int} {x2 : Int}  (h : zJ x d 63 35 [some (.inr (.inl 1)), some (.inl x1), some (.inl x2), none, none, none] [.inl 120] s Q) : zJ x d 63 33 [some (.inr (.inl 1)), some (.inl x1), some (.inl x2), none, none, none] [] s Q := zJ_of (b := b63_33) (by rw [kBlk, kb_63]; rfl) h
set_option maxRecDepth 100000 in
theorem B63_35 {x : List Int} {d : Nat} {s : zSt} {Q : zQ} {x1 : Int} {x2 : Int} {y0 : Int}  (h : zJ x d 63 39 [some (.inr (.inl 1)), some (.inl x1), some (.inl x2), some (.inl y0), some (.inl 0), none] [] s Q) : zJ x d 63 35 [some (.inr (.inl 1)), some (.inl x1), some (.inl x2), none, none, none] [.inl y0] s Q := zJ_of (b := b63_35) (by rw [kBlk, kb_63]; rfl) h
set_option maxRecDepth 100000 in
theorem B63_39 {x : List Int} {d : Nat} {s : zSt} {Q : zQ} {x1 : Int} {x2 : Int} {x3 : Int} {x4 : Int} {o5 : Option zV}  (h : (x3 ≤ x4 → zJ x d 63 98 [some (.inr (.inl 1)), some (.inl x1), some (.inl x2), some (.inl x3), some (.inl x4), o5] [] s Q) ∧ (¬ (x3 ≤ x4) → zE x d 67 [.inr (.inl 1)] s (fun r s1 => zJ x d 63 49 [some (.inr (.inl 1)), some (.inl x1), some (.inl x2), some (.inl x3), some (.inl x4), o5] (zAp r []) s1 Q))) : zJ x d 63 39 [some (.inr (.inl 1)), some (.inl x1), some (.inl x2), some (.inl x3), some (.inl x4), o5] [] s Q := zJ_of (b := b63_39) (by rw [kBlk, kb_63]; rfl) h
set_option maxRecDepth 100000 in
theorem B63_49 {x : List Int} {d : Nat} {s : zSt} {Q : zQ} {x1 : Int} {x2 : Int} {x3 : Int} {x4 : Int} {o5 : Option zV} {y0 : Int}  (h : zE x d 71 [.inl y0] s (fun r s1 => zJ x d 63 52 [some (.inr (.inl 1)), some (.inl x1), some (.inl x2), some (.inl x3), some (.inl x4), o5] (zAp r []) s1 Q)) : zJ x d 63 49 [some (.inr (.inl 1)), some (.inl x1), some (.inl x2), some (.inl x3), some (.inl x4), o5] [.inl y0] s Q := zJ_of (b := b63_49) (by rw [kBlk, kb_63]; rfl) h
set_option maxRecDepth 100000 in
theorem B63_52 {x : List Int} {d : Nat} {s : zSt} {Q : zQ} {x1 : Int} {x2 : Int} {x3 : Int} {x4 : Int} {o5 : Option zV} {y0 : Int}  (h : (¬ y0 = x1 → zJ x d 63 98 [some (.inr (.inl 1)), some (.inl x1), some (.inl x2), some (.inl x3), some (.inl x4), o5] [] s Q) ∧ (¬ (¬ y0 = x1) → zE x d 67 [.inr (.inl 1)] s (fun r s1 => zJ x d 63 60 [some (.inr (.inl 1)), some (.inl x1), some (.inl x2), some (.inl x3), some (.inl x4), o5] (zAp r []) s1 Q))) : zJ x d 63 52 [some (.inr (.inl 1)), some (.inl x1), some (.inl x2), some (.inl x3), some (.inl x4), o5] [.inl y0] s Q := zJ_of (b := b63_52) (by rw [kBlk, kb_63]; rfl) h
set_option maxRecDepth 100000 in
theorem B63_60 {x : List Int} {d : Nat} {s : zSt} {Q : zQ} {x1 : Int} {x2 : Int} {x3 : Int} {x4 : Int} {o5 : Option zV} {y0 : Int}  (h : zE x d 63 [.inr (.inl 1), .inl (wr (x1 + 1)), .inl x2] (zU s 1 2 (wr ((s 1 2) + 1))) (fun r s1 => zJ x d 63 80 [some (.inr (.inl 1)), some (.inl x1), some (.inl x2), some (.inl x3), some (.inl x4), some (.inl y0)] (zAp r []) s1 Q)) : zJ x d 63 60 [some (.inr (.inl 1)), some (.inl x1), some (.inl x2), some (.inl x3), some (.inl x4), o5] [.inl y0] s Q := zJ_of (b := b63_60) (by rw [kBlk, kb_63]; rfl) h
set_option maxRecDepth 100000 in
theorem B63_80 {x : List Int} {d : Nat} {s : zSt} {Q : zQ} {x1 : Int} {x2 : Int} {x3 : Int} {x4 : Int} {x5 : Int} {y0 : Int}  (h : (¬ y0 = 0 → zJ x d 63 85 [some (.inr (.inl 1)), some (.inl x1), some (.inl x2), some (.inl x3), some (.inl x4), some (.inl x5)] [] s Q) ∧ (¬ (¬ y0 = 0) → ((0 : Int) = 0 ∨ (0 : Int) = 1) ∧ Q (some (.inl 0)) s)) : zJ x d 63 80 [some (.inr (.inl 1)), some (.inl x1), some (.inl x2), some (.inl x3), some (.inl x4), some (.inl x5)] [.inl y0] s Q := zJ_of (b := b63_80) (by rw [kBlk, kb_63]; rfl) h
set_option maxRecDepth 100000 in
theorem B63_85 {x : List Int} {d : Nat} {s : zSt} {Q : zQ} {x1 : Int} {x2 : Int} {x3 : Int} {x4 : Int} {x5 : Int}  (h : zE x d 68 [.inr (.inl 1), .inl (wr (-x5))] s (fun r s1 => zJ x d 63 92 [some (.inr (.inl 1)), some (.inl x1), some (.inl x2), some (.inl x3), some (.inl x4), some (.inl x5)] (zAp r []) s1 Q)) : zJ x d 63 85 [some (.inr (.inl 1)), some (.inl x1), some (.inl x2), some (.inl x3), some (.inl x4), some (.inl x5)] [] s Q := zJ_of (b := b63_85) (by rw [kBlk, kb_63]; rfl) h
set_option maxRecDepth 100000 in
theorem B63_92 {x : List Int} {d : Nat} {s : zSt} {Q : zQ} {x1 : Int} {x2 : Int} {x3 : Int} {x4 : Int} {x5 : Int}  (h : zJ x d 63 39 [some (.inr (.inl 1)), some (.inl x1), some (.inl x2), some (.inl x3), some (.inl (wr (x4 + 1))), some (.inl x5)] [] s Q) : zJ x d 63 92 [some (.inr (.inl 1)), some (.inl x1), some (.inl x2), some (.inl x3), some (.inl x4), some (.inl x5)] [] s Q := zJ_of (b := b63_92) (by rw [kBlk, kb_63]; rfl) h
set_option maxRecDepth 100000 in
theorem B63_98 {x : List Int} {d : Nat} {s : zSt} {Q : zQ} {x1 : Int} {x2 : Int} {x3 : Int} {x4 : Int} {o5 : Option zV}  (h : ((1 : Int) = 0 ∨ (1 : Int) = 1) ∧ Q (some (.inl 1)) s) : zJ x d 63 98 [some (.inr (.inl 1)), some (.inl x1), some (.inl x2), some (.inl x3), some (.inl x4), o5] [] s Q := zJ_of (b := b63_98) (by rw [kBlk, kb_63]; rfl) h
set_option maxRecDepth 100000 in
theorem N63 {x : List Int} {d : Nat} {s : zSt} {Q : zQ} {x1 : Int} {x2 : Int} (h : zJ x d 63 0 [some (.inr (.inl 1)), some (.inl x1), some (.inl x2), none, none, none] [] s Q) : zE x (d + 1) 63 [.inr (.inl 1), .inl x1, .inl x2] s Q := zE_of (n := 6) rfl rfl rfl rfl (fun h => (zLok_some (h _ (List.mem_of_getElem? (i := 0) rfl)) (zLok_some (h _ (List.mem_of_getElem? (i := 1) rfl)) (zLok_some (h _ (List.mem_of_getElem? (i := 2) rfl)) (zLok_none (zLok_none (zLok_none zLok_nil))))))) h
-- 64: PennyALap$Law.readOperand
set_option maxRecDepth 100000 in
theorem kb_64 : kBls.getD 64 [] = c64 := rfl
set_option maxRecDepth 100000 in
theorem B64_0 {x : List Int} {d : Nat} {s : zSt} {Q : zQ} {x1 : Int}  (h : zE x d 67 [.inr (.inl 1)] s (fun r s1 => zJ x d 64 4 [some (.inr (.inl 1)), some (.inl x1), none, none] (zAp r []) s1 Q)) : zJ x d 64 0 [some (.inr (.inl 1)), some (.inl x1), none, none] [] s Q := zJ_of (b := b64_0) (by rw [kBlk, kb_64]; rfl) h
set_option maxRecDepth 100000 in
theorem B64_4 {x : List Int} {d : Nat} {s : zSt} {Q : zQ} {x1 : Int} {y0 : Int}  (h : zE x d 69 [.inl y0] s (fun r s1 => zJ x d 64 9 [some (.inr (.inl 1)), some (.inl x1), some (.inl y0), none] (zAp r []) s1 Q)) : zJ x d 64 4 [some (.inr (.inl 1)), some (.inl x1), none, none] [.inl y0] s Q := zJ_of (b := b64_4) (by rw [kBlk, kb_64]; rfl) h
set_option maxRecDepth 100000 in
theorem B64_9 {x : List Int} {d : Nat} {s : zSt} {Q : zQ} {x1 : Int} {x2 : Int} {y0 : Int}  (h : (y0 = 0 → zJ x d 64 18 [some (.inr (.inl 1)), some (.inl x1), some (.inl x2), none] [] s Q) ∧ (¬ (y0 = 0) → zE x d 66 [.inr (.inl 1)] s (fun r s1 => zJ x d 64 16 [some (.inr (.inl 1)), some (.inl x1), some (.inl x2), none] (zAp r []) s1 Q))) : zJ x d 64 9 [some (.inr (.inl 1)), some (.inl x1), some (.inl x2), none] [.inl y0] s Q := zJ_of (b := b64_9) (by rw [kBlk, kb_64]; rfl) h
set_option maxRecDepth 100000 in
theorem B64_16 {x : List Int} {d : Nat} {s : zSt} {Q : zQ} {x1 : Int} {x2 : Int}  (h : ((1 : Int) = 0 ∨ (1 : Int) = 1) ∧ Q (some (.inl 1)) s) : zJ x d 64 16 [some (.inr (.inl 1)), some (.inl x1), some (.inl x2), none] [] s Q := zJ_of (b := b64_16) (by rw [kBlk, kb_64]; rfl) h
set_option maxRecDepth 100000 in
theorem B64_18 {x : List Int} {d : Nat} {s : zSt} {Q : zQ} {x1 : Int} {x2 : Int}  (h : zE x d 70 [.inl x2] s (fun r s1 => zJ x d 64 22 [some (.inr (.inl 1)), some (.inl x1), some (.inl x2), none] (zAp r []) s1 Q)) : zJ x d 64 18 [some (.inr (.inl 1)), some (.inl x1), some (.inl x2), none] [] s Q := zJ_of (b := b64_18) (by rw [kBlk, kb_64]; rfl) h
set_option maxRecDepth 100000 in
theorem B64_22 {x : List Int} {d : Nat} {s : zSt} {Q : zQ} {x1 : Int} {x2 : Int} {y0 : Int}  (h : (y0 < 0 → zJ x d 64 46 [some (.inr (.inl 1)), some (.inl x1), some (.inl x2), some (.inl y0)] [] s Q) ∧ (¬ (y0 < 0) → zE x d 68 [.inr (.inl 1), .inl (wr ((-1) - y0))] (zU s 1 2 (wr ((s 1 2) + 1))) (fun r s1 => zJ x d 64 44 [some (.inr (.inl 1)), some (.inl x1), some (.inl x2), some (.inl y0)] (zAp r []) s1 Q))) : zJ x d 64 22 [some (.inr (.inl 1)), some (.inl x1), some (.inl x2), none] [.inl y0] s Q := zJ_of (b := b64_22) (by rw [kBlk, kb_64]; rfl) h
set_option maxRecDepth 100000 in
theorem B64_44 {x : List Int} {d : Nat} {s : zSt} {Q : zQ} {x1 : Int} {x2 : Int} {x3 : Int}  (h : ((1 : Int) = 0 ∨ (1 : Int) = 1) ∧ Q (some (.inl 1)) s) : zJ x d 64 44 [some (.inr (.inl 1)), some (.inl x1), some (.inl x2), some (.inl x3)] [] s Q := zJ_of (b := b64_44) (by rw [kBlk, kb_64]; rfl) h
set_option maxRecDepth 100000 in
theorem B64_46 {x : List Int} {d : Nat} {s : zSt} {Q : zQ} {x1 : Int} {x2 : Int} {x3 : Int}  (h : (x2 = 40 → zJ x d 64 64 [some (.inr (.inl 1)), some (.inl x1), some (.inl x2), some (.inl x3)] [] s Q) ∧ (¬ (x2 = 40) → (x2 = 33 → zJ x d 64 64 [some (.inr (.inl 1)), some (.inl x1), some (.inl x2), some (.inl x3)] [] s Q) ∧ (¬ (x2 = 33) → (¬ x2 = 45 → zJ x d 64 70 [some (.inr (.inl 1)), some (.inl x1), some (.inl x2), some (.inl x3)] [] s Q) ∧ (¬ (¬ x2 = 45) → zJ x d 64 64 [some (.inr (.inl 1)), some (.inl x1), some (.inl x2), some (.inl x3)] [] s Q)))) : zJ x d 64 46 [some (.inr (.inl 1)), some (.inl x1), some (.inl x2), some (.inl x3)] [] s Q := zJ_of (b := b64_46) (by rw [kBlk, kb_64]; rfl) h
set_option maxRecDepth 100000 in
theorem B64_64 {x : List Int} {d : Nat} {s : zSt} {Q : zQ} {x1 : Int} {x2 : Int} {x3 : Int}  (h : (x1 < 6 → zJ x d 64 72 [some (.inr (.inl 1)), some (.inl x1), some (.inl x2), some (.inl x3)] [] s Q) ∧ (¬ (x1 < 6) → zJ x d 64 70 [some (.inr (.inl 1)), some (.inl x1), some (.inl x2), some (.inl x3)] [] s Q)) : zJ x d 64 64 [some (.inr (.inl 1)), some (.inl x1), some (.inl x2), some (.inl x3)] [] s Q := zJ_of (b := b64_64) (by rw [kBlk, kb_64]; rfl) h
set_option maxRecDepth 100000 in
theorem B64_70 {x : List Int} {d : Nat} {s : zSt} {Q : zQ} {x1 : Int} {x2 : Int} {x3 : Int}  (h : ((0 : Int) = 0 ∨ (0 : Int) = 1) ∧ Q (some (.inl 0)) s) : zJ x d 64 70 [some (.inr (.inl 1)), some (.inl x1), some (.inl x2), some (.inl x3)] [] s Q := zJ_of (b := b64_70) (by rw [kBlk, kb_64]; rfl) h
set_option maxRecDepth 100000 in
theorem B64_72 {x : List Int} {d : Nat} {s : zSt} {Q : zQ} {x1 : Int} {x2 : Int} {x3 : Int}  (h : (¬ x2 = 40 → zJ x d 64 112 [some (.inr (.inl 1)), some (.inl x1), some (.inl x2), some (.inl x3)] [] (zU s 1 2 (wr ((s 1 2) + 1))) Q) ∧ (¬ (¬ x2 = 40) → zE x d 63 [.inr (.inl 1), .inl 0, .inl (wr (x1 + 1))] (zU s 1 2 (wr ((s 1 2) + 1))) (fun r s1 => zJ x d 64 96 [some (.inr (.inl 1)), some (.inl x1), some (.inl x2), some (.inl x3)] (zAp r []) s1 Q))) : zJ x d 64 72 [some (.inr (.inl 1)), some (.inl x1), some (.inl x2), some (.inl x3)] [] s Q := zJ_of (b := b64_72) (by rw [kBlk, kb_64]; rfl) h
set_option maxRecDepth 100000 in
theorem B64_96 {x : List Int} {d : Nat} {s : zSt} {Q : zQ} {x1 : Int} {x2 : Int} {x3 : Int} {y0 : Int}  (h : (y0 = 0 → zJ x d 64 110 [some (.inr (.inl 1)), some (.inl x1), some (.inl x2), some (.inl x3)] [] s Q) ∧ (¬ (y0 = 0) → zE x d 65 [.inr (.inl 1)] s (fun r s1 => zJ x d 64 103 [some (.inr (.inl 1)), some (.inl x1), some (.inl x2), some (.inl x3)] (zAp r []) s1 Q))) : zJ x d 64 96 [some (.inr (.inl 1)), some (.inl x1), some (.inl x2), some (.inl x3)] [.inl y0] s Q := zJ_of (b := b64_96) (by rw [kBlk, kb_64]; rfl) h
set_option maxRecDepth 100000 in
theorem B64_103 {x : List Int} {d : Nat} {s : zSt} {Q : zQ} {x1 : Int} {x2 : Int} {x3 : Int} {y0 : Int}  (h : (y0 = 0 → zJ x d 64 110 [some (.inr (.inl 1)), some (.inl x1), some (.inl x2), some (.inl x3)] [] s Q) ∧ (¬ (y0 = 0) → zJ x d 64 111 [some (.inr (.inl 1)), some (.inl x1), some (.inl x2), some (.inl x3)] [.inl 1] s Q)) : zJ x d 64 103 [some (.inr (.inl 1)), some (.inl x1), some (.inl x2), some (.inl x3)] [.inl y0] s Q := zJ_of (b := b64_103) (by rw [kBlk, kb_64]; rfl) h
set_option maxRecDepth 100000 in
theorem B64_110 {x : List Int} {d : Nat} {s : zSt} {Q : zQ} {x1 : Int} {x2 : Int} {x3 : Int}  (h : zJ x d 64 111 [some (.inr (.inl 1)), some (.inl x1), some (.inl x2), some (.inl x3)] [.inl 0] s Q) : zJ x d 64 110 [some (.inr (.inl 1)), some (.inl x1), some (.inl x2), some (.inl x3)] [] s Q := zJ_of (b := b64_110) (by rw [kBlk, kb_64]; rfl) h
set_option maxRecDepth 100000 in
theorem B64_111 {x : List Int} {d : Nat} {s : zSt} {Q : zQ} {x1 : Int} {x2 : Int} {x3 : Int} {y0 : Int}  (h : ((y0 : Int) = 0 ∨ (y0 : Int) = 1) ∧ Q (some (.inl y0)) s) : zJ x d 64 111 [some (.inr (.inl 1)), some (.inl x1), some (.inl x2), some (.inl x3)] [.inl y0] s Q := zJ_of (b := b64_111) (by rw [kBlk, kb_64]; rfl) h
set_option maxRecDepth 100000 in
theorem B64_112 {x : List Int} {d : Nat} {s : zSt} {Q : zQ} {x1 : Int} {x2 : Int} {x3 : Int}  (h : zE x d 64 [.inr (.inl 1), .inl (wr (x1 + 1))] s (fun r s1 => zJ x d 64 119 [some (.inr (.inl 1)), some (.inl x1), some (.inl x2), some (.inl x3)] (zAp r []) s1 Q)) : zJ x d 64 112 [some (.inr (.inl 1)), some (.inl x1), some (.inl x2), some (.inl x3)] [] s Q := zJ_of (b := b64_112) (by rw [kBlk, kb_64]; rfl) h
set_option maxRecDepth 100000 in
theorem B64_119 {x : List Int} {d : Nat} {s : zSt} {Q : zQ} {x1 : Int} {x2 : Int} {x3 : Int} {y0 : Int}  (h : (¬ y0 = 0 → zJ x d 64 124 [some (.inr (.inl 1)), some (.inl x1), some (.inl x2), some (.inl x3)] [] s Q) ∧ (¬ (¬ y0 = 0) → ((0 : Int) = 0 ∨ (0 : Int) = 1) ∧ Q (some (.inl 0)) s)) : zJ x d 64 119 [some (.inr (.inl 1)), some (.inl x1), some (.inl x2), some (.inl x3)] [.inl y0] s Q := zJ_of (b := b64_119) (by rw [kBlk, kb_64]; rfl) h
set_option maxRecDepth 100000 in
theorem B64_124 {x : List Int} {d : Nat} {s : zSt} {Q : zQ} {x1 : Int} {x2 : Int} {x3 : Int}  (h : (¬ x2 = 33 → zJ x d 64 136 [some (.inr (.inl 1)), some (.inl x1), some (.inl x2), some (.inl x3)] [.inr (.inl 1)] s Q) ∧ (¬ (¬ x2 = 33) → zJ x d 64 138 [some (.inr (.inl 1)), some (.inl x1), some (.inl x2), some (.inl x3)] [.inl (-33), .inr (.inl 1)] s Q)) : zJ x d 64 124 [some (.inr (.inl 1)), some (.inl x1), some (.inl x2), some (.inl x3)] [] s Q := zJ_of (b := b64_124) (by rw [kBlk, kb_64]; rfl) h
set_option maxRecDepth 100000 in
theorem B64_136 {x : List Int} {d : Nat} {s : zSt} {Q : zQ} {x1 : Int} {x2 : Int} {x3 : Int}  (h : zJ x d 64 138 [some (.inr (.inl 1)), some (.inl x1), some (.inl x2), some (.inl x3)] [.inl (-110), .inr (.inl 1)] s Q) : zJ x d 64 136 [some (.inr (.inl 1)), some (.inl x1), some (.inl x2), some (.inl x3)] [.inr (.inl 1)] s Q := zJ_of (b := b64_136) (by rw [kBlk, kb_64]; rfl) h
set_option maxRecDepth 100000 in
theorem B64_138 {x : List Int} {d : Nat} {s : zSt} {Q : zQ} {x1 : Int} {x2 : Int} {x3 : Int} {y0 : Int}  (h : zE x d 68 [.inr (.inl 1), .inl y0] s (fun r s1 => zJ x d 64 141 [some (.inr (.inl 1)), some (.inl x1), some (.inl x2), some (.inl x3)] (zAp r []) s1 Q)) : zJ x d 64 138 [some (.inr (.inl 1)), some (.inl x1), some (.inl x2), some (.inl x3)] [.inl y0, .inr (.inl 1)] s Q := zJ_of (b := b64_138) (by rw [kBlk, kb_64]; rfl) h
set_option maxRecDepth 100000 in
theorem B64_141 {x : List Int} {d : Nat} {s : zSt} {Q : zQ} {x1 : Int} {x2 : Int} {x3 : Int}  (h : ((1 : Int) = 0 ∨ (1 : Int) = 1) ∧ Q (some (.inl 1)) s) : zJ x d 64 141 [some (.inr (.inl 1)), some (.inl x1), some (.inl x2), some (.inl x3)] [] s Q := zJ_of (b := b64_141) (by rw [kBlk, kb_64]; rfl) h
set_option maxRecDepth 100000 in
theorem N64 {x : List Int} {d : Nat} {s : zSt} {Q : zQ} {x1 : Int} (h : zJ x d 64 0 [some (.inr (.inl 1)), some (.inl x1), none, none] [] s Q) : zE x (d + 1) 64 [.inr (.inl 1), .inl x1] s Q := zE_of (n := 4) rfl rfl rfl rfl (fun h => (zLok_some (h _ (List.mem_of_getElem? (i := 0) rfl)) (zLok_some (h _ (List.mem_of_getElem? (i := 1) rfl)) (zLok_none (zLok_none zLok_nil))))) h
-- 65: PennyALap$Law.readClosing
set_option maxRecDepth 100000 in
theorem kb_65 : kBls.getD 65 [] = c65 := rfl
set_option maxRecDepth 100000 in
theorem B65_0 {x : List Int} {d : Nat} {s : zSt} {Q : zQ}   (h : zE x d 67 [.inr (.inl 1)] s (fun r s1 => zJ x d 65 4 [some (.inr (.inl 1)), none] (zAp r []) s1 Q)) : zJ x d 65 0 [some (.inr (.inl 1)), none] [] s Q := zJ_of (b := b65_0) (by rw [kBlk, kb_65]; rfl) h
set_option maxRecDepth 100000 in
theorem B65_4 {x : List Int} {d : Nat} {s : zSt} {Q : zQ} {y0 : Int}  (h : (¬ y0 = 41 → zJ x d 65 13 [some (.inr (.inl 1)), none] [] s Q) ∧ (¬ (¬ y0 = 41) → zJ x d 65 14 [some (.inr (.inl 1)), none] [.inl 1] s Q)) : zJ x d 65 4 [some (.inr (.inl 1)), none] [.inl y0] s Q := zJ_of (b := b65_4) (by rw [kBlk, kb_65]; rfl) h
set_option maxRecDepth 100000 in
theorem B65_13 {x : List Int} {d : Nat} {s : zSt} {Q : zQ}   (h : zJ x d 65 14 [some (.inr (.inl 1)), none] [.inl 0] s Q) : zJ x d 65 13 [some (.inr (.inl 1)), none] [] s Q := zJ_of (b := b65_13) (by rw [kBlk, kb_65]; rfl) h
set_option maxRecDepth 100000 in
theorem B65_14 {x : List Int} {d : Nat} {s : zSt} {Q : zQ} {y0 : Int}  (h : (y0 = 0 → zJ x d 65 28 [some (.inr (.inl 1)), some (.inl y0)] [.inl (s 1 2), .inr (.inl 1)] s Q) ∧ (¬ (y0 = 0) → zJ x d 65 29 [some (.inr (.inl 1)), some (.inl y0)] [.inl 1, .inl (s 1 2), .inr (.inl 1)] s Q)) : zJ x d 65 14 [some (.inr (.inl 1)), none] [.inl y0] s Q := zJ_of (b := b65_14) (by rw [kBlk, kb_65]; rfl) h
set_option maxRecDepth 100000 in
theorem B65_28 {x : List Int} {d : Nat} {s : zSt} {Q : zQ} {x1 : Int} {y0 : Int}  (h : zJ x d 65 29 [some (.inr (.inl 1)), some (.inl x1)] [.inl 0, .inl y0, .inr (.inl 1)] s Q) : zJ x d 65 28 [some (.inr (.inl 1)), some (.inl x1)] [.inl y0, .inr (.inl 1)] s Q := zJ_of (b := b65_28) (by rw [kBlk, kb_65]; rfl) h
set_option maxRecDepth 100000 in
theorem B65_29 {x : List Int} {d : Nat} {s : zSt} {Q : zQ} {x1 : Int} {y0 : Int} {y1 : Int}  (h : ((x1 : Int) = 0 ∨ (x1 : Int) = 1) ∧ Q (some (.inl x1)) (zU s 1 2 (wr (y1 + y0)))) : zJ x d 65 29 [some (.inr (.inl 1)), some (.inl x1)] [.inl y0, .inl y1, .inr (.inl 1)] s Q := zJ_of (b := b65_29) (by rw [kBlk, kb_65]; rfl) h
set_option maxRecDepth 100000 in
theorem N65 {x : List Int} {d : Nat} {s : zSt} {Q : zQ}  (h : zJ x d 65 0 [some (.inr (.inl 1)), none] [] s Q) : zE x (d + 1) 65 [.inr (.inl 1)] s Q := zE_of (n := 2) rfl rfl rfl rfl (fun h => (zLok_some (h _ (List.mem_of_getElem? (i := 0) rfl)) (zLok_none zLok_nil))) h
-- 66: PennyALap$Law.readNumber
set_option maxRecDepth 100000 in
theorem kb_66 : kBls.getD 66 [] = c66 := rfl
set_option maxRecDepth 100000 in
theorem B66_0 {x : List Int} {d : Nat} {s : zSt} {Q : zQ}   (h : zJ x d 66 4 [some (.inr (.inl 1)), some (.inl 0), some (.inl 0)] [] s Q) : zJ x d 66 0 [some (.inr (.inl 1)), none, none] [] s Q := zJ_of (b := b66_0) (by rw [kBlk, kb_66]; rfl) h
set_option maxRecDepth 100000 in
theorem B66_4 {x : List Int} {d : Nat} {s : zSt} {Q : zQ} {x1 : Int} {x2 : Int}  (h : (4 ≤ x2 → zJ x d 66 48 [some (.inr (.inl 1)), some (.inl x1), some (.inl x2)] [] s Q) ∧ (¬ (4 ≤ x2) → zE x d 67 [.inr (.inl 1)] s (fun r s1 => zJ x d 66 13 [some (.inr (.inl 1)), some (.inl x1), some (.inl x2)] (zAp r []) s1 Q))) : zJ x d 66 4 [some (.inr (.inl 1)), some (.inl x1), some (.inl x2)] [] s Q := zJ_of (b := b66_4) (by rw [kBlk, kb_66]; rfl) h
set_option maxRecDepth 100000 in
theorem B66_13 {x : List Int} {d : Nat} {s : zSt} {Q : zQ} {x1 : Int} {x2 : Int} {y0 : Int}  (h : zE x d 69 [.inl y0] s (fun r s1 => zJ x d 66 16 [some (.inr (.inl 1)), some (.inl x1), some (.inl x2)] (zAp r []) s1 Q)) : zJ x d 66 13 [some (.inr (.inl 1)), some (.inl x1), some (.inl x2)] [.inl y0] s Q := zJ_of (b := b66_13) (by rw [kBlk, kb_66]; rfl) h
set_option maxRecDepth 100000 in
theorem B66_16 {x : List Int} {d : Nat} {s : zSt} {Q : zQ} {x1 : Int} {x2 : Int} {y0 : Int}  (h : (y0 = 0 → zJ x d 66 48 [some (.inr (.inl 1)), some (.inl x1), some (.inl x2)] [] s Q) ∧ (¬ (y0 = 0) → zE x d 67 [.inr (.inl 1)] s (fun r s1 => zJ x d 66 27 [some (.inr (.inl 1)), some (.inl x1), some (.inl x2)] (zAp r [.inl (wr (x1 * 10))]) s1 Q))) : zJ x d 66 16 [some (.inr (.inl 1)), some (.inl x1), some (.inl x2)] [.inl y0] s Q := zJ_of (b := b66_16) (by rw [kBlk, kb_66]; rfl) h
set_option maxRecDepth 100000 in
theorem B66_27 {x : List Int} {d : Nat} {s : zSt} {Q : zQ} {x1 : Int} {x2 : Int} {y0 : Int} {y1 : Int}  (h : zJ x d 66 4 [some (.inr (.inl 1)), some (.inl (wr ((wr (y1 + y0)) - 48))), some (.inl (wr (x2 + 1)))] [] (zU s 1 2 (wr ((s 1 2) + 1))) Q) : zJ x d 66 27 [some (.inr (.inl 1)), some (.inl x1), some (.inl x2)] [.inl y0, .inl y1] s Q := zJ_of (b := b66_27) (by rw [kBlk, kb_66]; rfl) h
set_option maxRecDepth 100000 in
theorem B66_48 {x : List Int} {d : Nat} {s : zSt} {Q : zQ} {x1 : Int} {x2 : Int}  (h : zE x d 68 [.inr (.inl 1), .inl x1] s (fun r s1 => zJ x d 66 53 [some (.inr (.inl 1)), some (.inl x1), some (.inl x2)] (zAp r []) s1 Q)) : zJ x d 66 48 [some (.inr (.inl 1)), some (.inl x1), some (.inl x2)] [] s Q := zJ_of (b := b66_48) (by rw [kBlk, kb_66]; rfl) h
set_option maxRecDepth 100000 in
theorem B66_53 {x : List Int} {d : Nat} {s : zSt} {Q : zQ} {x1 : Int} {x2 : Int}  (h : Q none s) : zJ x d 66 53 [some (.inr (.inl 1)), some (.inl x1), some (.inl x2)] [] s Q := zJ_of (b := b66_53) (by rw [kBlk, kb_66]; rfl) h
set_option maxRecDepth 100000 in
theorem N66 {x : List Int} {d : Nat} {s : zSt} {Q : zQ}  (h : zJ x d 66 0 [some (.inr (.inl 1)), none, none] [] s Q) : zE x (d + 1) 66 [.inr (.inl 1)] s Q := zE_of (n := 3) rfl rfl rfl rfl (fun h => (zLok_some (h _ (List.mem_of_getElem? (i := 0) rfl)) (zLok_none (zLok_none zLok_nil)))) h
-- 67: PennyALap$Law.sign
set_option maxRecDepth 100000 in
theorem kb_67 : kBls.getD 67 [] = c67 := rfl
set_option maxRecDepth 100000 in
theorem B67_0 {x : List Int} {d : Nat} {s : zSt} {Q : zQ}   (h : (s 1 1 ≤ s 1 2 → zJ x d 67 32 [some (.inr (.inl 1))] [] s Q) ∧ (¬ (s 1 1 ≤ s 1 2) → (120 ≤ s 1 2 → zJ x d 67 32 [some (.inr (.inl 1))] [] s Q) ∧ (¬ (120 ≤ s 1 2) → (0 : Int) ≤ s 1 2 ∧ (s 1 2 : Int) < 120 ∧ (zJ x d 67 33 [some (.inr (.inl 1))] [.inl (s 11 (s 1 2).toNat)] s Q)))) : zJ x d 67 0 [some (.inr (.inl 1))] [] s Q := zJ_of (b := b67_0) (by rw [kBlk, kb_67]; rfl) h
set_option maxRecDepth 100000 in
theorem B67_32 {x : List Int} {d : Nat} {s : zSt} {Q : zQ}   (h : zJ x d 67 33 [some (.inr (.inl 1))] [.inl (-1)] s Q) : zJ x d 67 32 [some (.inr (.inl 1))] [] s Q := zJ_of (b := b67_32) (by rw [kBlk, kb_67]; rfl) h
set_option maxRecDepth 100000 in
theorem B67_33 {x : List Int} {d : Nat} {s : zSt} {Q : zQ} {y0 : Int}  (h : Q (some (.inl y0)) s) : zJ x d 67 33 [some (.inr (.inl 1))] [.inl y0] s Q := zJ_of (b := b67_33) (by rw [kBlk, kb_67]; rfl) h
set_option maxRecDepth 100000 in
theorem N67 {x : List Int} {d : Nat} {s : zSt} {Q : zQ}  (h : zJ x d 67 0 [some (.inr (.inl 1))] [] s Q) : zE x (d + 1) 67 [.inr (.inl 1)] s Q := zE_of (n := 1) rfl rfl rfl rfl (fun h => (zLok_some (h _ (List.mem_of_getElem? (i := 0) rfl)) zLok_nil)) h
-- 68a: PennyALap$Law.write
set_option maxRecDepth 100000 in
theorem kb_68 : kBls.getD 68 [] = c68 := rfl
set_option maxRecDepth 100000 in
theorem B68a_0 {x : List Int} {d : Nat} {s : zSt} {Q : zQ} {x1 : Int} (h5 : (s 1 5).toNat = 13) (h : (121 ≤ s 1 6 → zJ x d 68 32 [some (.inr (.inl 1)), some (.inl x1)] [] s Q) ∧ (¬ (121 ≤ s 1 6) → zJ x d 68 12 [some (.inr (.inl 1)), some (.inl x1)] [] s Q)) : zJ x d 68 0 [some (.inr (.inl 1)), some (.inl x1)] [] s Q := zJ_of (b := b68_0) (by rw [kBlk, kb_68]; rfl) (Eq.mpr (congrArg (fun q : Nat => zX zSh (zRo x) (zE x d) (zJ x d 68) (b68_0.drop 4) [some (.inr (.inl 1)), some (.inl x1)] (.inr (.inl q) :: [.inl (s 1 6)]) s Q) (show (s 1 5).toNat = 13 from h5)) (show (fun q : Nat => zX zSh (zRo x) (zE x d) (zJ x d 68) (b68_0.drop 4) [some (.inr (.inl 1)), some (.inl x1)] (.inr (.inl q) :: [.inl (s 1 6)]) s Q) 13 from h))
set_option maxRecDepth 100000 in
theorem B68a_12 {x : List Int} {d : Nat} {s : zSt} {Q : zQ} {x1 : Int} (h5 : (s 1 5).toNat = 13) (h : (0 : Int) ≤ s 1 6 ∧ (s 1 6 : Int) < 121 ∧ (zJ x d 68 32 [some (.inr (.inl 1)), some (.inl x1)] [] (zU (zU s 13 (s 1 6).toNat x1) 1 6 (wr ((s 1 6) + 1))) Q)) : zJ x d 68 12 [some (.inr (.inl 1)), some (.inl x1)] [] s Q := zJ_of (b := b68_12) (by rw [kBlk, kb_68]; rfl) (Eq.mpr (congrArg (fun q : Nat => zX zSh (zRo x) (zE x d) (zJ x d 68) (b68_12.drop 2) [some (.inr (.inl 1)), some (.inl x1)] (.inr (.inl q) :: []) s Q) (show (s 1 5).toNat = 13 from h5)) (show (fun q : Nat => zX zSh (zRo x) (zE x d) (zJ x d 68) (b68_12.drop 2) [some (.inr (.inl 1)), some (.inl x1)] (.inr (.inl q) :: []) s Q) 13 from h))
set_option maxRecDepth 100000 in
theorem B68a_32 {x : List Int} {d : Nat} {s : zSt} {Q : zQ} {x1 : Int}  (h : Q none s) : zJ x d 68 32 [some (.inr (.inl 1)), some (.inl x1)] [] s Q := zJ_of (b := b68_32) (by rw [kBlk, kb_68]; rfl) h
set_option maxRecDepth 100000 in
theorem N68a {x : List Int} {d : Nat} {s : zSt} {Q : zQ} {x1 : Int} (h : zJ x d 68 0 [some (.inr (.inl 1)), some (.inl x1)] [] s Q) : zE x (d + 1) 68 [.inr (.inl 1), .inl x1] s Q := zE_of (n := 2) rfl rfl rfl rfl (fun h => (zLok_some (h _ (List.mem_of_getElem? (i := 0) rfl)) (zLok_some (h _ (List.mem_of_getElem? (i := 1) rfl)) zLok_nil))) h
-- 68b: PennyALap$Law.write
set_option maxRecDepth 100000 in
theorem B68b_0 {x : List Int} {d : Nat} {s : zSt} {Q : zQ} {x1 : Int} (h5 : (s 1 5).toNat = 12) (h : (121 ≤ s 1 6 → zJ x d 68 32 [some (.inr (.inl 1)), some (.inl x1)] [] s Q) ∧ (¬ (121 ≤ s 1 6) → zJ x d 68 12 [some (.inr (.inl 1)), some (.inl x1)] [] s Q)) : zJ x d 68 0 [some (.inr (.inl 1)), some (.inl x1)] [] s Q := zJ_of (b := b68_0) (by rw [kBlk, kb_68]; rfl) (Eq.mpr (congrArg (fun q : Nat => zX zSh (zRo x) (zE x d) (zJ x d 68) (b68_0.drop 4) [some (.inr (.inl 1)), some (.inl x1)] (.inr (.inl q) :: [.inl (s 1 6)]) s Q) (show (s 1 5).toNat = 12 from h5)) (show (fun q : Nat => zX zSh (zRo x) (zE x d) (zJ x d 68) (b68_0.drop 4) [some (.inr (.inl 1)), some (.inl x1)] (.inr (.inl q) :: [.inl (s 1 6)]) s Q) 12 from h))
set_option maxRecDepth 100000 in
theorem B68b_12 {x : List Int} {d : Nat} {s : zSt} {Q : zQ} {x1 : Int} (h5 : (s 1 5).toNat = 12) (h : (0 : Int) ≤ s 1 6 ∧ (s 1 6 : Int) < 121 ∧ (zJ x d 68 32 [some (.inr (.inl 1)), some (.inl x1)] [] (zU (zU s 12 (s 1 6).toNat x1) 1 6 (wr ((s 1 6) + 1))) Q)) : zJ x d 68 12 [some (.inr (.inl 1)), some (.inl x1)] [] s Q := zJ_of (b := b68_12) (by rw [kBlk, kb_68]; rfl) (Eq.mpr (congrArg (fun q : Nat => zX zSh (zRo x) (zE x d) (zJ x d 68) (b68_12.drop 2) [some (.inr (.inl 1)), some (.inl x1)] (.inr (.inl q) :: []) s Q) (show (s 1 5).toNat = 12 from h5)) (show (fun q : Nat => zX zSh (zRo x) (zE x d) (zJ x d 68) (b68_12.drop 2) [some (.inr (.inl 1)), some (.inl x1)] (.inr (.inl q) :: []) s Q) 12 from h))
set_option maxRecDepth 100000 in
theorem B68b_32 {x : List Int} {d : Nat} {s : zSt} {Q : zQ} {x1 : Int}  (h : Q none s) : zJ x d 68 32 [some (.inr (.inl 1)), some (.inl x1)] [] s Q := zJ_of (b := b68_32) (by rw [kBlk, kb_68]; rfl) h
set_option maxRecDepth 100000 in
theorem N68b {x : List Int} {d : Nat} {s : zSt} {Q : zQ} {x1 : Int} (h : zJ x d 68 0 [some (.inr (.inl 1)), some (.inl x1)] [] s Q) : zE x (d + 1) 68 [.inr (.inl 1), .inl x1] s Q := zE_of (n := 2) rfl rfl rfl rfl (fun h => (zLok_some (h _ (List.mem_of_getElem? (i := 0) rfl)) (zLok_some (h _ (List.mem_of_getElem? (i := 1) rfl)) zLok_nil))) h
-- 69: PennyALap$Law.isDigit
set_option maxRecDepth 100000 in
theorem kb_69 : kBls.getD 69 [] = c69 := rfl
set_option maxRecDepth 100000 in
theorem B69_0 {x : List Int} {d : Nat} {s : zSt} {Q : zQ} {x0 : Int}  (h : (x0 < 48 → zJ x d 69 16 [some (.inl x0)] [] s Q) ∧ (¬ (x0 < 48) → (57 < x0 → zJ x d 69 16 [some (.inl x0)] [] s Q) ∧ (¬ (57 < x0) → zJ x d 69 17 [some (.inl x0)] [.inl 1] s Q))) : zJ x d 69 0 [some (.inl x0)] [] s Q := zJ_of (b := b69_0) (by rw [kBlk, kb_69]; rfl) h
set_option maxRecDepth 100000 in
theorem B69_16 {x : List Int} {d : Nat} {s : zSt} {Q : zQ} {x0 : Int}  (h : zJ x d 69 17 [some (.inl x0)] [.inl 0] s Q) : zJ x d 69 16 [some (.inl x0)] [] s Q := zJ_of (b := b69_16) (by rw [kBlk, kb_69]; rfl) h
set_option maxRecDepth 100000 in
theorem B69_17 {x : List Int} {d : Nat} {s : zSt} {Q : zQ} {x0 : Int} {y0 : Int}  (h : ((y0 : Int) = 0 ∨ (y0 : Int) = 1) ∧ Q (some (.inl y0)) s) : zJ x d 69 17 [some (.inl x0)] [.inl y0] s Q := zJ_of (b := b69_17) (by rw [kBlk, kb_69]; rfl) h
set_option maxRecDepth 100000 in
theorem N69 {x : List Int} {d : Nat} {s : zSt} {Q : zQ} {x0 : Int} (h : zJ x d 69 0 [some (.inl x0)] [] s Q) : zE x (d + 1) 69 [.inl x0] s Q := zE_of (n := 1) rfl rfl rfl rfl (fun h => (zLok_some (h _ (List.mem_of_getElem? (i := 0) rfl)) zLok_nil)) h
-- 70: PennyALap$Law.nameOf
set_option maxRecDepth 100000 in
theorem kb_70 : kBls.getD 70 [] = c70 := rfl
set_option maxRecDepth 100000 in
theorem B70_0 {x : List Int} {d : Nat} {s : zSt} {Q : zQ} {x0 : Int}  (h : (x0 = 99 → zJ x d 70 98 [some (.inl x0)] [] s Q) ∧ (¬ x0 = 99 → (x0 = 100 → zJ x d 70 100 [some (.inl x0)] [] s Q) ∧ (¬ x0 = 100 → (x0 = 101 → zJ x d 70 100 [some (.inl x0)] [] s Q) ∧ (¬ x0 = 101 → (x0 = 102 → zJ x d 70 100 [some (.inl x0)] [] s Q) ∧ (¬ x0 = 102 → (x0 = 103 → zJ x d 70 100 [some (.inl x0)] [] s Q) ∧ (¬ x0 = 103 → (x0 = 104 → zJ x d 70 100 [some (.inl x0)] [] s Q) ∧ (¬ x0 = 104 → (x0 = 105 → zJ x d 70 100 [some (.inl x0)] [] s Q) ∧ (¬ x0 = 105 → (x0 = 106 → zJ x d 70 100 [some (.inl x0)] [] s Q) ∧ (¬ x0 = 106 → (x0 = 107 → zJ x d 70 92 [some (.inl x0)] [] s Q) ∧ (¬ x0 = 107 → (x0 = 108 → zJ x d 70 100 [some (.inl x0)] [] s Q) ∧ (¬ x0 = 108 → (x0 = 109 → zJ x d 70 94 [some (.inl x0)] [] s Q) ∧ (¬ x0 = 109 → (x0 = 110 → zJ x d 70 100 [some (.inl x0)] [] s Q) ∧ (¬ x0 = 110 → (x0 = 111 → zJ x d 70 100 [some (.inl x0)] [] s Q) ∧ (¬ x0 = 111 → (x0 = 112 → zJ x d 70 88 [some (.inl x0)] [] s Q) ∧ (¬ x0 = 112 → (x0 = 113 → zJ x d 70 100 [some (.inl x0)] [] s Q) ∧ (¬ x0 = 113 → (x0 = 114 → zJ x d 70 96 [some (.inl x0)] [] s Q) ∧ (¬ x0 = 114 → (x0 = 115 → zJ x d 70 100 [some (.inl x0)] [] s Q) ∧ (¬ x0 = 115 → (x0 = 116 → zJ x d 70 90 [some (.inl x0)] [] s Q) ∧ (¬ x0 = 116 → zJ x d 70 100 [some (.inl x0)] [] s Q))))))))))))))))))) : zJ x d 70 0 [some (.inl x0)] [] s Q := zJ_of (b := b70_0) (by rw [kBlk, kb_70]; rfl) h
set_option maxRecDepth 100000 in
theorem B70_88 {x : List Int} {d : Nat} {s : zSt} {Q : zQ} {x0 : Int}  (h : Q (some (.inl 0)) s) : zJ x d 70 88 [some (.inl x0)] [] s Q := zJ_of (b := b70_88) (by rw [kBlk, kb_70]; rfl) h
set_option maxRecDepth 100000 in
theorem B70_90 {x : List Int} {d : Nat} {s : zSt} {Q : zQ} {x0 : Int}  (h : Q (some (.inl 1)) s) : zJ x d 70 90 [some (.inl x0)] [] s Q := zJ_of (b := b70_90) (by rw [kBlk, kb_70]; rfl) h
set_option maxRecDepth 100000 in
theorem B70_92 {x : List Int} {d : Nat} {s : zSt} {Q : zQ} {x0 : Int}  (h : Q (some (.inl 2)) s) : zJ x d 70 92 [some (.inl x0)] [] s Q := zJ_of (b := b70_92) (by rw [kBlk, kb_70]; rfl) h
set_option maxRecDepth 100000 in
theorem B70_94 {x : List Int} {d : Nat} {s : zSt} {Q : zQ} {x0 : Int}  (h : Q (some (.inl 3)) s) : zJ x d 70 94 [some (.inl x0)] [] s Q := zJ_of (b := b70_94) (by rw [kBlk, kb_70]; rfl) h
set_option maxRecDepth 100000 in
theorem B70_96 {x : List Int} {d : Nat} {s : zSt} {Q : zQ} {x0 : Int}  (h : Q (some (.inl 4)) s) : zJ x d 70 96 [some (.inl x0)] [] s Q := zJ_of (b := b70_96) (by rw [kBlk, kb_70]; rfl) h
set_option maxRecDepth 100000 in
theorem B70_98 {x : List Int} {d : Nat} {s : zSt} {Q : zQ} {x0 : Int}  (h : Q (some (.inl 5)) s) : zJ x d 70 98 [some (.inl x0)] [] s Q := zJ_of (b := b70_98) (by rw [kBlk, kb_70]; rfl) h
set_option maxRecDepth 100000 in
theorem B70_100 {x : List Int} {d : Nat} {s : zSt} {Q : zQ} {x0 : Int}  (h : Q (some (.inl (-1))) s) : zJ x d 70 100 [some (.inl x0)] [] s Q := zJ_of (b := b70_100) (by rw [kBlk, kb_70]; rfl) h
set_option maxRecDepth 100000 in
theorem N70 {x : List Int} {d : Nat} {s : zSt} {Q : zQ} {x0 : Int} (h : zJ x d 70 0 [some (.inl x0)] [] s Q) : zE x (d + 1) 70 [.inl x0] s Q := zE_of (n := 1) rfl rfl rfl rfl (fun h => (zLok_some (h _ (List.mem_of_getElem? (i := 0) rfl)) zLok_nil)) h
-- 71: PennyALap$Law.levelOf
set_option maxRecDepth 100000 in
theorem kb_71 : kBls.getD 71 [] = c71 := rfl
set_option maxRecDepth 100000 in
theorem B71_0 {x : List Int} {d : Nat} {s : zSt} {Q : zQ} {x0 : Int}  (h : (x0 = 37 → zJ x d 71 100 [some (.inl x0)] [] s Q) ∧ (¬ x0 = 37 → (x0 = 38 → zJ x d 71 94 [some (.inl x0)] [] s Q) ∧ (¬ x0 = 38 → (x0 = 42 → zJ x d 71 100 [some (.inl x0)] [] s Q) ∧ (¬ x0 = 42 → (x0 = 43 → zJ x d 71 98 [some (.inl x0)] [] s Q) ∧ (¬ x0 = 43 → (x0 = 45 → zJ x d 71 98 [some (.inl x0)] [] s Q) ∧ (¬ x0 = 45 → (x0 = 47 → zJ x d 71 100 [some (.inl x0)] [] s Q) ∧ (¬ x0 = 47 → (x0 = 60 → zJ x d 71 96 [some (.inl x0)] [] s Q) ∧ (¬ x0 = 60 → (x0 = 61 → zJ x d 71 96 [some (.inl x0)] [] s Q) ∧ (¬ x0 = 61 → (x0 = 62 → zJ x d 71 96 [some (.inl x0)] [] s Q) ∧ (¬ x0 = 62 → (x0 = 124 → zJ x d 71 92 [some (.inl x0)] [] s Q) ∧ (¬ x0 = 124 → zJ x d 71 102 [some (.inl x0)] [] s Q))))))))))) : zJ x d 71 0 [some (.inl x0)] [] s Q := zJ_of (b := b71_0) (by rw [kBlk, kb_71]; rfl) h
set_option maxRecDepth 100000 in
theorem B71_92 {x : List Int} {d : Nat} {s : zSt} {Q : zQ} {x0 : Int}  (h : Q (some (.inl 0)) s) : zJ x d 71 92 [some (.inl x0)] [] s Q := zJ_of (b := b71_92) (by rw [kBlk, kb_71]; rfl) h
set_option maxRecDepth 100000 in
theorem B71_94 {x : List Int} {d : Nat} {s : zSt} {Q : zQ} {x0 : Int}  (h : Q (some (.inl 1)) s) : zJ x d 71 94 [some (.inl x0)] [] s Q := zJ_of (b := b71_94) (by rw [kBlk, kb_71]; rfl) h
set_option maxRecDepth 100000 in
theorem B71_96 {x : List Int} {d : Nat} {s : zSt} {Q : zQ} {x0 : Int}  (h : Q (some (.inl 2)) s) : zJ x d 71 96 [some (.inl x0)] [] s Q := zJ_of (b := b71_96) (by rw [kBlk, kb_71]; rfl) h
set_option maxRecDepth 100000 in
theorem B71_98 {x : List Int} {d : Nat} {s : zSt} {Q : zQ} {x0 : Int}  (h : Q (some (.inl 3)) s) : zJ x d 71 98 [some (.inl x0)] [] s Q := zJ_of (b := b71_98) (by rw [kBlk, kb_71]; rfl) h
set_option maxRecDepth 100000 in
theorem B71_100 {x : List Int} {d : Nat} {s : zSt} {Q : zQ} {x0 : Int}  (h : Q (some (.inl 4)) s) : zJ x d 71 100 [some (.inl x0)] [] s Q := zJ_of (b := b71_100) (by rw [kBlk, kb_71]; rfl) h
set_option maxRecDepth 100000 in
theorem B71_102 {x : List Int} {d : Nat} {s : zSt} {Q : zQ} {x0 : Int}  (h : Q (some (.inl (-1))) s) : zJ x d 71 102 [some (.inl x0)] [] s Q := zJ_of (b := b71_102) (by rw [kBlk, kb_71]; rfl) h
set_option maxRecDepth 100000 in
theorem N71 {x : List Int} {d : Nat} {s : zSt} {Q : zQ} {x0 : Int} (h : zJ x d 71 0 [some (.inl x0)] [] s Q) : zE x (d + 1) 71 [.inl x0] s Q := zE_of (n := 1) rfl rfl rfl rfl (fun h => (zLok_some (h _ (List.mem_of_getElem? (i := 0) rfl)) zLok_nil)) h
-- 72: PennyALap$Law.isThere
set_option maxRecDepth 100000 in
theorem kb_72 : kBls.getD 72 [] = c72 := rfl
set_option maxRecDepth 100000 in
theorem B72_0 {x : List Int} {d : Nat} {s : zSt} {Q : zQ}   (h : (s 1 4 ≤ 0 → zJ x d 72 11 [some (.inr (.inl 1))] [] s Q) ∧ (¬ (s 1 4 ≤ 0) → zJ x d 72 12 [some (.inr (.inl 1))] [.inl 1] s Q)) : zJ x d 72 0 [some (.inr (.inl 1))] [] s Q := zJ_of (b := b72_0) (by rw [kBlk, kb_72]; rfl) h
set_option maxRecDepth 100000 in
theorem B72_11 {x : List Int} {d : Nat} {s : zSt} {Q : zQ}   (h : zJ x d 72 12 [some (.inr (.inl 1))] [.inl 0] s Q) : zJ x d 72 11 [some (.inr (.inl 1))] [] s Q := zJ_of (b := b72_11) (by rw [kBlk, kb_72]; rfl) h
set_option maxRecDepth 100000 in
theorem B72_12 {x : List Int} {d : Nat} {s : zSt} {Q : zQ} {y0 : Int}  (h : ((y0 : Int) = 0 ∨ (y0 : Int) = 1) ∧ Q (some (.inl y0)) s) : zJ x d 72 12 [some (.inr (.inl 1))] [.inl y0] s Q := zJ_of (b := b72_12) (by rw [kBlk, kb_72]; rfl) h
set_option maxRecDepth 100000 in
theorem N72 {x : List Int} {d : Nat} {s : zSt} {Q : zQ}  (h : zJ x d 72 0 [some (.inr (.inl 1))] [] s Q) : zE x (d + 1) 72 [.inr (.inl 1)] s Q := zE_of (n := 1) rfl rfl rfl rfl (fun h => (zLok_some (h _ (List.mem_of_getElem? (i := 0) rfl)) zLok_nil)) h
-- 73: PennyALap$Law.ofChild
set_option maxRecDepth 100000 in
theorem kb_73 : kBls.getD 73 [] = c73 := rfl
set_option maxRecDepth 100000 in
theorem B73_0 {x : List Int} {d : Nat} {s : zSt} {Q : zQ} {x1 : Int} {x2 : Int} {x3 : Int} {x4 : Int}  (h : (0 : Int) ≤ 0 ∧ (0 : Int) < 6 ∧ ((0 : Int) ≤ 1 ∧ (1 : Int) < 6 ∧ ((0 : Int) ≤ 4 ∧ (4 : Int) < 6 ∧ ((0 : Int) ≤ 5 ∧ (5 : Int) < 6 ∧ (Q none (zU (zU (zU (zU s 15 0 x2) 15 1 x3) 15 4 x4) 15 5 x1)))))) : zJ x d 73 0 [some (.inr (.inl 1)), some (.inl x1), some (.inl x2), some (.inl x3), some (.inl x4)] [] s Q := zJ_of (b := b73_0) (by rw [kBlk, kb_73]; rfl) h
set_option maxRecDepth 100000 in
theorem N73 {x : List Int} {d : Nat} {s : zSt} {Q : zQ} {x1 : Int} {x2 : Int} {x3 : Int} {x4 : Int} (h : zJ x d 73 0 [some (.inr (.inl 1)), some (.inl x1), some (.inl x2), some (.inl x3), some (.inl x4)] [] s Q) : zE x (d + 1) 73 [.inr (.inl 1), .inl x1, .inl x2, .inl x3, .inl x4] s Q := zE_of (n := 5) rfl rfl rfl rfl (fun h => (zLok_some (h _ (List.mem_of_getElem? (i := 0) rfl)) (zLok_some (h _ (List.mem_of_getElem? (i := 1) rfl)) (zLok_some (h _ (List.mem_of_getElem? (i := 2) rfl)) (zLok_some (h _ (List.mem_of_getElem? (i := 3) rfl)) (zLok_some (h _ (List.mem_of_getElem? (i := 4) rfl)) zLok_nil)))))) h
-- 74a: PennyALap$Law.gives
set_option maxRecDepth 100000 in
theorem kb_74 : kBls.getD 74 [] = c74 := rfl
set_option maxRecDepth 100000 in
theorem B74a_0 {x : List Int} {d : Nat} {s : zSt} {Q : zQ} {x1 : Int} {x2 : Int}  (h : (0 : Int) ≤ 2 ∧ (2 : Int) < 6 ∧ ((0 : Int) ≤ 3 ∧ (3 : Int) < 6 ∧ (zJ x d 74 19 [some (.inr (.inl 1)), some (.inl x1), some (.inl x2), some (.inl 0), some (.inl 0), none] [] (zU (zU s 15 2 x1) 15 3 x2) Q))) : zJ x d 74 0 [some (.inr (.inl 1)), some (.inl x1), some (.inl x2), none, none, none] [] s Q := zJ_of (b := b74_0) (by rw [kBlk, kb_74]; rfl) h
set_option maxRecDepth 100000 in
theorem B74a_19 {x : List Int} {d : Nat} {s : zSt} {Q : zQ} {x1 : Int} {x2 : Int} {x3 : Int} {x4 : Int} {o5 : Option zV}  (h : (s 1 4 ≤ x4 → zJ x d 74 223 [some (.inr (.inl 1)), some (.inl x1), some (.inl x2), some (.inl x3), some (.inl x4), o5] [] s Q) ∧ (¬ (s 1 4 ≤ x4) → zJ x d 74 28 [some (.inr (.inl 1)), some (.inl x1), some (.inl x2), some (.inl x3), some (.inl x4), o5] [] s Q)) : zJ x d 74 19 [some (.inr (.inl 1)), some (.inl x1), some (.inl x2), some (.inl x3), some (.inl x4), o5] [] s Q := zJ_of (b := b74_19) (by rw [kBlk, kb_74]; rfl) h
set_option maxRecDepth 100000 in
theorem B74a_28 {x : List Int} {d : Nat} {s : zSt} {Q : zQ} {x1 : Int} {x2 : Int} {x3 : Int} {x4 : Int} {o5 : Option zV} (h3 : (s 1 3).toNat = 12) (h : (0 : Int) ≤ x4 ∧ (x4 : Int) < 121 ∧ ((s 12 (x4).toNat < (-6) → zJ x d 74 84 [some (.inr (.inl 1)), some (.inl x1), some (.inl x2), some (.inl x3), some (.inl x4), some (.inl (s 12 (x4).toNat))] [] s Q) ∧ (¬ (s 12 (x4).toNat < (-6)) → zJ x d 74 44 [some (.inr (.inl 1)), some (.inl x1), some (.inl x2), some (.inl x3), some (.inl x4), some (.inl (s 12 (x4).toNat))] [] s Q))) : zJ x d 74 28 [some (.inr (.inl 1)), some (.inl x1), some (.inl x2), some (.inl x3), some (.inl x4), o5] [] s Q := zJ_of (b := b74_28) (by rw [kBlk, kb_74]; rfl) (Eq.mpr (congrArg (fun q : Nat => zX zSh (zRo x) (zE x d) (zJ x d 74) (b74_28.drop 2) [some (.inr (.inl 1)), some (.inl x1), some (.inl x2), some (.inl x3), some (.inl x4), o5] (.inr (.inl q) :: []) s Q) (show (s 1 3).toNat = 12 from h3)) (show (fun q : Nat => zX zSh (zRo x) (zE x d) (zJ x d 74) (b74_28.drop 2) [some (.inr (.inl 1)), some (.inl x1), some (.inl x2), some (.inl x3), some (.inl x4), o5] (.inr (.inl q) :: []) s Q) 12 from h))
set_option maxRecDepth 100000 in
theorem B74a_44 {x : List Int} {d : Nat} {s : zSt} {Q : zQ} {x1 : Int} {x2 : Int} {x3 : Int} {x4 : Int} {x5 : Int}  (h : (121 ≤ x3 → zJ x d 74 84 [some (.inr (.inl 1)), some (.inl x1), some (.inl x2), some (.inl x3), some (.inl x4), some (.inl x5)] [] s Q) ∧ (¬ (121 ≤ x3) → zJ x d 74 53 [some (.inr (.inl 1)), some (.inl x1), some (.inl x2), some (.inl x3), some (.inl x4), some (.inl x5)] [] s Q)) : zJ x d 74 44 [some (.inr (.inl 1)), some (.inl x1), some (.inl x2), some (.inl x3), some (.inl x4), some (.inl x5)] [] s Q := zJ_of (b := b74_44) (by rw [kBlk, kb_74]; rfl) h
set_option maxRecDepth 100000 in
theorem B74a_53 {x : List Int} {d : Nat} {s : zSt} {Q : zQ} {x1 : Int} {x2 : Int} {x3 : Int} {x4 : Int} {x5 : Int}  (h : (x5 < 0 → zJ x d 74 68 [some (.inr (.inl 1)), some (.inl x1), some (.inl x2), some (.inl x3), some (.inl x4), some (.inl x5)] [.inl x3, .inr (.inl 14)] s Q) ∧ (¬ (x5 < 0) → zJ x d 74 63 [some (.inr (.inl 1)), some (.inl x1), some (.inl x2), some (.inl x3), some (.inl x4), some (.inl x5)] [.inl x3, .inr (.inl 14)] s Q)) : zJ x d 74 53 [some (.inr (.inl 1)), some (.inl x1), some (.inl x2), some (.inl x3), some (.inl x4), some (.inl x5)] [] s Q := zJ_of (b := b74_53) (by rw [kBlk, kb_74]; rfl) h
set_option maxRecDepth 100000 in
theorem B74a_63 {x : List Int} {d : Nat} {s : zSt} {Q : zQ} {x1 : Int} {x2 : Int} {x3 : Int} {x4 : Int} {x5 : Int} {y0 : Int}  (h : zJ x d 74 77 [some (.inr (.inl 1)), some (.inl x1), some (.inl x2), some (.inl x3), some (.inl x4), some (.inl x5)] [.inl x5, .inl y0, .inr (.inl 14)] s Q) : zJ x d 74 63 [some (.inr (.inl 1)), some (.inl x1), some (.inl x2), some (.inl x3), some (.inl x4), some (.inl x5)] [.inl y0, .inr (.inl 14)] s Q := zJ_of (b := b74_63) (by rw [kBlk, kb_74]; rfl) h
set_option maxRecDepth 100000 in
theorem B74a_68 {x : List Int} {d : Nat} {s : zSt} {Q : zQ} {x1 : Int} {x2 : Int} {x3 : Int} {x4 : Int} {x5 : Int} {y0 : Int}  (h : (0 : Int) ≤ wr ((-1) - x5) ∧ (wr ((-1) - x5) : Int) < 6 ∧ (zJ x d 74 77 [some (.inr (.inl 1)), some (.inl x1), some (.inl x2), some (.inl x3), some (.inl x4), some (.inl x5)] [.inl (s 15 (wr ((-1) - x5)).toNat), .inl y0, .inr (.inl 14)] s Q)) : zJ x d 74 68 [some (.inr (.inl 1)), some (.inl x1), some (.inl x2), some (.inl x3), some (.inl x4), some (.inl x5)] [.inl y0, .inr (.inl 14)] s Q := zJ_of (b := b74_68) (by rw [kBlk, kb_74]; rfl) h
set_option maxRecDepth 100000 in
theorem B74a_77 {x : List Int} {d : Nat} {s : zSt} {Q : zQ} {x1 : Int} {x2 : Int} {x3 : Int} {x4 : Int} {x5 : Int} {y0 : Int} {y1 : Int}  (h : (0 : Int) ≤ y1 ∧ (y1 : Int) < 121 ∧ (zJ x d 74 217 [some (.inr (.inl 1)), some (.inl x1), some (.inl x2), some (.inl (wr (x3 + 1))), some (.inl x4), some (.inl x5)] [] (zU s 14 (y1).toNat y0) Q)) : zJ x d 74 77 [some (.inr (.inl 1)), some (.inl x1), some (.inl x2), some (.inl x3), some (.inl x4), some (.inl x5)] [.inl y0, .inl y1, .inr (.inl 14)] s Q := zJ_of (b := b74_77) (by rw [kBlk, kb_74]; rfl) h
set_option maxRecDepth 100000 in
theorem B74a_84 {x : List Int} {d : Nat} {s : zSt} {Q : zQ} {x1 : Int} {x2 : Int} {x3 : Int} {x4 : Int} {x5 : Int}  (h : (1 ≤ x3 → zJ x d 74 91 [some (.inr (.inl 1)), some (.inl x1), some (.inl x2), some (.inl x3), some (.inl x4), some (.inl x5)] [] s Q) ∧ (¬ (1 ≤ x3) → zJ x d 74 89 [some (.inr (.inl 1)), some (.inl x1), some (.inl x2), some (.inl x3), some (.inl x4), some (.inl x5)] [] s Q)) : zJ x d 74 84 [some (.inr (.inl 1)), some (.inl x1), some (.inl x2), some (.inl x3), some (.inl x4), some (.inl x5)] [] s Q := zJ_of (b := b74_84) (by rw [kBlk, kb_74]; rfl) h
set_option maxRecDepth 100000 in
theorem B74a_89 {x : List Int} {d : Nat} {s : zSt} {Q : zQ} {x1 : Int} {x2 : Int} {x3 : Int} {x4 : Int} {x5 : Int}  (h : Q (some (.inl 0)) s) : zJ x d 74 89 [some (.inr (.inl 1)), some (.inl x1), some (.inl x2), some (.inl x3), some (.inl x4), some (.inl x5)] [] s Q := zJ_of (b := b74_89) (by rw [kBlk, kb_74]; rfl) h
set_option maxRecDepth 100000 in
theorem B74a_91 {x : List Int} {d : Nat} {s : zSt} {Q : zQ} {x1 : Int} {x2 : Int} {x3 : Int} {x4 : Int} {x5 : Int}  (h : (¬ x5 = (-59) → zJ x d 74 107 [some (.inr (.inl 1)), some (.inl x1), some (.inl x2), some (.inl x3), some (.inl x4), some (.inl x5)] [] s Q) ∧ (¬ (¬ x5 = (-59)) → zJ x d 74 98 [some (.inr (.inl 1)), some (.inl x1), some (.inl x2), some (.inl x3), some (.inl x4), some (.inl x5)] [] s Q)) : zJ x d 74 91 [some (.inr (.inl 1)), some (.inl x1), some (.inl x2), some (.inl x3), some (.inl x4), some (.inl x5)] [] s Q := zJ_of (b := b74_91) (by rw [kBlk, kb_74]; rfl) h
set_option maxRecDepth 100000 in
theorem B74a_98 {x : List Int} {d : Nat} {s : zSt} {Q : zQ} {x1 : Int} {x2 : Int} {x3 : Int} {x4 : Int} {x5 : Int}  (h : (0 : Int) ≤ wr (x3 - 1) ∧ (wr (x3 - 1) : Int) < 121 ∧ (Q (some (.inl (s 14 (wr (x3 - 1)).toNat))) s)) : zJ x d 74 98 [some (.inr (.inl 1)), some (.inl x1), some (.inl x2), some (.inl x3), some (.inl x4), some (.inl x5)] [] s Q := zJ_of (b := b74_98) (by rw [kBlk, kb_74]; rfl) h
set_option maxRecDepth 100000 in
theorem B74a_107 {x : List Int} {d : Nat} {s : zSt} {Q : zQ} {x1 : Int} {x2 : Int} {x3 : Int} {x4 : Int} {x5 : Int}  (h : (x5 = (-33) → zJ x d 74 121 [some (.inr (.inl 1)), some (.inl x1), some (.inl x2), some (.inl x3), some (.inl x4), some (.inl x5)] [] s Q) ∧ (¬ (x5 = (-33)) → zJ x d 74 114 [some (.inr (.inl 1)), some (.inl x1), some (.inl x2), some (.inl x3), some (.inl x4), some (.inl x5)] [] s Q)) : zJ x d 74 107 [some (.inr (.inl 1)), some (.inl x1), some (.inl x2), some (.inl x3), some (.inl x4), some (.inl x5)] [] s Q := zJ_of (b := b74_107) (by rw [kBlk, kb_74]; rfl) h
set_option maxRecDepth 100000 in
theorem B74a_114 {x : List Int} {d : Nat} {s : zSt} {Q : zQ} {x1 : Int} {x2 : Int} {x3 : Int} {x4 : Int} {x5 : Int}  (h : (¬ x5 = (-110) → zJ x d 74 146 [some (.inr (.inl 1)), some (.inl x1), some (.inl x2), some (.inl x3), some (.inl x4), some (.inl x5)] [] s Q) ∧ (¬ (¬ x5 = (-110)) → zJ x d 74 121 [some (.inr (.inl 1)), some (.inl x1), some (.inl x2), some (.inl x3), some (.inl x4), some (.inl x5)] [] s Q)) : zJ x d 74 114 [some (.inr (.inl 1)), some (.inl x1), some (.inl x2), some (.inl x3), some (.inl x4), some (.inl x5)] [] s Q := zJ_of (b := b74_114) (by rw [kBlk, kb_74]; rfl) h
set_option maxRecDepth 100000 in
theorem B74a_121 {x : List Int} {d : Nat} {s : zSt} {Q : zQ} {x1 : Int} {x2 : Int} {x3 : Int} {x4 : Int} {x5 : Int}  (h : (0 : Int) ≤ wr (x3 - 1) ∧ (wr (x3 - 1) : Int) < 121 ∧ (zE x d 75 [.inl (wr (-x5)), .inl (s 14 (wr (x3 - 1)).toNat)] s (fun r s1 => zJ x d 74 142 [some (.inr (.inl 1)), some (.inl x1), some (.inl x2), some (.inl x3), some (.inl x4), some (.inl x5)] (zAp r [.inl (wr (x3 - 1)), .inr (.inl 14)]) s1 Q))) : zJ x d 74 121 [some (.inr (.inl 1)), some (.inl x1), some (.inl x2), some (.inl x3), some (.inl x4), some (.inl x5)] [] s Q := zJ_of (b := b74_121) (by rw [kBlk, kb_74]; rfl) h
set_option maxRecDepth 100000 in
theorem B74a_142 {x : List Int} {d : Nat} {s : zSt} {Q : zQ} {x1 : Int} {x2 : Int} {x3 : Int} {x4 : Int} {x5 : Int} {y0 : Int} {y1 : Int}  (h : (0 : Int) ≤ y1 ∧ (y1 : Int) < 121 ∧ (zJ x d 74 217 [some (.inr (.inl 1)), some (.inl x1), some (.inl x2), some (.inl x3), some (.inl x4), some (.inl x5)] [] (zU s 14 (y1).toNat y0) Q)) : zJ x d 74 142 [some (.inr (.inl 1)), some (.inl x1), some (.inl x2), some (.inl x3), some (.inl x4), some (.inl x5)] [.inl y0, .inl y1, .inr (.inl 14)] s Q := zJ_of (b := b74_142) (by rw [kBlk, kb_74]; rfl) h
set_option maxRecDepth 100000 in
theorem B74a_146 {x : List Int} {d : Nat} {s : zSt} {Q : zQ} {x1 : Int} {x2 : Int} {x3 : Int} {x4 : Int} {x5 : Int}  (h : (2 ≤ x3 → zJ x d 74 153 [some (.inr (.inl 1)), some (.inl x1), some (.inl x2), some (.inl x3), some (.inl x4), some (.inl x5)] [] s Q) ∧ (¬ (2 ≤ x3) → zJ x d 74 151 [some (.inr (.inl 1)), some (.inl x1), some (.inl x2), some (.inl x3), some (.inl x4), some (.inl x5)] [] s Q)) : zJ x d 74 146 [some (.inr (.inl 1)), some (.inl x1), some (.inl x2), some (.inl x3), some (.inl x4), some (.inl x5)] [] s Q := zJ_of (b := b74_146) (by rw [kBlk, kb_74]; rfl) h
set_option maxRecDepth 100000 in
theorem B74a_151 {x : List Int} {d : Nat} {s : zSt} {Q : zQ} {x1 : Int} {x2 : Int} {x3 : Int} {x4 : Int} {x5 : Int}  (h : Q (some (.inl 0)) s) : zJ x d 74 151 [some (.inr (.inl 1)), some (.inl x1), some (.inl x2), some (.inl x3), some (.inl x4), some (.inl x5)] [] s Q := zJ_of (b := b74_151) (by rw [kBlk, kb_74]; rfl) h
set_option maxRecDepth 100000 in
theorem B74a_153 {x : List Int} {d : Nat} {s : zSt} {Q : zQ} {x1 : Int} {x2 : Int} {x3 : Int} {x4 : Int} {x5 : Int}  (h : (¬ x5 = (-63) → zJ x d 74 186 [some (.inr (.inl 1)), some (.inl x1), some (.inl x2), some (.inl x3), some (.inl x4), some (.inl x5)] [] s Q) ∧ (¬ (¬ x5 = (-63)) → zJ x d 74 160 [some (.inr (.inl 1)), some (.inl x1), some (.inl x2), some (.inl x3), some (.inl x4), some (.inl x5)] [] s Q)) : zJ x d 74 153 [some (.inr (.inl 1)), some (.inl x1), some (.inl x2), some (.inl x3), some (.inl x4), some (.inl x5)] [] s Q := zJ_of (b := b74_153) (by rw [kBlk, kb_74]; rfl) h
set_option maxRecDepth 100000 in
theorem B74a_160 {x : List Int} {d : Nat} {s : zSt} {Q : zQ} {x1 : Int} {x2 : Int} {x3 : Int} {x4 : Int} {x5 : Int}  (h : (0 : Int) ≤ wr (x3 - 2) ∧ (wr (x3 - 2) : Int) < 121 ∧ ((s 14 (wr (x3 - 2)).toNat = 0 → zJ x d 74 180 [some (.inr (.inl 1)), some (.inl x1), some (.inl x2), some (.inl x3), some (.inl x4), some (.inl x5)] [] s Q) ∧ (¬ (s 14 (wr (x3 - 2)).toNat = 0) → zJ x d 74 171 [some (.inr (.inl 1)), some (.inl x1), some (.inl x2), some (.inl x3), some (.inl x4), some (.inl x5)] [] s Q))) : zJ x d 74 160 [some (.inr (.inl 1)), some (.inl x1), some (.inl x2), some (.inl x3), some (.inl x4), some (.inl x5)] [] s Q := zJ_of (b := b74_160) (by rw [kBlk, kb_74]; rfl) h
set_option maxRecDepth 100000 in
theorem B74a_171 {x : List Int} {d : Nat} {s : zSt} {Q : zQ} {x1 : Int} {x2 : Int} {x3 : Int} {x4 : Int} {x5 : Int}  (h : (0 : Int) ≤ wr (x3 - 1) ∧ (wr (x3 - 1) : Int) < 121 ∧ (Q (some (.inl (s 14 (wr (x3 - 1)).toNat))) s)) : zJ x d 74 171 [some (.inr (.inl 1)), some (.inl x1), some (.inl x2), some (.inl x3), some (.inl x4), some (.inl x5)] [] s Q := zJ_of (b := b74_171) (by rw [kBlk, kb_74]; rfl) h
set_option maxRecDepth 100000 in
theorem B74a_180 {x : List Int} {d : Nat} {s : zSt} {Q : zQ} {x1 : Int} {x2 : Int} {x3 : Int} {x4 : Int} {x5 : Int}  (h : zJ x d 74 217 [some (.inr (.inl 1)), some (.inl x1), some (.inl x2), some (.inl (wr (x3 + (-2)))), some (.inl x4), some (.inl x5)] [] s Q) : zJ x d 74 180 [some (.inr (.inl 1)), some (.inl x1), some (.inl x2), some (.inl x3), some (.inl x4), some (.inl x5)] [] s Q := zJ_of (b := b74_180) (by rw [kBlk, kb_74]; rfl) h
set_option maxRecDepth 100000 in
theorem B74a_186 {x : List Int} {d : Nat} {s : zSt} {Q : zQ} {x1 : Int} {x2 : Int} {x3 : Int} {x4 : Int} {x5 : Int}  (h : (0 : Int) ≤ wr ((wr (x3 + (-1))) - 1) ∧ (wr ((wr (x3 + (-1))) - 1) : Int) < 121 ∧ ((0 : Int) ≤ wr (x3 + (-1)) ∧ (wr (x3 + (-1)) : Int) < 121 ∧ (zE x d 76 [.inl (wr (-x5)), .inl (s 14 (wr ((wr (x3 + (-1))) - 1)).toNat), .inl (s 14 (wr (x3 + (-1))).toNat)] s (fun r s1 => zJ x d 74 216 [some (.inr (.inl 1)), some (.inl x1), some (.inl x2), some (.inl (wr (x3 + (-1)))), some (.inl x4), some (.inl x5)] (zAp r [.inl (wr ((wr (x3 + (-1))) - 1)), .inr (.inl 14)]) s1 Q)))) : zJ x d 74 186 [some (.inr (.inl 1)), some (.inl x1), some (.inl x2), some (.inl x3), some (.inl x4), some (.inl x5)] [] s Q := zJ_of (b := b74_186) (by rw [kBlk, kb_74]; rfl) h
set_option maxRecDepth 100000 in
theorem B74a_216 {x : List Int} {d : Nat} {s : zSt} {Q : zQ} {x1 : Int} {x2 : Int} {x3 : Int} {x4 : Int} {x5 : Int} {y0 : Int} {y1 : Int}  (h : (0 : Int) ≤ y1 ∧ (y1 : Int) < 121 ∧ (zJ x d 74 217 [some (.inr (.inl 1)), some (.inl x1), some (.inl x2), some (.inl x3), some (.inl x4), some (.inl x5)] [] (zU s 14 (y1).toNat y0) Q)) : zJ x d 74 216 [some (.inr (.inl 1)), some (.inl x1), some (.inl x2), some (.inl x3), some (.inl x4), some (.inl x5)] [.inl y0, .inl y1, .inr (.inl 14)] s Q := zJ_of (b := b74_216) (by rw [kBlk, kb_74]; rfl) h
set_option maxRecDepth 100000 in
theorem B74a_217 {x : List Int} {d : Nat} {s : zSt} {Q : zQ} {x1 : Int} {x2 : Int} {x3 : Int} {x4 : Int} {x5 : Int}  (h : zJ x d 74 19 [some (.inr (.inl 1)), some (.inl x1), some (.inl x2), some (.inl x3), some (.inl (wr (x4 + 1))), some (.inl x5)] [] s Q) : zJ x d 74 217 [some (.inr (.inl 1)), some (.inl x1), some (.inl x2), some (.inl x3), some (.inl x4), some (.inl x5)] [] s Q := zJ_of (b := b74_217) (by rw [kBlk, kb_74]; rfl) h
set_option maxRecDepth 100000 in
theorem B74a_223 {x : List Int} {d : Nat} {s : zSt} {Q : zQ} {x1 : Int} {x2 : Int} {x3 : Int} {x4 : Int} {o5 : Option zV}  (h : Q (some (.inl 0)) s) : zJ x d 74 223 [some (.inr (.inl 1)), some (.inl x1), some (.inl x2), some (.inl x3), some (.inl x4), o5] [] s Q := zJ_of (b := b74_223) (by rw [kBlk, kb_74]; rfl) h
set_option maxRecDepth 100000 in
theorem N74a {x : List Int} {d : Nat} {s : zSt} {Q : zQ} {x1 : Int} {x2 : Int} (h : zJ x d 74 0 [some (.inr (.inl 1)), some (.inl x1), some (.inl x2), none, none, none] [] s Q) : zE x (d + 1) 74 [.inr (.inl 1), .inl x1, .inl x2] s Q := zE_of (n := 6) rfl rfl rfl rfl (fun h => (zLok_some (h _ (List.mem_of_getElem? (i := 0) rfl)) (zLok_some (h _ (List.mem_of_getElem? (i := 1) rfl)) (zLok_some (h _ (List.mem_of_getElem? (i := 2) rfl)) (zLok_none (zLok_none (zLok_none zLok_nil))))))) h
-- 74b: PennyALap$Law.gives
set_option maxRecDepth 100000 in
theorem B74b_0 {x : List Int} {d : Nat} {s : zSt} {Q : zQ} {x1 : Int} {x2 : Int}  (h : (0 : Int) ≤ 2 ∧ (2 : Int) < 6 ∧ ((0 : Int) ≤ 3 ∧ (3 : Int) < 6 ∧ (zJ x d 74 19 [some (.inr (.inl 1)), some (.inl x1), some (.inl x2), some (.inl 0), some (.inl 0), none] [] (zU (zU s 15 2 x1) 15 3 x2) Q))) : zJ x d 74 0 [some (.inr (.inl 1)), some (.inl x1), some (.inl x2), none, none, none] [] s Q := zJ_of (b := b74_0) (by rw [kBlk, kb_74]; rfl) h
set_option maxRecDepth 100000 in
theorem B74b_19 {x : List Int} {d : Nat} {s : zSt} {Q : zQ} {x1 : Int} {x2 : Int} {x3 : Int} {x4 : Int} {o5 : Option zV}  (h : (s 1 4 ≤ x4 → zJ x d 74 223 [some (.inr (.inl 1)), some (.inl x1), some (.inl x2), some (.inl x3), some (.inl x4), o5] [] s Q) ∧ (¬ (s 1 4 ≤ x4) → zJ x d 74 28 [some (.inr (.inl 1)), some (.inl x1), some (.inl x2), some (.inl x3), some (.inl x4), o5] [] s Q)) : zJ x d 74 19 [some (.inr (.inl 1)), some (.inl x1), some (.inl x2), some (.inl x3), some (.inl x4), o5] [] s Q := zJ_of (b := b74_19) (by rw [kBlk, kb_74]; rfl) h
set_option maxRecDepth 100000 in
theorem B74b_28 {x : List Int} {d : Nat} {s : zSt} {Q : zQ} {x1 : Int} {x2 : Int} {x3 : Int} {x4 : Int} {o5 : Option zV} (h3 : (s 1 3).toNat = 13) (h : (0 : Int) ≤ x4 ∧ (x4 : Int) < 121 ∧ ((s 13 (x4).toNat < (-6) → zJ x d 74 84 [some (.inr (.inl 1)), some (.inl x1), some (.inl x2), some (.inl x3), some (.inl x4), some (.inl (s 13 (x4).toNat))] [] s Q) ∧ (¬ (s 13 (x4).toNat < (-6)) → zJ x d 74 44 [some (.inr (.inl 1)), some (.inl x1), some (.inl x2), some (.inl x3), some (.inl x4), some (.inl (s 13 (x4).toNat))] [] s Q))) : zJ x d 74 28 [some (.inr (.inl 1)), some (.inl x1), some (.inl x2), some (.inl x3), some (.inl x4), o5] [] s Q := zJ_of (b := b74_28) (by rw [kBlk, kb_74]; rfl) (Eq.mpr (congrArg (fun q : Nat => zX zSh (zRo x) (zE x d) (zJ x d 74) (b74_28.drop 2) [some (.inr (.inl 1)), some (.inl x1), some (.inl x2), some (.inl x3), some (.inl x4), o5] (.inr (.inl q) :: []) s Q) (show (s 1 3).toNat = 13 from h3)) (show (fun q : Nat => zX zSh (zRo x) (zE x d) (zJ x d 74) (b74_28.drop 2) [some (.inr (.inl 1)), some (.inl x1), some (.inl x2), some (.inl x3), some (.inl x4), o5] (.inr (.inl q) :: []) s Q) 13 from h))
set_option maxRecDepth 100000 in
theorem B74b_44 {x : List Int} {d : Nat} {s : zSt} {Q : zQ} {x1 : Int} {x2 : Int} {x3 : Int} {x4 : Int} {x5 : Int}  (h : (121 ≤ x3 → zJ x d 74 84 [some (.inr (.inl 1)), some (.inl x1), some (.inl x2), some (.inl x3), some (.inl x4), some (.inl x5)] [] s Q) ∧ (¬ (121 ≤ x3) → zJ x d 74 53 [some (.inr (.inl 1)), some (.inl x1), some (.inl x2), some (.inl x3), some (.inl x4), some (.inl x5)] [] s Q)) : zJ x d 74 44 [some (.inr (.inl 1)), some (.inl x1), some (.inl x2), some (.inl x3), some (.inl x4), some (.inl x5)] [] s Q := zJ_of (b := b74_44) (by rw [kBlk, kb_74]; rfl) h
set_option maxRecDepth 100000 in
theorem B74b_53 {x : List Int} {d : Nat} {s : zSt} {Q : zQ} {x1 : Int} {x2 : Int} {x3 : Int} {x4 : Int} {x5 : Int}  (h : (x5 < 0 → zJ x d 74 68 [some (.inr (.inl 1)), some (.inl x1), some (.inl x2), some (.inl x3), some (.inl x4), some (.inl x5)] [.inl x3, .inr (.inl 14)] s Q) ∧ (¬ (x5 < 0) → zJ x d 74 63 [some (.inr (.inl 1)), some (.inl x1), some (.inl x2), some (.inl x3), some (.inl x4), some (.inl x5)] [.inl x3, .inr (.inl 14)] s Q)) : zJ x d 74 53 [some (.inr (.inl 1)), some (.inl x1), some (.inl x2), some (.inl x3), some (.inl x4), some (.inl x5)] [] s Q := zJ_of (b := b74_53) (by rw [kBlk, kb_74]; rfl) h
set_option maxRecDepth 100000 in
theorem B74b_63 {x : List Int} {d : Nat} {s : zSt} {Q : zQ} {x1 : Int} {x2 : Int} {x3 : Int} {x4 : Int} {x5 : Int} {y0 : Int}  (h : zJ x d 74 77 [some (.inr (.inl 1)), some (.inl x1), some (.inl x2), some (.inl x3), some (.inl x4), some (.inl x5)] [.inl x5, .inl y0, .inr (.inl 14)] s Q) : zJ x d 74 63 [some (.inr (.inl 1)), some (.inl x1), some (.inl x2), some (.inl x3), some (.inl x4), some (.inl x5)] [.inl y0, .inr (.inl 14)] s Q := zJ_of (b := b74_63) (by rw [kBlk, kb_74]; rfl) h
set_option maxRecDepth 100000 in
theorem B74b_68 {x : List Int} {d : Nat} {s : zSt} {Q : zQ} {x1 : Int} {x2 : Int} {x3 : Int} {x4 : Int} {x5 : Int} {y0 : Int}  (h : (0 : Int) ≤ wr ((-1) - x5) ∧ (wr ((-1) - x5) : Int) < 6 ∧ (zJ x d 74 77 [some (.inr (.inl 1)), some (.inl x1), some (.inl x2), some (.inl x3), some (.inl x4), some (.inl x5)] [.inl (s 15 (wr ((-1) - x5)).toNat), .inl y0, .inr (.inl 14)] s Q)) : zJ x d 74 68 [some (.inr (.inl 1)), some (.inl x1), some (.inl x2), some (.inl x3), some (.inl x4), some (.inl x5)] [.inl y0, .inr (.inl 14)] s Q := zJ_of (b := b74_68) (by rw [kBlk, kb_74]; rfl) h
set_option maxRecDepth 100000 in
theorem B74b_77 {x : List Int} {d : Nat} {s : zSt} {Q : zQ} {x1 : Int} {x2 : Int} {x3 : Int} {x4 : Int} {x5 : Int} {y0 : Int} {y1 : Int}  (h : (0 : Int) ≤ y1 ∧ (y1 : Int) < 121 ∧ (zJ x d 74 217 [some (.inr (.inl 1)), some (.inl x1), some (.inl x2), some (.inl (wr (x3 + 1))), some (.inl x4), some (.inl x5)] [] (zU s 14 (y1).toNat y0) Q)) : zJ x d 74 77 [some (.inr (.inl 1)), some (.inl x1), some (.inl x2), some (.inl x3), some (.inl x4), some (.inl x5)] [.inl y0, .inl y1, .inr (.inl 14)] s Q := zJ_of (b := b74_77) (by rw [kBlk, kb_74]; rfl) h
set_option maxRecDepth 100000 in
theorem B74b_84 {x : List Int} {d : Nat} {s : zSt} {Q : zQ} {x1 : Int} {x2 : Int} {x3 : Int} {x4 : Int} {x5 : Int}  (h : (1 ≤ x3 → zJ x d 74 91 [some (.inr (.inl 1)), some (.inl x1), some (.inl x2), some (.inl x3), some (.inl x4), some (.inl x5)] [] s Q) ∧ (¬ (1 ≤ x3) → zJ x d 74 89 [some (.inr (.inl 1)), some (.inl x1), some (.inl x2), some (.inl x3), some (.inl x4), some (.inl x5)] [] s Q)) : zJ x d 74 84 [some (.inr (.inl 1)), some (.inl x1), some (.inl x2), some (.inl x3), some (.inl x4), some (.inl x5)] [] s Q := zJ_of (b := b74_84) (by rw [kBlk, kb_74]; rfl) h
set_option maxRecDepth 100000 in
theorem B74b_89 {x : List Int} {d : Nat} {s : zSt} {Q : zQ} {x1 : Int} {x2 : Int} {x3 : Int} {x4 : Int} {x5 : Int}  (h : Q (some (.inl 0)) s) : zJ x d 74 89 [some (.inr (.inl 1)), some (.inl x1), some (.inl x2), some (.inl x3), some (.inl x4), some (.inl x5)] [] s Q := zJ_of (b := b74_89) (by rw [kBlk, kb_74]; rfl) h
set_option maxRecDepth 100000 in
theorem B74b_91 {x : List Int} {d : Nat} {s : zSt} {Q : zQ} {x1 : Int} {x2 : Int} {x3 : Int} {x4 : Int} {x5 : Int}  (h : (¬ x5 = (-59) → zJ x d 74 107 [some (.inr (.inl 1)), some (.inl x1), some (.inl x2), some (.inl x3), some (.inl x4), some (.inl x5)] [] s Q) ∧ (¬ (¬ x5 = (-59)) → zJ x d 74 98 [some (.inr (.inl 1)), some (.inl x1), some (.inl x2), some (.inl x3), some (.inl x4), some (.inl x5)] [] s Q)) : zJ x d 74 91 [some (.inr (.inl 1)), some (.inl x1), some (.inl x2), some (.inl x3), some (.inl x4), some (.inl x5)] [] s Q := zJ_of (b := b74_91) (by rw [kBlk, kb_74]; rfl) h
set_option maxRecDepth 100000 in
theorem B74b_98 {x : List Int} {d : Nat} {s : zSt} {Q : zQ} {x1 : Int} {x2 : Int} {x3 : Int} {x4 : Int} {x5 : Int}  (h : (0 : Int) ≤ wr (x3 - 1) ∧ (wr (x3 - 1) : Int) < 121 ∧ (Q (some (.inl (s 14 (wr (x3 - 1)).toNat))) s)) : zJ x d 74 98 [some (.inr (.inl 1)), some (.inl x1), some (.inl x2), some (.inl x3), some (.inl x4), some (.inl x5)] [] s Q := zJ_of (b := b74_98) (by rw [kBlk, kb_74]; rfl) h
set_option maxRecDepth 100000 in
theorem B74b_107 {x : List Int} {d : Nat} {s : zSt} {Q : zQ} {x1 : Int} {x2 : Int} {x3 : Int} {x4 : Int} {x5 : Int}  (h : (x5 = (-33) → zJ x d 74 121 [some (.inr (.inl 1)), some (.inl x1), some (.inl x2), some (.inl x3), some (.inl x4), some (.inl x5)] [] s Q) ∧ (¬ (x5 = (-33)) → zJ x d 74 114 [some (.inr (.inl 1)), some (.inl x1), some (.inl x2), some (.inl x3), some (.inl x4), some (.inl x5)] [] s Q)) : zJ x d 74 107 [some (.inr (.inl 1)), some (.inl x1), some (.inl x2), some (.inl x3), some (.inl x4), some (.inl x5)] [] s Q := zJ_of (b := b74_107) (by rw [kBlk, kb_74]; rfl) h
set_option maxRecDepth 100000 in
theorem B74b_114 {x : List Int} {d : Nat} {s : zSt} {Q : zQ} {x1 : Int} {x2 : Int} {x3 : Int} {x4 : Int} {x5 : Int}  (h : (¬ x5 = (-110) → zJ x d 74 146 [some (.inr (.inl 1)), some (.inl x1), some (.inl x2), some (.inl x3), some (.inl x4), some (.inl x5)] [] s Q) ∧ (¬ (¬ x5 = (-110)) → zJ x d 74 121 [some (.inr (.inl 1)), some (.inl x1), some (.inl x2), some (.inl x3), some (.inl x4), some (.inl x5)] [] s Q)) : zJ x d 74 114 [some (.inr (.inl 1)), some (.inl x1), some (.inl x2), some (.inl x3), some (.inl x4), some (.inl x5)] [] s Q := zJ_of (b := b74_114) (by rw [kBlk, kb_74]; rfl) h
set_option maxRecDepth 100000 in
theorem B74b_121 {x : List Int} {d : Nat} {s : zSt} {Q : zQ} {x1 : Int} {x2 : Int} {x3 : Int} {x4 : Int} {x5 : Int}  (h : (0 : Int) ≤ wr (x3 - 1) ∧ (wr (x3 - 1) : Int) < 121 ∧ (zE x d 75 [.inl (wr (-x5)), .inl (s 14 (wr (x3 - 1)).toNat)] s (fun r s1 => zJ x d 74 142 [some (.inr (.inl 1)), some (.inl x1), some (.inl x2), some (.inl x3), some (.inl x4), some (.inl x5)] (zAp r [.inl (wr (x3 - 1)), .inr (.inl 14)]) s1 Q))) : zJ x d 74 121 [some (.inr (.inl 1)), some (.inl x1), some (.inl x2), some (.inl x3), some (.inl x4), some (.inl x5)] [] s Q := zJ_of (b := b74_121) (by rw [kBlk, kb_74]; rfl) h
set_option maxRecDepth 100000 in
theorem B74b_142 {x : List Int} {d : Nat} {s : zSt} {Q : zQ} {x1 : Int} {x2 : Int} {x3 : Int} {x4 : Int} {x5 : Int} {y0 : Int} {y1 : Int}  (h : (0 : Int) ≤ y1 ∧ (y1 : Int) < 121 ∧ (zJ x d 74 217 [some (.inr (.inl 1)), some (.inl x1), some (.inl x2), some (.inl x3), some (.inl x4), some (.inl x5)] [] (zU s 14 (y1).toNat y0) Q)) : zJ x d 74 142 [some (.inr (.inl 1)), some (.inl x1), some (.inl x2), some (.inl x3), some (.inl x4), some (.inl x5)] [.inl y0, .inl y1, .inr (.inl 14)] s Q := zJ_of (b := b74_142) (by rw [kBlk, kb_74]; rfl) h
set_option maxRecDepth 100000 in
theorem B74b_146 {x : List Int} {d : Nat} {s : zSt} {Q : zQ} {x1 : Int} {x2 : Int} {x3 : Int} {x4 : Int} {x5 : Int}  (h : (2 ≤ x3 → zJ x d 74 153 [some (.inr (.inl 1)), some (.inl x1), some (.inl x2), some (.inl x3), some (.inl x4), some (.inl x5)] [] s Q) ∧ (¬ (2 ≤ x3) → zJ x d 74 151 [some (.inr (.inl 1)), some (.inl x1), some (.inl x2), some (.inl x3), some (.inl x4), some (.inl x5)] [] s Q)) : zJ x d 74 146 [some (.inr (.inl 1)), some (.inl x1), some (.inl x2), some (.inl x3), some (.inl x4), some (.inl x5)] [] s Q := zJ_of (b := b74_146) (by rw [kBlk, kb_74]; rfl) h
set_option maxRecDepth 100000 in
theorem B74b_151 {x : List Int} {d : Nat} {s : zSt} {Q : zQ} {x1 : Int} {x2 : Int} {x3 : Int} {x4 : Int} {x5 : Int}  (h : Q (some (.inl 0)) s) : zJ x d 74 151 [some (.inr (.inl 1)), some (.inl x1), some (.inl x2), some (.inl x3), some (.inl x4), some (.inl x5)] [] s Q := zJ_of (b := b74_151) (by rw [kBlk, kb_74]; rfl) h
set_option maxRecDepth 100000 in
theorem B74b_153 {x : List Int} {d : Nat} {s : zSt} {Q : zQ} {x1 : Int} {x2 : Int} {x3 : Int} {x4 : Int} {x5 : Int}  (h : (¬ x5 = (-63) → zJ x d 74 186 [some (.inr (.inl 1)), some (.inl x1), some (.inl x2), some (.inl x3), some (.inl x4), some (.inl x5)] [] s Q) ∧ (¬ (¬ x5 = (-63)) → zJ x d 74 160 [some (.inr (.inl 1)), some (.inl x1), some (.inl x2), some (.inl x3), some (.inl x4), some (.inl x5)] [] s Q)) : zJ x d 74 153 [some (.inr (.inl 1)), some (.inl x1), some (.inl x2), some (.inl x3), some (.inl x4), some (.inl x5)] [] s Q := zJ_of (b := b74_153) (by rw [kBlk, kb_74]; rfl) h
set_option maxRecDepth 100000 in
theorem B74b_160 {x : List Int} {d : Nat} {s : zSt} {Q : zQ} {x1 : Int} {x2 : Int} {x3 : Int} {x4 : Int} {x5 : Int}  (h : (0 : Int) ≤ wr (x3 - 2) ∧ (wr (x3 - 2) : Int) < 121 ∧ ((s 14 (wr (x3 - 2)).toNat = 0 → zJ x d 74 180 [some (.inr (.inl 1)), some (.inl x1), some (.inl x2), some (.inl x3), some (.inl x4), some (.inl x5)] [] s Q) ∧ (¬ (s 14 (wr (x3 - 2)).toNat = 0) → zJ x d 74 171 [some (.inr (.inl 1)), some (.inl x1), some (.inl x2), some (.inl x3), some (.inl x4), some (.inl x5)] [] s Q))) : zJ x d 74 160 [some (.inr (.inl 1)), some (.inl x1), some (.inl x2), some (.inl x3), some (.inl x4), some (.inl x5)] [] s Q := zJ_of (b := b74_160) (by rw [kBlk, kb_74]; rfl) h
set_option maxRecDepth 100000 in
theorem B74b_171 {x : List Int} {d : Nat} {s : zSt} {Q : zQ} {x1 : Int} {x2 : Int} {x3 : Int} {x4 : Int} {x5 : Int}  (h : (0 : Int) ≤ wr (x3 - 1) ∧ (wr (x3 - 1) : Int) < 121 ∧ (Q (some (.inl (s 14 (wr (x3 - 1)).toNat))) s)) : zJ x d 74 171 [some (.inr (.inl 1)), some (.inl x1), some (.inl x2), some (.inl x3), some (.inl x4), some (.inl x5)] [] s Q := zJ_of (b := b74_171) (by rw [kBlk, kb_74]; rfl) h
set_option maxRecDepth 100000 in
theorem B74b_180 {x : List Int} {d : Nat} {s : zSt} {Q : zQ} {x1 : Int} {x2 : Int} {x3 : Int} {x4 : Int} {x5 : Int}  (h : zJ x d 74 217 [some (.inr (.inl 1)), some (.inl x1), some (.inl x2), some (.inl (wr (x3 + (-2)))), some (.inl x4), some (.inl x5)] [] s Q) : zJ x d 74 180 [some (.inr (.inl 1)), some (.inl x1), some (.inl x2), some (.inl x3), some (.inl x4), some (.inl x5)] [] s Q := zJ_of (b := b74_180) (by rw [kBlk, kb_74]; rfl) h
set_option maxRecDepth 100000 in
theorem B74b_186 {x : List Int} {d : Nat} {s : zSt} {Q : zQ} {x1 : Int} {x2 : Int} {x3 : Int} {x4 : Int} {x5 : Int}  (h : (0 : Int) ≤ wr ((wr (x3 + (-1))) - 1) ∧ (wr ((wr (x3 + (-1))) - 1) : Int) < 121 ∧ ((0 : Int) ≤ wr (x3 + (-1)) ∧ (wr (x3 + (-1)) : Int) < 121 ∧ (zE x d 76 [.inl (wr (-x5)), .inl (s 14 (wr ((wr (x3 + (-1))) - 1)).toNat), .inl (s 14 (wr (x3 + (-1))).toNat)] s (fun r s1 => zJ x d 74 216 [some (.inr (.inl 1)), some (.inl x1), some (.inl x2), some (.inl (wr (x3 + (-1)))), some (.inl x4), some (.inl x5)] (zAp r [.inl (wr ((wr (x3 + (-1))) - 1)), .inr (.inl 14)]) s1 Q)))) : zJ x d 74 186 [some (.inr (.inl 1)), some (.inl x1), some (.inl x2), some (.inl x3), some (.inl x4), some (.inl x5)] [] s Q := zJ_of (b := b74_186) (by rw [kBlk, kb_74]; rfl) h
set_option maxRecDepth 100000 in
theorem B74b_216 {x : List Int} {d : Nat} {s : zSt} {Q : zQ} {x1 : Int} {x2 : Int} {x3 : Int} {x4 : Int} {x5 : Int} {y0 : Int} {y1 : Int}  (h : (0 : Int) ≤ y1 ∧ (y1 : Int) < 121 ∧ (zJ x d 74 217 [some (.inr (.inl 1)), some (.inl x1), some (.inl x2), some (.inl x3), some (.inl x4), some (.inl x5)] [] (zU s 14 (y1).toNat y0) Q)) : zJ x d 74 216 [some (.inr (.inl 1)), some (.inl x1), some (.inl x2), some (.inl x3), some (.inl x4), some (.inl x5)] [.inl y0, .inl y1, .inr (.inl 14)] s Q := zJ_of (b := b74_216) (by rw [kBlk, kb_74]; rfl) h
set_option maxRecDepth 100000 in
theorem B74b_217 {x : List Int} {d : Nat} {s : zSt} {Q : zQ} {x1 : Int} {x2 : Int} {x3 : Int} {x4 : Int} {x5 : Int}  (h : zJ x d 74 19 [some (.inr (.inl 1)), some (.inl x1), some (.inl x2), some (.inl x3), some (.inl (wr (x4 + 1))), some (.inl x5)] [] s Q) : zJ x d 74 217 [some (.inr (.inl 1)), some (.inl x1), some (.inl x2), some (.inl x3), some (.inl x4), some (.inl x5)] [] s Q := zJ_of (b := b74_217) (by rw [kBlk, kb_74]; rfl) h
set_option maxRecDepth 100000 in
theorem B74b_223 {x : List Int} {d : Nat} {s : zSt} {Q : zQ} {x1 : Int} {x2 : Int} {x3 : Int} {x4 : Int} {o5 : Option zV}  (h : Q (some (.inl 0)) s) : zJ x d 74 223 [some (.inr (.inl 1)), some (.inl x1), some (.inl x2), some (.inl x3), some (.inl x4), o5] [] s Q := zJ_of (b := b74_223) (by rw [kBlk, kb_74]; rfl) h
set_option maxRecDepth 100000 in
theorem N74b {x : List Int} {d : Nat} {s : zSt} {Q : zQ} {x1 : Int} {x2 : Int} (h : zJ x d 74 0 [some (.inr (.inl 1)), some (.inl x1), some (.inl x2), none, none, none] [] s Q) : zE x (d + 1) 74 [.inr (.inl 1), .inl x1, .inl x2] s Q := zE_of (n := 6) rfl rfl rfl rfl (fun h => (zLok_some (h _ (List.mem_of_getElem? (i := 0) rfl)) (zLok_some (h _ (List.mem_of_getElem? (i := 1) rfl)) (zLok_some (h _ (List.mem_of_getElem? (i := 2) rfl)) (zLok_none (zLok_none (zLok_none zLok_nil))))))) h
-- 75: PennyALap$Law.turned
set_option maxRecDepth 100000 in
theorem kb_75 : kBls.getD 75 [] = c75 := rfl
set_option maxRecDepth 100000 in
theorem B75_0 {x : List Int} {d : Nat} {s : zSt} {Q : zQ} {x0 : Int} {x1 : Int}  (h : (¬ x0 = 33 → zJ x d 75 21 [some (.inl x0), some (.inl x1)] [] s Q) ∧ (¬ (¬ x0 = 33) → (¬ x1 = 0 → zJ x d 75 14 [some (.inl x0), some (.inl x1)] [] s Q) ∧ (¬ (¬ x1 = 0) → zJ x d 75 15 [some (.inl x0), some (.inl x1)] [.inl 1] s Q))) : zJ x d 75 0 [some (.inl x0), some (.inl x1)] [] s Q := zJ_of (b := b75_0) (by rw [kBlk, kb_75]; rfl) h
set_option maxRecDepth 100000 in
theorem B75_14 {x : List Int} {d : Nat} {s : zSt} {Q : zQ} {x0 : Int} {x1 : Int}  (h : zJ x d 75 15 [some (.inl x0), some (.inl x1)] [.inl 0] s Q) : zJ x d 75 14 [some (.inl x0), some (.inl x1)] [] s Q := zJ_of (b := b75_14) (by rw [kBlk, kb_75]; rfl) h
set_option maxRecDepth 100000 in
theorem B75_15 {x : List Int} {d : Nat} {s : zSt} {Q : zQ} {x0 : Int} {x1 : Int} {y0 : Int}  (h : zE x d 77 [.inl y0] s (fun r s1 => zJ x d 75 18 [some (.inl x0), some (.inl x1)] (zAp r []) s1 Q)) : zJ x d 75 15 [some (.inl x0), some (.inl x1)] [.inl y0] s Q := zJ_of (b := b75_15) (by rw [kBlk, kb_75]; rfl) h
set_option maxRecDepth 100000 in
theorem B75_18 {x : List Int} {d : Nat} {s : zSt} {Q : zQ} {x0 : Int} {x1 : Int} {y0 : Int}  (h : zJ x d 75 23 [some (.inl x0), some (.inl x1)] [.inl y0] s Q) : zJ x d 75 18 [some (.inl x0), some (.inl x1)] [.inl y0] s Q := zJ_of (b := b75_18) (by rw [kBlk, kb_75]; rfl) h
set_option maxRecDepth 100000 in
theorem B75_21 {x : List Int} {d : Nat} {s : zSt} {Q : zQ} {x0 : Int} {x1 : Int}  (h : zJ x d 75 23 [some (.inl x0), some (.inl x1)] [.inl (wr (-x1))] s Q) : zJ x d 75 21 [some (.inl x0), some (.inl x1)] [] s Q := zJ_of (b := b75_21) (by rw [kBlk, kb_75]; rfl) h
set_option maxRecDepth 100000 in
theorem B75_23 {x : List Int} {d : Nat} {s : zSt} {Q : zQ} {x0 : Int} {x1 : Int} {y0 : Int}  (h : Q (some (.inl y0)) s) : zJ x d 75 23 [some (.inl x0), some (.inl x1)] [.inl y0] s Q := zJ_of (b := b75_23) (by rw [kBlk, kb_75]; rfl) h
set_option maxRecDepth 100000 in
theorem N75 {x : List Int} {d : Nat} {s : zSt} {Q : zQ} {x0 : Int} {x1 : Int} (h : zJ x d 75 0 [some (.inl x0), some (.inl x1)] [] s Q) : zE x (d + 1) 75 [.inl x0, .inl x1] s Q := zE_of (n := 2) rfl rfl rfl rfl (fun h => (zLok_some (h _ (List.mem_of_getElem? (i := 0) rfl)) (zLok_some (h _ (List.mem_of_getElem? (i := 1) rfl)) zLok_nil))) h
-- 76: PennyALap$Law.joined
set_option maxRecDepth 100000 in
theorem kb_76 : kBls.getD 76 [] = c76 := rfl
set_option maxRecDepth 100000 in
theorem B76_0 {x : List Int} {d : Nat} {s : zSt} {Q : zQ} {x0 : Int} {x1 : Int} {x2 : Int}  (h : (x0 = 37 → zJ x d 76 192 [some (.inl x0), some (.inl x1), some (.inl x2)] [] s Q) ∧ (¬ x0 = 37 → (x0 = 38 → zJ x d 76 109 [some (.inl x0), some (.inl x1), some (.inl x2)] [] s Q) ∧ (¬ x0 = 38 → (x0 = 42 → zJ x d 76 176 [some (.inl x0), some (.inl x1), some (.inl x2)] [] s Q) ∧ (¬ x0 = 42 → (x0 = 43 → zJ x d 76 168 [some (.inl x0), some (.inl x1), some (.inl x2)] [] s Q) ∧ (¬ x0 = 43 → (x0 = 45 → zJ x d 76 172 [some (.inl x0), some (.inl x1), some (.inl x2)] [] s Q) ∧ (¬ x0 = 45 → (x0 = 47 → zJ x d 76 180 [some (.inl x0), some (.inl x1), some (.inl x2)] [] s Q) ∧ (¬ x0 = 47 → (x0 = 60 → zJ x d 76 126 [some (.inl x0), some (.inl x1), some (.inl x2)] [] s Q) ∧ (¬ x0 = 60 → (x0 = 61 → zJ x d 76 140 [some (.inl x0), some (.inl x1), some (.inl x2)] [] s Q) ∧ (¬ x0 = 61 → (x0 = 62 → zJ x d 76 154 [some (.inl x0), some (.inl x1), some (.inl x2)] [] s Q) ∧ (¬ x0 = 62 → (x0 = 124 → zJ x d 76 92 [some (.inl x0), some (.inl x1), some (.inl x2)] [] s Q) ∧ (¬ x0 = 124 → zJ x d 76 204 [some (.inl x0), some (.inl x1), some (.inl x2)] [] s Q))))))))))) : zJ x d 76 0 [some (.inl x0), some (.inl x1), some (.inl x2)] [] s Q := zJ_of (b := b76_0) (by rw [kBlk, kb_76]; rfl) h
set_option maxRecDepth 100000 in
theorem B76_92 {x : List Int} {d : Nat} {s : zSt} {Q : zQ} {x0 : Int} {x1 : Int} {x2 : Int}  (h : (¬ x1 = 0 → zJ x d 76 100 [some (.inl x0), some (.inl x1), some (.inl x2)] [] s Q) ∧ (¬ (¬ x1 = 0) → (x2 = 0 → zJ x d 76 104 [some (.inl x0), some (.inl x1), some (.inl x2)] [] s Q) ∧ (¬ (x2 = 0) → zJ x d 76 100 [some (.inl x0), some (.inl x1), some (.inl x2)] [] s Q))) : zJ x d 76 92 [some (.inl x0), some (.inl x1), some (.inl x2)] [] s Q := zJ_of (b := b76_92) (by rw [kBlk, kb_76]; rfl) h
set_option maxRecDepth 100000 in
theorem B76_100 {x : List Int} {d : Nat} {s : zSt} {Q : zQ} {x0 : Int} {x1 : Int} {x2 : Int}  (h : zJ x d 76 105 [some (.inl x0), some (.inl x1), some (.inl x2)] [.inl 1] s Q) : zJ x d 76 100 [some (.inl x0), some (.inl x1), some (.inl x2)] [] s Q := zJ_of (b := b76_100) (by rw [kBlk, kb_76]; rfl) h
set_option maxRecDepth 100000 in
theorem B76_104 {x : List Int} {d : Nat} {s : zSt} {Q : zQ} {x0 : Int} {x1 : Int} {x2 : Int}  (h : zJ x d 76 105 [some (.inl x0), some (.inl x1), some (.inl x2)] [.inl 0] s Q) : zJ x d 76 104 [some (.inl x0), some (.inl x1), some (.inl x2)] [] s Q := zJ_of (b := b76_104) (by rw [kBlk, kb_76]; rfl) h
set_option maxRecDepth 100000 in
theorem B76_105 {x : List Int} {d : Nat} {s : zSt} {Q : zQ} {x0 : Int} {x1 : Int} {x2 : Int} {y0 : Int}  (h : zE x d 77 [.inl y0] s (fun r s1 => zJ x d 76 108 [some (.inl x0), some (.inl x1), some (.inl x2)] (zAp r []) s1 Q)) : zJ x d 76 105 [some (.inl x0), some (.inl x1), some (.inl x2)] [.inl y0] s Q := zJ_of (b := b76_105) (by rw [kBlk, kb_76]; rfl) h
set_option maxRecDepth 100000 in
theorem B76_108 {x : List Int} {d : Nat} {s : zSt} {Q : zQ} {x0 : Int} {x1 : Int} {x2 : Int} {y0 : Int}  (h : Q (some (.inl y0)) s) : zJ x d 76 108 [some (.inl x0), some (.inl x1), some (.inl x2)] [.inl y0] s Q := zJ_of (b := b76_108) (by rw [kBlk, kb_76]; rfl) h
set_option maxRecDepth 100000 in
theorem B76_109 {x : List Int} {d : Nat} {s : zSt} {Q : zQ} {x0 : Int} {x1 : Int} {x2 : Int}  (h : (x1 = 0 → zJ x d 76 121 [some (.inl x0), some (.inl x1), some (.inl x2)] [] s Q) ∧ (¬ (x1 = 0) → (x2 = 0 → zJ x d 76 121 [some (.inl x0), some (.inl x1), some (.inl x2)] [] s Q) ∧ (¬ (x2 = 0) → zJ x d 76 122 [some (.inl x0), some (.inl x1), some (.inl x2)] [.inl 1] s Q))) : zJ x d 76 109 [some (.inl x0), some (.inl x1), some (.inl x2)] [] s Q := zJ_of (b := b76_109) (by rw [kBlk, kb_76]; rfl) h
set_option maxRecDepth 100000 in
theorem B76_121 {x : List Int} {d : Nat} {s : zSt} {Q : zQ} {x0 : Int} {x1 : Int} {x2 : Int}  (h : zJ x d 76 122 [some (.inl x0), some (.inl x1), some (.inl x2)] [.inl 0] s Q) : zJ x d 76 121 [some (.inl x0), some (.inl x1), some (.inl x2)] [] s Q := zJ_of (b := b76_121) (by rw [kBlk, kb_76]; rfl) h
set_option maxRecDepth 100000 in
theorem B76_122 {x : List Int} {d : Nat} {s : zSt} {Q : zQ} {x0 : Int} {x1 : Int} {x2 : Int} {y0 : Int}  (h : zE x d 77 [.inl y0] s (fun r s1 => zJ x d 76 125 [some (.inl x0), some (.inl x1), some (.inl x2)] (zAp r []) s1 Q)) : zJ x d 76 122 [some (.inl x0), some (.inl x1), some (.inl x2)] [.inl y0] s Q := zJ_of (b := b76_122) (by rw [kBlk, kb_76]; rfl) h
set_option maxRecDepth 100000 in
theorem B76_125 {x : List Int} {d : Nat} {s : zSt} {Q : zQ} {x0 : Int} {x1 : Int} {x2 : Int} {y0 : Int}  (h : Q (some (.inl y0)) s) : zJ x d 76 125 [some (.inl x0), some (.inl x1), some (.inl x2)] [.inl y0] s Q := zJ_of (b := b76_125) (by rw [kBlk, kb_76]; rfl) h
set_option maxRecDepth 100000 in
theorem B76_126 {x : List Int} {d : Nat} {s : zSt} {Q : zQ} {x0 : Int} {x1 : Int} {x2 : Int}  (h : (x2 ≤ x1 → zJ x d 76 135 [some (.inl x0), some (.inl x1), some (.inl x2)] [] s Q) ∧ (¬ (x2 ≤ x1) → zJ x d 76 136 [some (.inl x0), some (.inl x1), some (.inl x2)] [.inl 1] s Q)) : zJ x d 76 126 [some (.inl x0), some (.inl x1), some (.inl x2)] [] s Q := zJ_of (b := b76_126) (by rw [kBlk, kb_76]; rfl) h
set_option maxRecDepth 100000 in
theorem B76_135 {x : List Int} {d : Nat} {s : zSt} {Q : zQ} {x0 : Int} {x1 : Int} {x2 : Int}  (h : zJ x d 76 136 [some (.inl x0), some (.inl x1), some (.inl x2)] [.inl 0] s Q) : zJ x d 76 135 [some (.inl x0), some (.inl x1), some (.inl x2)] [] s Q := zJ_of (b := b76_135) (by rw [kBlk, kb_76]; rfl) h
set_option maxRecDepth 100000 in
theorem B76_136 {x : List Int} {d : Nat} {s : zSt} {Q : zQ} {x0 : Int} {x1 : Int} {x2 : Int} {y0 : Int}  (h : zE x d 77 [.inl y0] s (fun r s1 => zJ x d 76 139 [some (.inl x0), some (.inl x1), some (.inl x2)] (zAp r []) s1 Q)) : zJ x d 76 136 [some (.inl x0), some (.inl x1), some (.inl x2)] [.inl y0] s Q := zJ_of (b := b76_136) (by rw [kBlk, kb_76]; rfl) h
set_option maxRecDepth 100000 in
theorem B76_139 {x : List Int} {d : Nat} {s : zSt} {Q : zQ} {x0 : Int} {x1 : Int} {x2 : Int} {y0 : Int}  (h : Q (some (.inl y0)) s) : zJ x d 76 139 [some (.inl x0), some (.inl x1), some (.inl x2)] [.inl y0] s Q := zJ_of (b := b76_139) (by rw [kBlk, kb_76]; rfl) h
set_option maxRecDepth 100000 in
theorem B76_140 {x : List Int} {d : Nat} {s : zSt} {Q : zQ} {x0 : Int} {x1 : Int} {x2 : Int}  (h : (¬ x1 = x2 → zJ x d 76 149 [some (.inl x0), some (.inl x1), some (.inl x2)] [] s Q) ∧ (¬ (¬ x1 = x2) → zJ x d 76 150 [some (.inl x0), some (.inl x1), some (.inl x2)] [.inl 1] s Q)) : zJ x d 76 140 [some (.inl x0), some (.inl x1), some (.inl x2)] [] s Q := zJ_of (b := b76_140) (by rw [kBlk, kb_76]; rfl) h
set_option maxRecDepth 100000 in
theorem B76_149 {x : List Int} {d : Nat} {s : zSt} {Q : zQ} {x0 : Int} {x1 : Int} {x2 : Int}  (h : zJ x d 76 150 [some (.inl x0), some (.inl x1), some (.inl x2)] [.inl 0] s Q) : zJ x d 76 149 [some (.inl x0), some (.inl x1), some (.inl x2)] [] s Q := zJ_of (b := b76_149) (by rw [kBlk, kb_76]; rfl) h
set_option maxRecDepth 100000 in
theorem B76_150 {x : List Int} {d : Nat} {s : zSt} {Q : zQ} {x0 : Int} {x1 : Int} {x2 : Int} {y0 : Int}  (h : zE x d 77 [.inl y0] s (fun r s1 => zJ x d 76 153 [some (.inl x0), some (.inl x1), some (.inl x2)] (zAp r []) s1 Q)) : zJ x d 76 150 [some (.inl x0), some (.inl x1), some (.inl x2)] [.inl y0] s Q := zJ_of (b := b76_150) (by rw [kBlk, kb_76]; rfl) h
set_option maxRecDepth 100000 in
theorem B76_153 {x : List Int} {d : Nat} {s : zSt} {Q : zQ} {x0 : Int} {x1 : Int} {x2 : Int} {y0 : Int}  (h : Q (some (.inl y0)) s) : zJ x d 76 153 [some (.inl x0), some (.inl x1), some (.inl x2)] [.inl y0] s Q := zJ_of (b := b76_153) (by rw [kBlk, kb_76]; rfl) h
set_option maxRecDepth 100000 in
theorem B76_154 {x : List Int} {d : Nat} {s : zSt} {Q : zQ} {x0 : Int} {x1 : Int} {x2 : Int}  (h : (x1 ≤ x2 → zJ x d 76 163 [some (.inl x0), some (.inl x1), some (.inl x2)] [] s Q) ∧ (¬ (x1 ≤ x2) → zJ x d 76 164 [some (.inl x0), some (.inl x1), some (.inl x2)] [.inl 1] s Q)) : zJ x d 76 154 [some (.inl x0), some (.inl x1), some (.inl x2)] [] s Q := zJ_of (b := b76_154) (by rw [kBlk, kb_76]; rfl) h
set_option maxRecDepth 100000 in
theorem B76_163 {x : List Int} {d : Nat} {s : zSt} {Q : zQ} {x0 : Int} {x1 : Int} {x2 : Int}  (h : zJ x d 76 164 [some (.inl x0), some (.inl x1), some (.inl x2)] [.inl 0] s Q) : zJ x d 76 163 [some (.inl x0), some (.inl x1), some (.inl x2)] [] s Q := zJ_of (b := b76_163) (by rw [kBlk, kb_76]; rfl) h
set_option maxRecDepth 100000 in
theorem B76_164 {x : List Int} {d : Nat} {s : zSt} {Q : zQ} {x0 : Int} {x1 : Int} {x2 : Int} {y0 : Int}  (h : zE x d 77 [.inl y0] s (fun r s1 => zJ x d 76 167 [some (.inl x0), some (.inl x1), some (.inl x2)] (zAp r []) s1 Q)) : zJ x d 76 164 [some (.inl x0), some (.inl x1), some (.inl x2)] [.inl y0] s Q := zJ_of (b := b76_164) (by rw [kBlk, kb_76]; rfl) h
set_option maxRecDepth 100000 in
theorem B76_167 {x : List Int} {d : Nat} {s : zSt} {Q : zQ} {x0 : Int} {x1 : Int} {x2 : Int} {y0 : Int}  (h : Q (some (.inl y0)) s) : zJ x d 76 167 [some (.inl x0), some (.inl x1), some (.inl x2)] [.inl y0] s Q := zJ_of (b := b76_167) (by rw [kBlk, kb_76]; rfl) h
set_option maxRecDepth 100000 in
theorem B76_168 {x : List Int} {d : Nat} {s : zSt} {Q : zQ} {x0 : Int} {x1 : Int} {x2 : Int}  (h : Q (some (.inl (wr (x1 + x2)))) s) : zJ x d 76 168 [some (.inl x0), some (.inl x1), some (.inl x2)] [] s Q := zJ_of (b := b76_168) (by rw [kBlk, kb_76]; rfl) h
set_option maxRecDepth 100000 in
theorem B76_172 {x : List Int} {d : Nat} {s : zSt} {Q : zQ} {x0 : Int} {x1 : Int} {x2 : Int}  (h : Q (some (.inl (wr (x1 - x2)))) s) : zJ x d 76 172 [some (.inl x0), some (.inl x1), some (.inl x2)] [] s Q := zJ_of (b := b76_172) (by rw [kBlk, kb_76]; rfl) h
set_option maxRecDepth 100000 in
theorem B76_176 {x : List Int} {d : Nat} {s : zSt} {Q : zQ} {x0 : Int} {x1 : Int} {x2 : Int}  (h : Q (some (.inl (wr (x1 * x2)))) s) : zJ x d 76 176 [some (.inl x0), some (.inl x1), some (.inl x2)] [] s Q := zJ_of (b := b76_176) (by rw [kBlk, kb_76]; rfl) h
set_option maxRecDepth 100000 in
theorem B76_180 {x : List Int} {d : Nat} {s : zSt} {Q : zQ} {x0 : Int} {x1 : Int} {x2 : Int}  (h : (¬ x2 = 0 → zJ x d 76 188 [some (.inl x0), some (.inl x1), some (.inl x2)] [] s Q) ∧ (¬ (¬ x2 = 0) → zJ x d 76 191 [some (.inl x0), some (.inl x1), some (.inl x2)] [.inl 0] s Q)) : zJ x d 76 180 [some (.inl x0), some (.inl x1), some (.inl x2)] [] s Q := zJ_of (b := b76_180) (by rw [kBlk, kb_76]; rfl) h
set_option maxRecDepth 100000 in
theorem B76_188 {x : List Int} {d : Nat} {s : zSt} {Q : zQ} {x0 : Int} {x1 : Int} {x2 : Int}  (h : if x2 = 0 then False else (zJ x d 76 191 [some (.inl x0), some (.inl x1), some (.inl x2)] [.inl (wr ((x1).tdiv x2))] s Q)) : zJ x d 76 188 [some (.inl x0), some (.inl x1), some (.inl x2)] [] s Q := zJ_of (b := b76_188) (by rw [kBlk, kb_76]; rfl) h
set_option maxRecDepth 100000 in
theorem B76_191 {x : List Int} {d : Nat} {s : zSt} {Q : zQ} {x0 : Int} {x1 : Int} {x2 : Int} {y0 : Int}  (h : Q (some (.inl y0)) s) : zJ x d 76 191 [some (.inl x0), some (.inl x1), some (.inl x2)] [.inl y0] s Q := zJ_of (b := b76_191) (by rw [kBlk, kb_76]; rfl) h
set_option maxRecDepth 100000 in
theorem B76_192 {x : List Int} {d : Nat} {s : zSt} {Q : zQ} {x0 : Int} {x1 : Int} {x2 : Int}  (h : (¬ x2 = 0 → zJ x d 76 200 [some (.inl x0), some (.inl x1), some (.inl x2)] [] s Q) ∧ (¬ (¬ x2 = 0) → zJ x d 76 203 [some (.inl x0), some (.inl x1), some (.inl x2)] [.inl 0] s Q)) : zJ x d 76 192 [some (.inl x0), some (.inl x1), some (.inl x2)] [] s Q := zJ_of (b := b76_192) (by rw [kBlk, kb_76]; rfl) h
set_option maxRecDepth 100000 in
theorem B76_200 {x : List Int} {d : Nat} {s : zSt} {Q : zQ} {x0 : Int} {x1 : Int} {x2 : Int}  (h : if x2 = 0 then False else (zJ x d 76 203 [some (.inl x0), some (.inl x1), some (.inl x2)] [.inl (wr ((x1).tmod x2))] s Q)) : zJ x d 76 200 [some (.inl x0), some (.inl x1), some (.inl x2)] [] s Q := zJ_of (b := b76_200) (by rw [kBlk, kb_76]; rfl) h
set_option maxRecDepth 100000 in
theorem B76_203 {x : List Int} {d : Nat} {s : zSt} {Q : zQ} {x0 : Int} {x1 : Int} {x2 : Int} {y0 : Int}  (h : Q (some (.inl y0)) s) : zJ x d 76 203 [some (.inl x0), some (.inl x1), some (.inl x2)] [.inl y0] s Q := zJ_of (b := b76_203) (by rw [kBlk, kb_76]; rfl) h
set_option maxRecDepth 100000 in
theorem B76_204 {x : List Int} {d : Nat} {s : zSt} {Q : zQ} {x0 : Int} {x1 : Int} {x2 : Int}  (h : Q (some (.inl 0)) s) : zJ x d 76 204 [some (.inl x0), some (.inl x1), some (.inl x2)] [] s Q := zJ_of (b := b76_204) (by rw [kBlk, kb_76]; rfl) h
set_option maxRecDepth 100000 in
theorem N76 {x : List Int} {d : Nat} {s : zSt} {Q : zQ} {x0 : Int} {x1 : Int} {x2 : Int} (h : zJ x d 76 0 [some (.inl x0), some (.inl x1), some (.inl x2)] [] s Q) : zE x (d + 1) 76 [.inl x0, .inl x1, .inl x2] s Q := zE_of (n := 3) rfl rfl rfl rfl (fun h => (zLok_some (h _ (List.mem_of_getElem? (i := 0) rfl)) (zLok_some (h _ (List.mem_of_getElem? (i := 1) rfl)) (zLok_some (h _ (List.mem_of_getElem? (i := 2) rfl)) zLok_nil)))) h
-- 77: PennyALap$Law.truth
set_option maxRecDepth 100000 in
theorem kb_77 : kBls.getD 77 [] = c77 := rfl
set_option maxRecDepth 100000 in
theorem B77_0 {x : List Int} {d : Nat} {s : zSt} {Q : zQ} {x0 : Int}  (h : (x0 = 0 → zJ x d 77 8 [some (.inl x0)] [] s Q) ∧ (¬ (x0 = 0) → zJ x d 77 9 [some (.inl x0)] [.inl 1] s Q)) : zJ x d 77 0 [some (.inl x0)] [] s Q := zJ_of (b := b77_0) (by rw [kBlk, kb_77]; rfl) h
set_option maxRecDepth 100000 in
theorem B77_8 {x : List Int} {d : Nat} {s : zSt} {Q : zQ} {x0 : Int}  (h : zJ x d 77 9 [some (.inl x0)] [.inl 0] s Q) : zJ x d 77 8 [some (.inl x0)] [] s Q := zJ_of (b := b77_8) (by rw [kBlk, kb_77]; rfl) h
set_option maxRecDepth 100000 in
theorem B77_9 {x : List Int} {d : Nat} {s : zSt} {Q : zQ} {x0 : Int} {y0 : Int}  (h : Q (some (.inl y0)) s) : zJ x d 77 9 [some (.inl x0)] [.inl y0] s Q := zJ_of (b := b77_9) (by rw [kBlk, kb_77]; rfl) h
set_option maxRecDepth 100000 in
theorem N77 {x : List Int} {d : Nat} {s : zSt} {Q : zQ} {x0 : Int} (h : zJ x d 77 0 [some (.inl x0)] [] s Q) : zE x (d + 1) 77 [.inl x0] s Q := zE_of (n := 1) rfl rfl rfl rfl (fun h => (zLok_some (h _ (List.mem_of_getElem? (i := 0) rfl)) zLok_nil)) h
-- 78: PennyALap$Plan.make
set_option maxRecDepth 100000 in
theorem kb_78 : kBls.getD 78 [] = c78 := rfl
set_option maxRecDepth 100000 in
theorem B78_0 {x : List Int} {d : Nat} {s : zSt} {Q : zQ} {x1 : Int}  (h : zE x d 105 [.inr (.inl 4), .inl x1] s (fun r s1 => zJ x d 78 8 [some (.inr (.inl 5)), some (.inl x1), none, none] (zAp r []) s1 Q)) : zJ x d 78 0 [some (.inr (.inl 5)), some (.inl x1), none, none] [] s Q := zJ_of (b := b78_0) (by rw [kBlk, kb_78]; rfl) h
set_option maxRecDepth 100000 in
theorem B78_8 {x : List Int} {d : Nat} {s : zSt} {Q : zQ} {x1 : Int}  (h : zE x d 38 [.inr (.inl 2)] s (fun r s1 => zJ x d 78 15 [some (.inr (.inl 5)), some (.inl x1), none, none] (zAp r []) s1 Q)) : zJ x d 78 8 [some (.inr (.inl 5)), some (.inl x1), none, none] [] s Q := zJ_of (b := b78_8) (by rw [kBlk, kb_78]; rfl) h
set_option maxRecDepth 100000 in
theorem B78_15 {x : List Int} {d : Nat} {s : zSt} {Q : zQ} {x1 : Int} {y0 : Int}  (h : zJ x d 78 18 [some (.inr (.inl 5)), some (.inl x1), some (.inl (wr (y0 - 1))), none] [] s Q) : zJ x d 78 15 [some (.inr (.inl 5)), some (.inl x1), none, none] [.inl y0] s Q := zJ_of (b := b78_15) (by rw [kBlk, kb_78]; rfl) h
set_option maxRecDepth 100000 in
theorem B78_18 {x : List Int} {d : Nat} {s : zSt} {Q : zQ} {x1 : Int} {x2 : Int} {o3 : Option zV}  (h : (x2 < 0 → zJ x d 78 72 [some (.inr (.inl 5)), some (.inl x1), some (.inl x2), o3] [] s Q) ∧ (¬ (x2 < 0) → zE x d 79 [.inr (.inl 5), .inl x2] s (fun r s1 => zJ x d 78 27 [some (.inr (.inl 5)), some (.inl x1), some (.inl x2), o3] (zAp r []) s1 Q))) : zJ x d 78 18 [some (.inr (.inl 5)), some (.inl x1), some (.inl x2), o3] [] s Q := zJ_of (b := b78_18) (by rw [kBlk, kb_78]; rfl) h
set_option maxRecDepth 100000 in
theorem B78_27 {x : List Int} {d : Nat} {s : zSt} {Q : zQ} {x1 : Int} {x2 : Int} {o3 : Option zV}  (h : (¬ x2 = 0 → zJ x d 78 35 [some (.inr (.inl 5)), some (.inl x1), some (.inl x2), o3] [] s Q) ∧ (¬ (¬ x2 = 0) → zJ x d 78 36 [some (.inr (.inl 5)), some (.inl x1), some (.inl x2), o3] [.inl x1] s Q)) : zJ x d 78 27 [some (.inr (.inl 5)), some (.inl x1), some (.inl x2), o3] [] s Q := zJ_of (b := b78_27) (by rw [kBlk, kb_78]; rfl) h
set_option maxRecDepth 100000 in
theorem B78_35 {x : List Int} {d : Nat} {s : zSt} {Q : zQ} {x1 : Int} {x2 : Int} {o3 : Option zV}  (h : zJ x d 78 36 [some (.inr (.inl 5)), some (.inl x1), some (.inl x2), o3] [.inl 0] s Q) : zJ x d 78 35 [some (.inr (.inl 5)), some (.inl x1), some (.inl x2), o3] [] s Q := zJ_of (b := b78_35) (by rw [kBlk, kb_78]; rfl) h
set_option maxRecDepth 100000 in
theorem B78_36 {x : List Int} {d : Nat} {s : zSt} {Q : zQ} {x1 : Int} {x2 : Int} {o3 : Option zV} {y0 : Int}  (h : zJ x d 78 37 [some (.inr (.inl 5)), some (.inl x1), some (.inl x2), some (.inl y0)] [] s Q) : zJ x d 78 36 [some (.inr (.inl 5)), some (.inl x1), some (.inl x2), o3] [.inl y0] s Q := zJ_of (b := b78_36) (by rw [kBlk, kb_78]; rfl) h
set_option maxRecDepth 100000 in
theorem B78_37 {x : List Int} {d : Nat} {s : zSt} {Q : zQ} {x1 : Int} {x2 : Int} {x3 : Int}  (h : (x1 < x3 → zJ x d 78 66 [some (.inr (.inl 5)), some (.inl x1), some (.inl x2), some (.inl x3)] [] s Q) ∧ (¬ (x1 < x3) → zE x d 80 [.inr (.inl 5), .inl x2, .inl x3] s (fun r s1 => zJ x d 78 59 [some (.inr (.inl 5)), some (.inl x1), some (.inl x2), some (.inl x3)] (zAp r [.inl (wr ((wr (x2 * 301)) + x3)), .inr (.inl 25)]) s1 Q))) : zJ x d 78 37 [some (.inr (.inl 5)), some (.inl x1), some (.inl x2), some (.inl x3)] [] s Q := zJ_of (b := b78_37) (by rw [kBlk, kb_78]; rfl) h
set_option maxRecDepth 100000 in
theorem B78_59 {x : List Int} {d : Nat} {s : zSt} {Q : zQ} {x1 : Int} {x2 : Int} {x3 : Int} {y0 : Int} {y1 : Int}  (h : (0 : Int) ≤ y1 ∧ (y1 : Int) < 2107 ∧ (zJ x d 78 37 [some (.inr (.inl 5)), some (.inl x1), some (.inl x2), some (.inl (wr (x3 + 1)))] [] (zU s 25 (y1).toNat y0) Q)) : zJ x d 78 59 [some (.inr (.inl 5)), some (.inl x1), some (.inl x2), some (.inl x3)] [.inl y0, .inl y1, .inr (.inl 25)] s Q := zJ_of (b := b78_59) (by rw [kBlk, kb_78]; rfl) h
set_option maxRecDepth 100000 in
theorem B78_66 {x : List Int} {d : Nat} {s : zSt} {Q : zQ} {x1 : Int} {x2 : Int} {x3 : Int}  (h : zJ x d 78 18 [some (.inr (.inl 5)), some (.inl x1), some (.inl (wr (x2 + (-1)))), some (.inl x3)] [] s Q) : zJ x d 78 66 [some (.inr (.inl 5)), some (.inl x1), some (.inl x2), some (.inl x3)] [] s Q := zJ_of (b := b78_66) (by rw [kBlk, kb_78]; rfl) h
set_option maxRecDepth 100000 in
theorem B78_72 {x : List Int} {d : Nat} {s : zSt} {Q : zQ} {x1 : Int} {x2 : Int} {o3 : Option zV}  (h : zE x d 82 [.inr (.inl 5), .inl x1] s (fun r s1 => zJ x d 78 77 [some (.inr (.inl 5)), some (.inl x1), some (.inl x2), o3] (zAp r []) s1 Q)) : zJ x d 78 72 [some (.inr (.inl 5)), some (.inl x1), some (.inl x2), o3] [] s Q := zJ_of (b := b78_72) (by rw [kBlk, kb_78]; rfl) h
set_option maxRecDepth 100000 in
theorem B78_77 {x : List Int} {d : Nat} {s : zSt} {Q : zQ} {x1 : Int} {x2 : Int} {o3 : Option zV}  (h : Q none s) : zJ x d 78 77 [some (.inr (.inl 5)), some (.inl x1), some (.inl x2), o3] [] s Q := zJ_of (b := b78_77) (by rw [kBlk, kb_78]; rfl) h
set_option maxRecDepth 100000 in
theorem N78 {x : List Int} {d : Nat} {s : zSt} {Q : zQ} {x1 : Int} (h : zJ x d 78 0 [some (.inr (.inl 5)), some (.inl x1), none, none] [] s Q) : zE x (d + 1) 78 [.inr (.inl 5), .inl x1] s Q := zE_of (n := 4) rfl rfl rfl rfl (fun h => (zLok_some (h _ (List.mem_of_getElem? (i := 0) rfl)) (zLok_some (h _ (List.mem_of_getElem? (i := 1) rfl)) (zLok_none (zLok_none zLok_nil))))) h
-- 79: PennyALap$Plan.weigh
set_option maxRecDepth 100000 in
theorem kb_79 : kBls.getD 79 [] = c79 := rfl
set_option maxRecDepth 100000 in
theorem B79_0 {x : List Int} {d : Nat} {s : zSt} {Q : zQ} {x1 : Int}  (h : zJ x d 79 2 [some (.inr (.inl 5)), some (.inl x1), some (.inl 0)] [] s Q) : zJ x d 79 0 [some (.inr (.inl 5)), some (.inl x1), none] [] s Q := zJ_of (b := b79_0) (by rw [kBlk, kb_79]; rfl) h
set_option maxRecDepth 100000 in
theorem B79_2 {x : List Int} {d : Nat} {s : zSt} {Q : zQ} {x1 : Int} {x2 : Int}  (h : zE x d 106 [.inr (.inl 4), .inl x1] s (fun r s1 => zJ x d 79 11 [some (.inr (.inl 5)), some (.inl x1), some (.inl x2)] (zAp r [.inl x2]) s1 Q)) : zJ x d 79 2 [some (.inr (.inl 5)), some (.inl x1), some (.inl x2)] [] s Q := zJ_of (b := b79_2) (by rw [kBlk, kb_79]; rfl) h
set_option maxRecDepth 100000 in
theorem B79_11 {x : List Int} {d : Nat} {s : zSt} {Q : zQ} {x1 : Int} {x2 : Int} {y0 : Int} {y1 : Int}  (h : (y0 < y1 → zJ x d 79 54 [some (.inr (.inl 5)), some (.inl x1), some (.inl x2)] [] s Q) ∧ (¬ (y0 < y1) → zE x d 57 [.inr (.inl 2), .inl x1, .inl x2] s (fun r s1 => zJ x d 79 33 [some (.inr (.inl 5)), some (.inl x1), some (.inl x2)] (zAp r [.inl (wr ((wr (x1 * 100)) + x2)), .inr (.inl 24)]) s1 Q))) : zJ x d 79 11 [some (.inr (.inl 5)), some (.inl x1), some (.inl x2)] [.inl y0, .inl y1] s Q := zJ_of (b := b79_11) (by rw [kBlk, kb_79]; rfl) h
set_option maxRecDepth 100000 in
theorem B79_33 {x : List Int} {d : Nat} {s : zSt} {Q : zQ} {x1 : Int} {x2 : Int} {y0 : Int} {y1 : Int}  (h : zE x d 107 [.inr (.inl 4), .inl x1, .inl x2] s (fun r s1 => zJ x d 79 46 [some (.inr (.inl 5)), some (.inl x1), some (.inl x2)] (zAp r [.inl (wr (y0 * 512)), .inl y1, .inr (.inl 24)]) s1 Q)) : zJ x d 79 33 [some (.inr (.inl 5)), some (.inl x1), some (.inl x2)] [.inl y0, .inl y1, .inr (.inl 24)] s Q := zJ_of (b := b79_33) (by rw [kBlk, kb_79]; rfl) h
set_option maxRecDepth 100000 in
theorem B79_46 {x : List Int} {d : Nat} {s : zSt} {Q : zQ} {x1 : Int} {x2 : Int} {y0 : Int} {y1 : Int} {y2 : Int}  (h : (0 : Int) ≤ y2 ∧ (y2 : Int) < 600 ∧ (zJ x d 79 2 [some (.inr (.inl 5)), some (.inl x1), some (.inl (wr (x2 + 1)))] [] (zU s 24 (y2).toNat (wr (y1 - y0))) Q)) : zJ x d 79 46 [some (.inr (.inl 5)), some (.inl x1), some (.inl x2)] [.inl y0, .inl y1, .inl y2, .inr (.inl 24)] s Q := zJ_of (b := b79_46) (by rw [kBlk, kb_79]; rfl) h
set_option maxRecDepth 100000 in
theorem B79_54 {x : List Int} {d : Nat} {s : zSt} {Q : zQ} {x1 : Int} {x2 : Int}  (h : Q none s) : zJ x d 79 54 [some (.inr (.inl 5)), some (.inl x1), some (.inl x2)] [] s Q := zJ_of (b := b79_54) (by rw [kBlk, kb_79]; rfl) h
set_option maxRecDepth 100000 in
theorem N79 {x : List Int} {d : Nat} {s : zSt} {Q : zQ} {x1 : Int} (h : zJ x d 79 0 [some (.inr (.inl 5)), some (.inl x1), none] [] s Q) : zE x (d + 1) 79 [.inr (.inl 5), .inl x1] s Q := zE_of (n := 3) rfl rfl rfl rfl (fun h => (zLok_some (h _ (List.mem_of_getElem? (i := 0) rfl)) (zLok_some (h _ (List.mem_of_getElem? (i := 1) rfl)) (zLok_none zLok_nil)))) h
-- 80: PennyALap$Plan.bestOf
set_option maxRecDepth 100000 in
theorem kb_80 : kBls.getD 80 [] = c80 := rfl
set_option maxRecDepth 100000 in
theorem B80_0 {x : List Int} {d : Nat} {s : zSt} {Q : zQ} {x1 : Int} {x2 : Int}  (h : zE x d 106 [.inr (.inl 4), .inl x1] s (fun r s1 => zJ x d 80 16 [some (.inr (.inl 5)), some (.inl x1), some (.inl x2), some (.inr (.inl 22)), none, none, none, none, none] (zAp r []) s1 Q)) : zJ x d 80 0 [some (.inr (.inl 5)), some (.inl x1), some (.inl x2), none, none, none, none, none, none] [] s Q := zJ_of (b := b80_0) (by rw [kBlk, kb_80]; rfl) h
set_option maxRecDepth 100000 in
theorem B80_16 {x : List Int} {d : Nat} {s : zSt} {Q : zQ} {x1 : Int} {x2 : Int} {y0 : Int}  (h : (0 : Int) ≤ wr (x1 * 100) ∧ (wr (x1 * 100) : Int) < 600 ∧ ((0 : Int) ≤ wr ((wr ((wr (x1 + 1)) * 301)) + x2) ∧ (wr ((wr ((wr (x1 + 1)) * 301)) + x2) : Int) < 2107 ∧ (zJ x d 80 55 [some (.inr (.inl 5)), some (.inl x1), some (.inl x2), some (.inr (.inl 22)), some (.inl y0), some (.inl (wr (x1 * 100))), some (.inl (wr ((wr ((wr (x1 + 1)) * 301)) + x2))), some (.inl (wr ((s 24 (wr (x1 * 100)).toNat) + (s 25 (wr ((wr ((wr (x1 + 1)) * 301)) + x2)).toNat)))), some (.inl 1)] [] s Q))) : zJ x d 80 16 [some (.inr (.inl 5)), some (.inl x1), some (.inl x2), some (.inr (.inl 22)), none, none, none, none, none] [.inl y0] s Q := zJ_of (b := b80_16) (by rw [kBlk, kb_80]; rfl) h
set_option maxRecDepth 100000 in
theorem B80_55 {x : List Int} {d : Nat} {s : zSt} {Q : zQ} {x1 : Int} {x2 : Int} {x4 : Int} {x5 : Int} {x6 : Int} {x7 : Int} {x8 : Int}  (h : (x4 < x8 → zJ x d 80 112 [some (.inr (.inl 5)), some (.inl x1), some (.inl x2), some (.inr (.inl 22)), some (.inl x4), some (.inl x5), some (.inl x6), some (.inl x7), some (.inl x8)] [] s Q) ∧ (¬ (x4 < x8) → (0 : Int) ≤ wr (x5 + x8) ∧ (wr (x5 + x8) : Int) < 600 ∧ ((x2 < s 22 (wr (x5 + x8)).toNat → zJ x d 80 112 [some (.inr (.inl 5)), some (.inl x1), some (.inl x2), some (.inr (.inl 22)), some (.inl x4), some (.inl x5), some (.inl x6), some (.inl x7), some (.inl x8)] [] s Q) ∧ (¬ (x2 < s 22 (wr (x5 + x8)).toNat) → (0 : Int) ≤ wr (x5 + x8) ∧ (wr (x5 + x8) : Int) < 600 ∧ ((0 : Int) ≤ wr (x5 + x8) ∧ (wr (x5 + x8) : Int) < 600 ∧ ((0 : Int) ≤ wr (x6 - (s 22 (wr (x5 + x8)).toNat)) ∧ (wr (x6 - (s 22 (wr (x5 + x8)).toNat)) : Int) < 2107 ∧ (zJ x d 80 55 [some (.inr (.inl 5)), some (.inl x1), some (.inl x2), some (.inr (.inl 22)), some (.inl x4), some (.inl x5), some (.inl x6), some (.inl (max x7 (wr ((s 24 (wr (x5 + x8)).toNat) + (s 25 (wr (x6 - (s 22 (wr (x5 + x8)).toNat))).toNat))))), some (.inl (wr (x8 + 1)))] [] s Q))))))) : zJ x d 80 55 [some (.inr (.inl 5)), some (.inl x1), some (.inl x2), some (.inr (.inl 22)), some (.inl x4), some (.inl x5), some (.inl x6), some (.inl x7), some (.inl x8)] [] s Q := zJ_of (b := b80_55) (by rw [kBlk, kb_80]; rfl) h
set_option maxRecDepth 100000 in
theorem B80_112 {x : List Int} {d : Nat} {s : zSt} {Q : zQ} {x1 : Int} {x2 : Int} {x4 : Int} {x5 : Int} {x6 : Int} {x7 : Int} {x8 : Int}  (h : Q (some (.inl x7)) s) : zJ x d 80 112 [some (.inr (.inl 5)), some (.inl x1), some (.inl x2), some (.inr (.inl 22)), some (.inl x4), some (.inl x5), some (.inl x6), some (.inl x7), some (.inl x8)] [] s Q := zJ_of (b := b80_112) (by rw [kBlk, kb_80]; rfl) h
set_option maxRecDepth 100000 in
theorem N80 {x : List Int} {d : Nat} {s : zSt} {Q : zQ} {x1 : Int} {x2 : Int} (h : zJ x d 80 0 [some (.inr (.inl 5)), some (.inl x1), some (.inl x2), none, none, none, none, none, none] [] s Q) : zE x (d + 1) 80 [.inr (.inl 5), .inl x1, .inl x2] s Q := zE_of (n := 9) rfl rfl rfl rfl (fun h => (zLok_some (h _ (List.mem_of_getElem? (i := 0) rfl)) (zLok_some (h _ (List.mem_of_getElem? (i := 1) rfl)) (zLok_some (h _ (List.mem_of_getElem? (i := 2) rfl)) (zLok_none (zLok_none (zLok_none (zLok_none (zLok_none (zLok_none zLok_nil)))))))))) h
-- 81: PennyALap$Plan.worthWith
set_option maxRecDepth 100000 in
theorem kb_81 : kBls.getD 81 [] = c81 := rfl
set_option maxRecDepth 100000 in
theorem B81_0 {x : List Int} {d : Nat} {s : zSt} {Q : zQ} {x1 : Int} {x2 : Int} {x3 : Int}  (h : zE x d 107 [.inr (.inl 4), .inl x1, .inl x2] s (fun r s1 => zJ x d 81 10 [some (.inr (.inl 5)), some (.inl x1), some (.inl x2), some (.inl x3), none] (zAp r [.inl x3]) s1 Q)) : zJ x d 81 0 [some (.inr (.inl 5)), some (.inl x1), some (.inl x2), some (.inl x3), none] [] s Q := zJ_of (b := b81_0) (by rw [kBlk, kb_81]; rfl) h
set_option maxRecDepth 100000 in
theorem B81_10 {x : List Int} {d : Nat} {s : zSt} {Q : zQ} {x1 : Int} {x2 : Int} {x3 : Int} {y0 : Int} {y1 : Int}  (h : (0 : Int) ≤ wr ((wr (x1 * 100)) + x2) ∧ (wr ((wr (x1 * 100)) + x2) : Int) < 600 ∧ ((wr (y1 - y0) < 0 → zJ x d 81 47 [some (.inr (.inl 5)), some (.inl x1), some (.inl x2), some (.inl x3), some (.inl (wr (y1 - y0)))] [.inl (s 24 (wr ((wr (x1 * 100)) + x2)).toNat)] s Q) ∧ (¬ (wr (y1 - y0) < 0) → (0 : Int) ≤ wr ((wr ((wr (x1 + 1)) * 301)) + (wr (y1 - y0))) ∧ (wr ((wr ((wr (x1 + 1)) * 301)) + (wr (y1 - y0))) : Int) < 2107 ∧ (zJ x d 81 48 [some (.inr (.inl 5)), some (.inl x1), some (.inl x2), some (.inl x3), some (.inl (wr (y1 - y0)))] [.inl (s 25 (wr ((wr ((wr (x1 + 1)) * 301)) + (wr (y1 - y0)))).toNat), .inl (s 24 (wr ((wr (x1 * 100)) + x2)).toNat)] s Q)))) : zJ x d 81 10 [some (.inr (.inl 5)), some (.inl x1), some (.inl x2), some (.inl x3), none] [.inl y0, .inl y1] s Q := zJ_of (b := b81_10) (by rw [kBlk, kb_81]; rfl) h
set_option maxRecDepth 100000 in
theorem B81_47 {x : List Int} {d : Nat} {s : zSt} {Q : zQ} {x1 : Int} {x2 : Int} {x3 : Int} {x4 : Int} {y0 : Int}  (h : zJ x d 81 48 [some (.inr (.inl 5)), some (.inl x1), some (.inl x2), some (.inl x3), some (.inl x4)] [.inl 0, .inl y0] s Q) : zJ x d 81 47 [some (.inr (.inl 5)), some (.inl x1), some (.inl x2), some (.inl x3), some (.inl x4)] [.inl y0] s Q := zJ_of (b := b81_47) (by rw [kBlk, kb_81]; rfl) h
set_option maxRecDepth 100000 in
theorem B81_48 {x : List Int} {d : Nat} {s : zSt} {Q : zQ} {x1 : Int} {x2 : Int} {x3 : Int} {x4 : Int} {y0 : Int} {y1 : Int}  (h : Q (some (.inl (wr (y1 + y0)))) s) : zJ x d 81 48 [some (.inr (.inl 5)), some (.inl x1), some (.inl x2), some (.inl x3), some (.inl x4)] [.inl y0, .inl y1] s Q := zJ_of (b := b81_48) (by rw [kBlk, kb_81]; rfl) h
set_option maxRecDepth 100000 in
theorem N81 {x : List Int} {d : Nat} {s : zSt} {Q : zQ} {x1 : Int} {x2 : Int} {x3 : Int} (h : zJ x d 81 0 [some (.inr (.inl 5)), some (.inl x1), some (.inl x2), some (.inl x3), none] [] s Q) : zE x (d + 1) 81 [.inr (.inl 5), .inl x1, .inl x2, .inl x3] s Q := zE_of (n := 5) rfl rfl rfl rfl (fun h => (zLok_some (h _ (List.mem_of_getElem? (i := 0) rfl)) (zLok_some (h _ (List.mem_of_getElem? (i := 1) rfl)) (zLok_some (h _ (List.mem_of_getElem? (i := 2) rfl)) (zLok_some (h _ (List.mem_of_getElem? (i := 3) rfl)) (zLok_none zLok_nil)))))) h
-- 82: PennyALap$Plan.choose
set_option maxRecDepth 100000 in
theorem kb_82 : kBls.getD 82 [] = c82 := rfl
set_option maxRecDepth 100000 in
theorem B82_0 {x : List Int} {d : Nat} {s : zSt} {Q : zQ} {x1 : Int}  (h : zJ x d 82 4 [some (.inr (.inl 5)), some (.inl x1), some (.inl x1), some (.inl 0), none] [] s Q) : zJ x d 82 0 [some (.inr (.inl 5)), some (.inl x1), none, none, none] [] s Q := zJ_of (b := b82_0) (by rw [kBlk, kb_82]; rfl) h
set_option maxRecDepth 100000 in
theorem B82_4 {x : List Int} {d : Nat} {s : zSt} {Q : zQ} {x1 : Int} {x2 : Int} {x3 : Int} {o4 : Option zV}  (h : zE x d 38 [.inr (.inl 2)] s (fun r s1 => zJ x d 82 12 [some (.inr (.inl 5)), some (.inl x1), some (.inl x2), some (.inl x3), o4] (zAp r [.inl x3]) s1 Q)) : zJ x d 82 4 [some (.inr (.inl 5)), some (.inl x1), some (.inl x2), some (.inl x3), o4] [] s Q := zJ_of (b := b82_4) (by rw [kBlk, kb_82]; rfl) h
set_option maxRecDepth 100000 in
theorem B82_12 {x : List Int} {d : Nat} {s : zSt} {Q : zQ} {x1 : Int} {x2 : Int} {x3 : Int} {o4 : Option zV} {y0 : Int} {y1 : Int}  (h : (y0 ≤ y1 → zJ x d 82 91 [some (.inr (.inl 5)), some (.inl x1), some (.inl x2), some (.inl x3), o4] [] s Q) ∧ (¬ (y0 ≤ y1) → zJ x d 82 18 [some (.inr (.inl 5)), some (.inl x1), some (.inl x2), some (.inl x3), some (.inl 0)] [] s Q)) : zJ x d 82 12 [some (.inr (.inl 5)), some (.inl x1), some (.inl x2), some (.inl x3), o4] [.inl y0, .inl y1] s Q := zJ_of (b := b82_12) (by rw [kBlk, kb_82]; rfl) h
set_option maxRecDepth 100000 in
theorem B82_18 {x : List Int} {d : Nat} {s : zSt} {Q : zQ} {x1 : Int} {x2 : Int} {x3 : Int} {x4 : Int}  (h : zE x d 106 [.inr (.inl 4), .inl x3] s (fun r s1 => zJ x d 82 28 [some (.inr (.inl 5)), some (.inl x1), some (.inl x2), some (.inl x3), some (.inl x4)] (zAp r [.inl x4]) s1 Q)) : zJ x d 82 18 [some (.inr (.inl 5)), some (.inl x1), some (.inl x2), some (.inl x3), some (.inl x4)] [] s Q := zJ_of (b := b82_18) (by rw [kBlk, kb_82]; rfl) h
set_option maxRecDepth 100000 in
theorem B82_28 {x : List Int} {d : Nat} {s : zSt} {Q : zQ} {x1 : Int} {x2 : Int} {x3 : Int} {x4 : Int} {y0 : Int} {y1 : Int}  (h : (y0 ≤ y1 → zJ x d 82 60 [some (.inr (.inl 5)), some (.inl x1), some (.inl x2), some (.inl x3), some (.inl x4)] [] s Q) ∧ (¬ (y0 ≤ y1) → zE x d 81 [.inr (.inl 5), .inl x3, .inl x4, .inl x2] s (fun r s1 => zJ x d 82 39 [some (.inr (.inl 5)), some (.inl x1), some (.inl x2), some (.inl x3), some (.inl x4)] (zAp r []) s1 Q))) : zJ x d 82 28 [some (.inr (.inl 5)), some (.inl x1), some (.inl x2), some (.inl x3), some (.inl x4)] [.inl y0, .inl y1] s Q := zJ_of (b := b82_28) (by rw [kBlk, kb_82]; rfl) h
set_option maxRecDepth 100000 in
theorem B82_39 {x : List Int} {d : Nat} {s : zSt} {Q : zQ} {x1 : Int} {x2 : Int} {x3 : Int} {x4 : Int} {y0 : Int}  (h : (0 : Int) ≤ wr ((wr (x3 * 301)) + x2) ∧ (wr ((wr (x3 * 301)) + x2) : Int) < 2107 ∧ ((y0 = s 25 (wr ((wr (x3 * 301)) + x2)).toNat → zJ x d 82 60 [some (.inr (.inl 5)), some (.inl x1), some (.inl x2), some (.inl x3), some (.inl x4)] [] s Q) ∧ (¬ (y0 = s 25 (wr ((wr (x3 * 301)) + x2)).toNat) → zJ x d 82 18 [some (.inr (.inl 5)), some (.inl x1), some (.inl x2), some (.inl x3), some (.inl (wr (x4 + 1)))] [] s Q))) : zJ x d 82 39 [some (.inr (.inl 5)), some (.inl x1), some (.inl x2), some (.inl x3), some (.inl x4)] [.inl y0] s Q := zJ_of (b := b82_39) (by rw [kBlk, kb_82]; rfl) h
set_option maxRecDepth 100000 in
theorem B82_60 {x : List Int} {d : Nat} {s : zSt} {Q : zQ} {x1 : Int} {x2 : Int} {x3 : Int} {x4 : Int}  (h : (0 : Int) ≤ x3 ∧ (x3 : Int) < 6 ∧ (zE x d 107 [.inr (.inl 4), .inl x3, .inl x4] (zU s 26 (x3).toNat x4) (fun r s1 => zJ x d 82 80 [some (.inr (.inl 5)), some (.inl x1), some (.inl x2), some (.inl x3), some (.inl x4)] (zAp r [.inl x2, .inl 0]) s1 Q))) : zJ x d 82 60 [some (.inr (.inl 5)), some (.inl x1), some (.inl x2), some (.inl x3), some (.inl x4)] [] s Q := zJ_of (b := b82_60) (by rw [kBlk, kb_82]; rfl) h
set_option maxRecDepth 100000 in
theorem B82_80 {x : List Int} {d : Nat} {s : zSt} {Q : zQ} {x1 : Int} {x2 : Int} {x3 : Int} {x4 : Int} {y0 : Int} {y1 : Int} {y2 : Int}  (h : zJ x d 82 4 [some (.inr (.inl 5)), some (.inl x1), some (.inl (max y2 (wr (y1 - y0)))), some (.inl (wr (x3 + 1))), some (.inl x4)] [] s Q) : zJ x d 82 80 [some (.inr (.inl 5)), some (.inl x1), some (.inl x2), some (.inl x3), some (.inl x4)] [.inl y0, .inl y1, .inl y2] s Q := zJ_of (b := b82_80) (by rw [kBlk, kb_82]; rfl) h
set_option maxRecDepth 100000 in
theorem B82_91 {x : List Int} {d : Nat} {s : zSt} {Q : zQ} {x1 : Int} {x2 : Int} {x3 : Int} {o4 : Option zV}  (h : Q none s) : zJ x d 82 91 [some (.inr (.inl 5)), some (.inl x1), some (.inl x2), some (.inl x3), o4] [] s Q := zJ_of (b := b82_91) (by rw [kBlk, kb_82]; rfl) h
set_option maxRecDepth 100000 in
theorem N82 {x : List Int} {d : Nat} {s : zSt} {Q : zQ} {x1 : Int} (h : zJ x d 82 0 [some (.inr (.inl 5)), some (.inl x1), none, none, none] [] s Q) : zE x (d + 1) 82 [.inr (.inl 5), .inl x1] s Q := zE_of (n := 5) rfl rfl rfl rfl (fun h => (zLok_some (h _ (List.mem_of_getElem? (i := 0) rfl)) (zLok_some (h _ (List.mem_of_getElem? (i := 1) rfl)) (zLok_none (zLok_none (zLok_none zLok_nil)))))) h
-- 83: PennyALap$Plan.lapsOf
set_option maxRecDepth 100000 in
theorem kb_83 : kBls.getD 83 [] = c83 := rfl
set_option maxRecDepth 100000 in
theorem B83_0 {x : List Int} {d : Nat} {s : zSt} {Q : zQ} {x1 : Int}  (h : zE x d 40 [.inr (.inl 2), .inl x1] s (fun r s1 => zJ x d 83 8 [some (.inr (.inl 5)), some (.inl x1)] (zAp r []) s1 Q)) : zJ x d 83 0 [some (.inr (.inl 5)), some (.inl x1)] [] s Q := zJ_of (b := b83_0) (by rw [kBlk, kb_83]; rfl) h
set_option maxRecDepth 100000 in
theorem B83_8 {x : List Int} {d : Nat} {s : zSt} {Q : zQ} {x1 : Int} {y0 : Int}  (h : (y0 = 0 → zJ x d 83 20 [some (.inr (.inl 5)), some (.inl x1)] [] s Q) ∧ (¬ (y0 = 0) → (0 : Int) ≤ x1 ∧ (x1 : Int) < 6 ∧ (zJ x d 83 21 [some (.inr (.inl 5)), some (.inl x1)] [.inl (s 26 (x1).toNat)] s Q))) : zJ x d 83 8 [some (.inr (.inl 5)), some (.inl x1)] [.inl y0] s Q := zJ_of (b := b83_8) (by rw [kBlk, kb_83]; rfl) h
set_option maxRecDepth 100000 in
theorem B83_20 {x : List Int} {d : Nat} {s : zSt} {Q : zQ} {x1 : Int}  (h : zJ x d 83 21 [some (.inr (.inl 5)), some (.inl x1)] [.inl 0] s Q) : zJ x d 83 20 [some (.inr (.inl 5)), some (.inl x1)] [] s Q := zJ_of (b := b83_20) (by rw [kBlk, kb_83]; rfl) h
set_option maxRecDepth 100000 in
theorem B83_21 {x : List Int} {d : Nat} {s : zSt} {Q : zQ} {x1 : Int} {y0 : Int}  (h : Q (some (.inl y0)) s) : zJ x d 83 21 [some (.inr (.inl 5)), some (.inl x1)] [.inl y0] s Q := zJ_of (b := b83_21) (by rw [kBlk, kb_83]; rfl) h
set_option maxRecDepth 100000 in
theorem N83 {x : List Int} {d : Nat} {s : zSt} {Q : zQ} {x1 : Int} (h : zJ x d 83 0 [some (.inr (.inl 5)), some (.inl x1)] [] s Q) : zE x (d + 1) 83 [.inr (.inl 5), .inl x1] s Q := zE_of (n := 2) rfl rfl rfl rfl (fun h => (zLok_some (h _ (List.mem_of_getElem? (i := 0) rfl)) (zLok_some (h _ (List.mem_of_getElem? (i := 1) rfl)) zLok_nil))) h
-- 84: PennyALap$Plan.pence
set_option maxRecDepth 100000 in
theorem kb_84 : kBls.getD 84 [] = c84 := rfl
set_option maxRecDepth 100000 in
theorem B84_0 {x : List Int} {d : Nat} {s : zSt} {Q : zQ}   (h : zJ x d 84 4 [some (.inr (.inl 5)), some (.inl 0), some (.inl 0)] [] s Q) : zJ x d 84 0 [some (.inr (.inl 5)), none, none] [] s Q := zJ_of (b := b84_0) (by rw [kBlk, kb_84]; rfl) h
set_option maxRecDepth 100000 in
theorem B84_4 {x : List Int} {d : Nat} {s : zSt} {Q : zQ} {x1 : Int} {x2 : Int}  (h : zE x d 38 [.inr (.inl 2)] s (fun r s1 => zJ x d 84 12 [some (.inr (.inl 5)), some (.inl x1), some (.inl x2)] (zAp r [.inl x2]) s1 Q)) : zJ x d 84 4 [some (.inr (.inl 5)), some (.inl x1), some (.inl x2)] [] s Q := zJ_of (b := b84_4) (by rw [kBlk, kb_84]; rfl) h
set_option maxRecDepth 100000 in
theorem B84_12 {x : List Int} {d : Nat} {s : zSt} {Q : zQ} {x1 : Int} {x2 : Int} {y0 : Int} {y1 : Int}  (h : (y0 ≤ y1 → zJ x d 84 38 [some (.inr (.inl 5)), some (.inl x1), some (.inl x2)] [] s Q) ∧ (¬ (y0 ≤ y1) → (0 : Int) ≤ x2 ∧ (x2 : Int) < 6 ∧ (zE x d 57 [.inr (.inl 2), .inl x2, .inl (s 26 (x2).toNat)] s (fun r s1 => zJ x d 84 30 [some (.inr (.inl 5)), some (.inl x1), some (.inl x2)] (zAp r [.inl x1]) s1 Q)))) : zJ x d 84 12 [some (.inr (.inl 5)), some (.inl x1), some (.inl x2)] [.inl y0, .inl y1] s Q := zJ_of (b := b84_12) (by rw [kBlk, kb_84]; rfl) h
set_option maxRecDepth 100000 in
theorem B84_30 {x : List Int} {d : Nat} {s : zSt} {Q : zQ} {x1 : Int} {x2 : Int} {y0 : Int} {y1 : Int}  (h : zJ x d 84 4 [some (.inr (.inl 5)), some (.inl (wr (y1 + y0))), some (.inl (wr (x2 + 1)))] [] s Q) : zJ x d 84 30 [some (.inr (.inl 5)), some (.inl x1), some (.inl x2)] [.inl y0, .inl y1] s Q := zJ_of (b := b84_30) (by rw [kBlk, kb_84]; rfl) h
set_option maxRecDepth 100000 in
theorem B84_38 {x : List Int} {d : Nat} {s : zSt} {Q : zQ} {x1 : Int} {x2 : Int}  (h : Q (some (.inl x1)) s) : zJ x d 84 38 [some (.inr (.inl 5)), some (.inl x1), some (.inl x2)] [] s Q := zJ_of (b := b84_38) (by rw [kBlk, kb_84]; rfl) h
set_option maxRecDepth 100000 in
theorem N84 {x : List Int} {d : Nat} {s : zSt} {Q : zQ}  (h : zJ x d 84 0 [some (.inr (.inl 5)), none, none] [] s Q) : zE x (d + 1) 84 [.inr (.inl 5)] s Q := zE_of (n := 3) rfl rfl rfl rfl (fun h => (zLok_some (h _ (List.mem_of_getElem? (i := 0) rfl)) (zLok_none (zLok_none zLok_nil)))) h
-- 85: PennyALap$Plan.minutesUsed
set_option maxRecDepth 100000 in
theorem kb_85 : kBls.getD 85 [] = c85 := rfl
set_option maxRecDepth 100000 in
theorem B85_0 {x : List Int} {d : Nat} {s : zSt} {Q : zQ}   (h : zJ x d 85 4 [some (.inr (.inl 5)), some (.inl 0), some (.inl 0)] [] s Q) : zJ x d 85 0 [some (.inr (.inl 5)), none, none] [] s Q := zJ_of (b := b85_0) (by rw [kBlk, kb_85]; rfl) h
set_option maxRecDepth 100000 in
theorem B85_4 {x : List Int} {d : Nat} {s : zSt} {Q : zQ} {x1 : Int} {x2 : Int}  (h : zE x d 38 [.inr (.inl 2)] s (fun r s1 => zJ x d 85 12 [some (.inr (.inl 5)), some (.inl x1), some (.inl x2)] (zAp r [.inl x2]) s1 Q)) : zJ x d 85 4 [some (.inr (.inl 5)), some (.inl x1), some (.inl x2)] [] s Q := zJ_of (b := b85_4) (by rw [kBlk, kb_85]; rfl) h
set_option maxRecDepth 100000 in
theorem B85_12 {x : List Int} {d : Nat} {s : zSt} {Q : zQ} {x1 : Int} {x2 : Int} {y0 : Int} {y1 : Int}  (h : (y0 ≤ y1 → zJ x d 85 38 [some (.inr (.inl 5)), some (.inl x1), some (.inl x2)] [] s Q) ∧ (¬ (y0 ≤ y1) → (0 : Int) ≤ x2 ∧ (x2 : Int) < 6 ∧ (zE x d 107 [.inr (.inl 4), .inl x2, .inl (s 26 (x2).toNat)] s (fun r s1 => zJ x d 85 30 [some (.inr (.inl 5)), some (.inl x1), some (.inl x2)] (zAp r [.inl x1]) s1 Q)))) : zJ x d 85 12 [some (.inr (.inl 5)), some (.inl x1), some (.inl x2)] [.inl y0, .inl y1] s Q := zJ_of (b := b85_12) (by rw [kBlk, kb_85]; rfl) h
set_option maxRecDepth 100000 in
theorem B85_30 {x : List Int} {d : Nat} {s : zSt} {Q : zQ} {x1 : Int} {x2 : Int} {y0 : Int} {y1 : Int}  (h : zJ x d 85 4 [some (.inr (.inl 5)), some (.inl (wr (y1 + y0))), some (.inl (wr (x2 + 1)))] [] s Q) : zJ x d 85 30 [some (.inr (.inl 5)), some (.inl x1), some (.inl x2)] [.inl y0, .inl y1] s Q := zJ_of (b := b85_30) (by rw [kBlk, kb_85]; rfl) h
set_option maxRecDepth 100000 in
theorem B85_38 {x : List Int} {d : Nat} {s : zSt} {Q : zQ} {x1 : Int} {x2 : Int}  (h : Q (some (.inl x1)) s) : zJ x d 85 38 [some (.inr (.inl 5)), some (.inl x1), some (.inl x2)] [] s Q := zJ_of (b := b85_38) (by rw [kBlk, kb_85]; rfl) h
set_option maxRecDepth 100000 in
theorem N85 {x : List Int} {d : Nat} {s : zSt} {Q : zQ}  (h : zJ x d 85 0 [some (.inr (.inl 5)), none, none] [] s Q) : zE x (d + 1) 85 [.inr (.inl 5)] s Q := zE_of (n := 3) rfl rfl rfl rfl (fun h => (zLok_some (h _ (List.mem_of_getElem? (i := 0) rfl)) (zLok_none (zLok_none zLok_nil)))) h
-- 86: PennyALap$Shelves.isShelf
set_option maxRecDepth 100000 in
theorem kb_86 : kBls.getD 86 [] = c86 := rfl
set_option maxRecDepth 100000 in
theorem B86_0 {x : List Int} {d : Nat} {s : zSt} {Q : zQ} {x1 : Int}  (h : (x1 < 0 → zJ x d 86 14 [some (.inr (.inl 10)), some (.inl x1)] [] s Q) ∧ (¬ (x1 < 0) → (6 ≤ x1 → zJ x d 86 14 [some (.inr (.inl 10)), some (.inl x1)] [] s Q) ∧ (¬ (6 ≤ x1) → zJ x d 86 15 [some (.inr (.inl 10)), some (.inl x1)] [.inl 1] s Q))) : zJ x d 86 0 [some (.inr (.inl 10)), some (.inl x1)] [] s Q := zJ_of (b := b86_0) (by rw [kBlk, kb_86]; rfl) h
set_option maxRecDepth 100000 in
theorem B86_14 {x : List Int} {d : Nat} {s : zSt} {Q : zQ} {x1 : Int}  (h : zJ x d 86 15 [some (.inr (.inl 10)), some (.inl x1)] [.inl 0] s Q) : zJ x d 86 14 [some (.inr (.inl 10)), some (.inl x1)] [] s Q := zJ_of (b := b86_14) (by rw [kBlk, kb_86]; rfl) h
set_option maxRecDepth 100000 in
theorem B86_15 {x : List Int} {d : Nat} {s : zSt} {Q : zQ} {x1 : Int} {y0 : Int}  (h : ((y0 : Int) = 0 ∨ (y0 : Int) = 1) ∧ Q (some (.inl y0)) s) : zJ x d 86 15 [some (.inr (.inl 10)), some (.inl x1)] [.inl y0] s Q := zJ_of (b := b86_15) (by rw [kBlk, kb_86]; rfl) h
set_option maxRecDepth 100000 in
theorem N86 {x : List Int} {d : Nat} {s : zSt} {Q : zQ} {x1 : Int} (h : zJ x d 86 0 [some (.inr (.inl 10)), some (.inl x1)] [] s Q) : zE x (d + 1) 86 [.inr (.inl 10), .inl x1] s Q := zE_of (n := 2) rfl rfl rfl rfl (fun h => (zLok_some (h _ (List.mem_of_getElem? (i := 0) rfl)) (zLok_some (h _ (List.mem_of_getElem? (i := 1) rfl)) zLok_nil))) h
-- 87: PennyALap$Shelves.isEmpty
set_option maxRecDepth 100000 in
theorem kb_87 : kBls.getD 87 [] = c87 := rfl
set_option maxRecDepth 100000 in
theorem B87_0 {x : List Int} {d : Nat} {s : zSt} {Q : zQ} {x1 : Int}  (h : zE x d 86 [.inr (.inl 10), .inl x1] s (fun r s1 => zJ x d 87 5 [some (.inr (.inl 10)), some (.inl x1)] (zAp r []) s1 Q)) : zJ x d 87 0 [some (.inr (.inl 10)), some (.inl x1)] [] s Q := zJ_of (b := b87_0) (by rw [kBlk, kb_87]; rfl) h
set_option maxRecDepth 100000 in
theorem B87_5 {x : List Int} {d : Nat} {s : zSt} {Q : zQ} {x1 : Int} {y0 : Int}  (h : (y0 = 0 → zJ x d 87 23 [some (.inr (.inl 10)), some (.inl x1)] [] s Q) ∧ (¬ (y0 = 0) → (0 : Int) ≤ x1 ∧ (x1 : Int) < 6 ∧ ((¬ s 38 (x1).toNat = 6 → zJ x d 87 23 [some (.inr (.inl 10)), some (.inl x1)] [] s Q) ∧ (¬ (¬ s 38 (x1).toNat = 6) → zJ x d 87 24 [some (.inr (.inl 10)), some (.inl x1)] [.inl 1] s Q)))) : zJ x d 87 5 [some (.inr (.inl 10)), some (.inl x1)] [.inl y0] s Q := zJ_of (b := b87_5) (by rw [kBlk, kb_87]; rfl) h
set_option maxRecDepth 100000 in
theorem B87_23 {x : List Int} {d : Nat} {s : zSt} {Q : zQ} {x1 : Int}  (h : zJ x d 87 24 [some (.inr (.inl 10)), some (.inl x1)] [.inl 0] s Q) : zJ x d 87 23 [some (.inr (.inl 10)), some (.inl x1)] [] s Q := zJ_of (b := b87_23) (by rw [kBlk, kb_87]; rfl) h
set_option maxRecDepth 100000 in
theorem B87_24 {x : List Int} {d : Nat} {s : zSt} {Q : zQ} {x1 : Int} {y0 : Int}  (h : ((y0 : Int) = 0 ∨ (y0 : Int) = 1) ∧ Q (some (.inl y0)) s) : zJ x d 87 24 [some (.inr (.inl 10)), some (.inl x1)] [.inl y0] s Q := zJ_of (b := b87_24) (by rw [kBlk, kb_87]; rfl) h
set_option maxRecDepth 100000 in
theorem N87 {x : List Int} {d : Nat} {s : zSt} {Q : zQ} {x1 : Int} (h : zJ x d 87 0 [some (.inr (.inl 10)), some (.inl x1)] [] s Q) : zE x (d + 1) 87 [.inr (.inl 10), .inl x1] s Q := zE_of (n := 2) rfl rfl rfl rfl (fun h => (zLok_some (h _ (List.mem_of_getElem? (i := 0) rfl)) (zLok_some (h _ (List.mem_of_getElem? (i := 1) rfl)) zLok_nil))) h
-- 88: PennyALap$Shelves.isRow
set_option maxRecDepth 100000 in
theorem kb_88 : kBls.getD 88 [] = c88 := rfl
set_option maxRecDepth 100000 in
theorem B88_0 {x : List Int} {d : Nat} {s : zSt} {Q : zQ} {x1 : Int}  (h : zE x d 86 [.inr (.inl 10), .inl x1] s (fun r s1 => zJ x d 88 5 [some (.inr (.inl 10)), some (.inl x1)] (zAp r []) s1 Q)) : zJ x d 88 0 [some (.inr (.inl 10)), some (.inl x1)] [] s Q := zJ_of (b := b88_0) (by rw [kBlk, kb_88]; rfl) h
set_option maxRecDepth 100000 in
theorem B88_5 {x : List Int} {d : Nat} {s : zSt} {Q : zQ} {x1 : Int} {y0 : Int}  (h : (y0 = 0 → zJ x d 88 22 [some (.inr (.inl 10)), some (.inl x1)] [] s Q) ∧ (¬ (y0 = 0) → (0 : Int) ≤ x1 ∧ (x1 : Int) < 6 ∧ ((4 < s 38 (x1).toNat → zJ x d 88 22 [some (.inr (.inl 10)), some (.inl x1)] [] s Q) ∧ (¬ (4 < s 38 (x1).toNat) → zJ x d 88 23 [some (.inr (.inl 10)), some (.inl x1)] [.inl 1] s Q)))) : zJ x d 88 5 [some (.inr (.inl 10)), some (.inl x1)] [.inl y0] s Q := zJ_of (b := b88_5) (by rw [kBlk, kb_88]; rfl) h
set_option maxRecDepth 100000 in
theorem B88_22 {x : List Int} {d : Nat} {s : zSt} {Q : zQ} {x1 : Int}  (h : zJ x d 88 23 [some (.inr (.inl 10)), some (.inl x1)] [.inl 0] s Q) : zJ x d 88 22 [some (.inr (.inl 10)), some (.inl x1)] [] s Q := zJ_of (b := b88_22) (by rw [kBlk, kb_88]; rfl) h
set_option maxRecDepth 100000 in
theorem B88_23 {x : List Int} {d : Nat} {s : zSt} {Q : zQ} {x1 : Int} {y0 : Int}  (h : ((y0 : Int) = 0 ∨ (y0 : Int) = 1) ∧ Q (some (.inl y0)) s) : zJ x d 88 23 [some (.inr (.inl 10)), some (.inl x1)] [.inl y0] s Q := zJ_of (b := b88_23) (by rw [kBlk, kb_88]; rfl) h
set_option maxRecDepth 100000 in
theorem N88 {x : List Int} {d : Nat} {s : zSt} {Q : zQ} {x1 : Int} (h : zJ x d 88 0 [some (.inr (.inl 10)), some (.inl x1)] [] s Q) : zE x (d + 1) 88 [.inr (.inl 10), .inl x1] s Q := zE_of (n := 2) rfl rfl rfl rfl (fun h => (zLok_some (h _ (List.mem_of_getElem? (i := 0) rfl)) (zLok_some (h _ (List.mem_of_getElem? (i := 1) rfl)) zLok_nil))) h
-- 89: PennyALap$Shelves.areAlike
set_option maxRecDepth 100000 in
theorem kb_89 : kBls.getD 89 [] = c89 := rfl
set_option maxRecDepth 100000 in
theorem B89_0 {x : List Int} {d : Nat} {s : zSt} {Q : zQ} {x1 : Int} {x2 : Int}  (h : zE x d 86 [.inr (.inl 10), .inl x1] s (fun r s1 => zJ x d 89 5 [some (.inr (.inl 10)), some (.inl x1), some (.inl x2)] (zAp r []) s1 Q)) : zJ x d 89 0 [some (.inr (.inl 10)), some (.inl x1), some (.inl x2)] [] s Q := zJ_of (b := b89_0) (by rw [kBlk, kb_89]; rfl) h
set_option maxRecDepth 100000 in
theorem B89_5 {x : List Int} {d : Nat} {s : zSt} {Q : zQ} {x1 : Int} {x2 : Int} {y0 : Int}  (h : (y0 = 0 → zJ x d 89 35 [some (.inr (.inl 10)), some (.inl x1), some (.inl x2)] [] s Q) ∧ (¬ (y0 = 0) → zE x d 86 [.inr (.inl 10), .inl x2] s (fun r s1 => zJ x d 89 13 [some (.inr (.inl 10)), some (.inl x1), some (.inl x2)] (zAp r []) s1 Q))) : zJ x d 89 5 [some (.inr (.inl 10)), some (.inl x1), some (.inl x2)] [.inl y0] s Q := zJ_of (b := b89_5) (by rw [kBlk, kb_89]; rfl) h
set_option maxRecDepth 100000 in
theorem B89_13 {x : List Int} {d : Nat} {s : zSt} {Q : zQ} {x1 : Int} {x2 : Int} {y0 : Int}  (h : (y0 = 0 → zJ x d 89 35 [some (.inr (.inl 10)), some (.inl x1), some (.inl x2)] [] s Q) ∧ (¬ (y0 = 0) → (0 : Int) ≤ x1 ∧ (x1 : Int) < 6 ∧ ((0 : Int) ≤ x2 ∧ (x2 : Int) < 6 ∧ ((¬ s 38 (x1).toNat = s 38 (x2).toNat → zJ x d 89 35 [some (.inr (.inl 10)), some (.inl x1), some (.inl x2)] [] s Q) ∧ (¬ (¬ s 38 (x1).toNat = s 38 (x2).toNat) → zJ x d 89 36 [some (.inr (.inl 10)), some (.inl x1), some (.inl x2)] [.inl 1] s Q))))) : zJ x d 89 13 [some (.inr (.inl 10)), some (.inl x1), some (.inl x2)] [.inl y0] s Q := zJ_of (b := b89_13) (by rw [kBlk, kb_89]; rfl) h
set_option maxRecDepth 100000 in
theorem B89_35 {x : List Int} {d : Nat} {s : zSt} {Q : zQ} {x1 : Int} {x2 : Int}  (h : zJ x d 89 36 [some (.inr (.inl 10)), some (.inl x1), some (.inl x2)] [.inl 0] s Q) : zJ x d 89 35 [some (.inr (.inl 10)), some (.inl x1), some (.inl x2)] [] s Q := zJ_of (b := b89_35) (by rw [kBlk, kb_89]; rfl) h
set_option maxRecDepth 100000 in
theorem B89_36 {x : List Int} {d : Nat} {s : zSt} {Q : zQ} {x1 : Int} {x2 : Int} {y0 : Int}  (h : ((y0 : Int) = 0 ∨ (y0 : Int) = 1) ∧ Q (some (.inl y0)) s) : zJ x d 89 36 [some (.inr (.inl 10)), some (.inl x1), some (.inl x2)] [.inl y0] s Q := zJ_of (b := b89_36) (by rw [kBlk, kb_89]; rfl) h
set_option maxRecDepth 100000 in
theorem N89 {x : List Int} {d : Nat} {s : zSt} {Q : zQ} {x1 : Int} {x2 : Int} (h : zJ x d 89 0 [some (.inr (.inl 10)), some (.inl x1), some (.inl x2)] [] s Q) : zE x (d + 1) 89 [.inr (.inl 10), .inl x1, .inl x2] s Q := zE_of (n := 3) rfl rfl rfl rfl (fun h => (zLok_some (h _ (List.mem_of_getElem? (i := 0) rfl)) (zLok_some (h _ (List.mem_of_getElem? (i := 1) rfl)) (zLok_some (h _ (List.mem_of_getElem? (i := 2) rfl)) zLok_nil)))) h
-- 90: PennyALap$Shelves.refusal
set_option maxRecDepth 100000 in
theorem kb_90 : kBls.getD 90 [] = c90 := rfl
set_option maxRecDepth 100000 in
theorem B90_0 {x : List Int} {d : Nat} {s : zSt} {Q : zQ} {x1 : Int} {x2 : Int}  (h : zE x d 86 [.inr (.inl 10), .inl x1] s (fun r s1 => zJ x d 90 5 [some (.inr (.inl 10)), some (.inl x1), some (.inl x2)] (zAp r []) s1 Q)) : zJ x d 90 0 [some (.inr (.inl 10)), some (.inl x1), some (.inl x2)] [] s Q := zJ_of (b := b90_0) (by rw [kBlk, kb_90]; rfl) h
set_option maxRecDepth 100000 in
theorem B90_5 {x : List Int} {d : Nat} {s : zSt} {Q : zQ} {x1 : Int} {x2 : Int} {y0 : Int}  (h : (¬ y0 = 0 → zJ x d 90 10 [some (.inr (.inl 10)), some (.inl x1), some (.inl x2)] [] s Q) ∧ (¬ (¬ y0 = 0) → Q (some (.inl (-1))) s)) : zJ x d 90 5 [some (.inr (.inl 10)), some (.inl x1), some (.inl x2)] [.inl y0] s Q := zJ_of (b := b90_5) (by rw [kBlk, kb_90]; rfl) h
set_option maxRecDepth 100000 in
theorem B90_10 {x : List Int} {d : Nat} {s : zSt} {Q : zQ} {x1 : Int} {x2 : Int}  (h : (0 : Int) ≤ x1 ∧ (x1 : Int) < 6 ∧ ((¬ s 38 (x1).toNat = 6 → zJ x d 90 26 [some (.inr (.inl 10)), some (.inl x1), some (.inl x2)] [] s Q) ∧ (¬ (¬ s 38 (x1).toNat = 6) → zJ x d 90 42 [some (.inr (.inl 10)), some (.inl x1), some (.inl x2)] [.inl (-11)] s Q))) : zJ x d 90 10 [some (.inr (.inl 10)), some (.inl x1), some (.inl x2)] [] s Q := zJ_of (b := b90_10) (by rw [kBlk, kb_90]; rfl) h
set_option maxRecDepth 100000 in
theorem B90_26 {x : List Int} {d : Nat} {s : zSt} {Q : zQ} {x1 : Int} {x2 : Int}  (h : (0 : Int) ≤ x1 ∧ (x1 : Int) < 6 ∧ ((s 38 (x1).toNat = x2 → zJ x d 90 41 [some (.inr (.inl 10)), some (.inl x1), some (.inl x2)] [] s Q) ∧ (¬ (s 38 (x1).toNat = x2) → zJ x d 90 42 [some (.inr (.inl 10)), some (.inl x1), some (.inl x2)] [.inl (-12)] s Q))) : zJ x d 90 26 [some (.inr (.inl 10)), some (.inl x1), some (.inl x2)] [] s Q := zJ_of (b := b90_26) (by rw [kBlk, kb_90]; rfl) h
set_option maxRecDepth 100000 in
theorem B90_41 {x : List Int} {d : Nat} {s : zSt} {Q : zQ} {x1 : Int} {x2 : Int}  (h : zJ x d 90 42 [some (.inr (.inl 10)), some (.inl x1), some (.inl x2)] [.inl 0] s Q) : zJ x d 90 41 [some (.inr (.inl 10)), some (.inl x1), some (.inl x2)] [] s Q := zJ_of (b := b90_41) (by rw [kBlk, kb_90]; rfl) h
set_option maxRecDepth 100000 in
theorem B90_42 {x : List Int} {d : Nat} {s : zSt} {Q : zQ} {x1 : Int} {x2 : Int} {y0 : Int}  (h : Q (some (.inl y0)) s) : zJ x d 90 42 [some (.inr (.inl 10)), some (.inl x1), some (.inl x2)] [.inl y0] s Q := zJ_of (b := b90_42) (by rw [kBlk, kb_90]; rfl) h
set_option maxRecDepth 100000 in
theorem N90 {x : List Int} {d : Nat} {s : zSt} {Q : zQ} {x1 : Int} {x2 : Int} (h : zJ x d 90 0 [some (.inr (.inl 10)), some (.inl x1), some (.inl x2)] [] s Q) : zE x (d + 1) 90 [.inr (.inl 10), .inl x1, .inl x2] s Q := zE_of (n := 3) rfl rfl rfl rfl (fun h => (zLok_some (h _ (List.mem_of_getElem? (i := 0) rfl)) (zLok_some (h _ (List.mem_of_getElem? (i := 1) rfl)) (zLok_some (h _ (List.mem_of_getElem? (i := 2) rfl)) zLok_nil)))) h
-- 91: PennyALap$Shelves.placeRefusal
set_option maxRecDepth 100000 in
theorem kb_91 : kBls.getD 91 [] = c91 := rfl
set_option maxRecDepth 100000 in
theorem B91_0 {x : List Int} {d : Nat} {s : zSt} {Q : zQ} {x1 : Int} {x2 : Int}  (h : zE x d 86 [.inr (.inl 10), .inl x1] s (fun r s1 => zJ x d 91 5 [some (.inr (.inl 10)), some (.inl x1), some (.inl x2)] (zAp r []) s1 Q)) : zJ x d 91 0 [some (.inr (.inl 10)), some (.inl x1), some (.inl x2)] [] s Q := zJ_of (b := b91_0) (by rw [kBlk, kb_91]; rfl) h
set_option maxRecDepth 100000 in
theorem B91_5 {x : List Int} {d : Nat} {s : zSt} {Q : zQ} {x1 : Int} {x2 : Int} {y0 : Int}  (h : (¬ y0 = 0 → zJ x d 91 10 [some (.inr (.inl 10)), some (.inl x1), some (.inl x2)] [] s Q) ∧ (¬ (¬ y0 = 0) → Q (some (.inl (-1))) s)) : zJ x d 91 5 [some (.inr (.inl 10)), some (.inl x1), some (.inl x2)] [.inl y0] s Q := zJ_of (b := b91_5) (by rw [kBlk, kb_91]; rfl) h
set_option maxRecDepth 100000 in
theorem B91_10 {x : List Int} {d : Nat} {s : zSt} {Q : zQ} {x1 : Int} {x2 : Int}  (h : (0 : Int) ≤ x1 ∧ (x1 : Int) < 6 ∧ ((¬ s 38 (x1).toNat = 6 → zJ x d 91 24 [some (.inr (.inl 10)), some (.inl x1), some (.inl x2)] [] s Q) ∧ (¬ (¬ s 38 (x1).toNat = 6) → Q (some (.inl (-11))) s))) : zJ x d 91 10 [some (.inr (.inl 10)), some (.inl x1), some (.inl x2)] [] s Q := zJ_of (b := b91_10) (by rw [kBlk, kb_91]; rfl) h
set_option maxRecDepth 100000 in
theorem B91_24 {x : List Int} {d : Nat} {s : zSt} {Q : zQ} {x1 : Int} {x2 : Int}  (h : zE x d 88 [.inr (.inl 10), .inl x1] s (fun r s1 => zJ x d 91 29 [some (.inr (.inl 10)), some (.inl x1), some (.inl x2)] (zAp r []) s1 Q)) : zJ x d 91 24 [some (.inr (.inl 10)), some (.inl x1), some (.inl x2)] [] s Q := zJ_of (b := b91_24) (by rw [kBlk, kb_91]; rfl) h
set_option maxRecDepth 100000 in
theorem B91_29 {x : List Int} {d : Nat} {s : zSt} {Q : zQ} {x1 : Int} {x2 : Int} {y0 : Int}  (h : (¬ y0 = 0 → zJ x d 91 37 [some (.inr (.inl 10)), some (.inl x1), some (.inl x2)] [] s Q) ∧ (¬ (¬ y0 = 0) → zJ x d 91 52 [some (.inr (.inl 10)), some (.inl x1), some (.inl x2)] [.inl (-12)] s Q)) : zJ x d 91 29 [some (.inr (.inl 10)), some (.inl x1), some (.inl x2)] [.inl y0] s Q := zJ_of (b := b91_29) (by rw [kBlk, kb_91]; rfl) h
set_option maxRecDepth 100000 in
theorem B91_37 {x : List Int} {d : Nat} {s : zSt} {Q : zQ} {x1 : Int} {x2 : Int}  (h : zE x d 92 [.inr (.inl 10), .inl x1, .inl x2] s (fun r s1 => zJ x d 91 43 [some (.inr (.inl 10)), some (.inl x1), some (.inl x2)] (zAp r []) s1 Q)) : zJ x d 91 37 [some (.inr (.inl 10)), some (.inl x1), some (.inl x2)] [] s Q := zJ_of (b := b91_37) (by rw [kBlk, kb_91]; rfl) h
set_option maxRecDepth 100000 in
theorem B91_43 {x : List Int} {d : Nat} {s : zSt} {Q : zQ} {x1 : Int} {x2 : Int} {y0 : Int}  (h : (¬ y0 = 0 → zJ x d 91 51 [some (.inr (.inl 10)), some (.inl x1), some (.inl x2)] [] s Q) ∧ (¬ (¬ y0 = 0) → zJ x d 91 52 [some (.inr (.inl 10)), some (.inl x1), some (.inl x2)] [.inl (-13)] s Q)) : zJ x d 91 43 [some (.inr (.inl 10)), some (.inl x1), some (.inl x2)] [.inl y0] s Q := zJ_of (b := b91_43) (by rw [kBlk, kb_91]; rfl) h
set_option maxRecDepth 100000 in
theorem B91_51 {x : List Int} {d : Nat} {s : zSt} {Q : zQ} {x1 : Int} {x2 : Int}  (h : zJ x d 91 52 [some (.inr (.inl 10)), some (.inl x1), some (.inl x2)] [.inl 0] s Q) : zJ x d 91 51 [some (.inr (.inl 10)), some (.inl x1), some (.inl x2)] [] s Q := zJ_of (b := b91_51) (by rw [kBlk, kb_91]; rfl) h
set_option maxRecDepth 100000 in
theorem B91_52 {x : List Int} {d : Nat} {s : zSt} {Q : zQ} {x1 : Int} {x2 : Int} {y0 : Int}  (h : Q (some (.inl y0)) s) : zJ x d 91 52 [some (.inr (.inl 10)), some (.inl x1), some (.inl x2)] [.inl y0] s Q := zJ_of (b := b91_52) (by rw [kBlk, kb_91]; rfl) h
set_option maxRecDepth 100000 in
theorem N91 {x : List Int} {d : Nat} {s : zSt} {Q : zQ} {x1 : Int} {x2 : Int} (h : zJ x d 91 0 [some (.inr (.inl 10)), some (.inl x1), some (.inl x2)] [] s Q) : zE x (d + 1) 91 [.inr (.inl 10), .inl x1, .inl x2] s Q := zE_of (n := 3) rfl rfl rfl rfl (fun h => (zLok_some (h _ (List.mem_of_getElem? (i := 0) rfl)) (zLok_some (h _ (List.mem_of_getElem? (i := 1) rfl)) (zLok_some (h _ (List.mem_of_getElem? (i := 2) rfl)) zLok_nil)))) h
-- 92: PennyALap$Shelves.isPlace
set_option maxRecDepth 100000 in
theorem kb_92 : kBls.getD 92 [] = c92 := rfl
set_option maxRecDepth 100000 in
theorem B92_0 {x : List Int} {d : Nat} {s : zSt} {Q : zQ} {x1 : Int} {x2 : Int}  (h : zE x d 88 [.inr (.inl 10), .inl x1] s (fun r s1 => zJ x d 92 5 [some (.inr (.inl 10)), some (.inl x1), some (.inl x2)] (zAp r []) s1 Q)) : zJ x d 92 0 [some (.inr (.inl 10)), some (.inl x1), some (.inl x2)] [] s Q := zJ_of (b := b92_0) (by rw [kBlk, kb_92]; rfl) h
set_option maxRecDepth 100000 in
theorem B92_5 {x : List Int} {d : Nat} {s : zSt} {Q : zQ} {x1 : Int} {x2 : Int} {y0 : Int}  (h : (y0 = 0 → zJ x d 92 26 [some (.inr (.inl 10)), some (.inl x1), some (.inl x2)] [] s Q) ∧ (¬ (y0 = 0) → (x2 < 0 → zJ x d 92 26 [some (.inr (.inl 10)), some (.inl x1), some (.inl x2)] [] s Q) ∧ (¬ (x2 < 0) → (0 : Int) ≤ x1 ∧ (x1 : Int) < 6 ∧ ((s 39 (x1).toNat ≤ x2 → zJ x d 92 26 [some (.inr (.inl 10)), some (.inl x1), some (.inl x2)] [] s Q) ∧ (¬ (s 39 (x1).toNat ≤ x2) → zJ x d 92 27 [some (.inr (.inl 10)), some (.inl x1), some (.inl x2)] [.inl 1] s Q))))) : zJ x d 92 5 [some (.inr (.inl 10)), some (.inl x1), some (.inl x2)] [.inl y0] s Q := zJ_of (b := b92_5) (by rw [kBlk, kb_92]; rfl) h
set_option maxRecDepth 100000 in
theorem B92_26 {x : List Int} {d : Nat} {s : zSt} {Q : zQ} {x1 : Int} {x2 : Int}  (h : zJ x d 92 27 [some (.inr (.inl 10)), some (.inl x1), some (.inl x2)] [.inl 0] s Q) : zJ x d 92 26 [some (.inr (.inl 10)), some (.inl x1), some (.inl x2)] [] s Q := zJ_of (b := b92_26) (by rw [kBlk, kb_92]; rfl) h
set_option maxRecDepth 100000 in
theorem B92_27 {x : List Int} {d : Nat} {s : zSt} {Q : zQ} {x1 : Int} {x2 : Int} {y0 : Int}  (h : ((y0 : Int) = 0 ∨ (y0 : Int) = 1) ∧ Q (some (.inl y0)) s) : zJ x d 92 27 [some (.inr (.inl 10)), some (.inl x1), some (.inl x2)] [.inl y0] s Q := zJ_of (b := b92_27) (by rw [kBlk, kb_92]; rfl) h
set_option maxRecDepth 100000 in
theorem N92 {x : List Int} {d : Nat} {s : zSt} {Q : zQ} {x1 : Int} {x2 : Int} (h : zJ x d 92 0 [some (.inr (.inl 10)), some (.inl x1), some (.inl x2)] [] s Q) : zE x (d + 1) 92 [.inr (.inl 10), .inl x1, .inl x2] s Q := zE_of (n := 3) rfl rfl rfl rfl (fun h => (zLok_some (h _ (List.mem_of_getElem? (i := 0) rfl)) (zLok_some (h _ (List.mem_of_getElem? (i := 1) rfl)) (zLok_some (h _ (List.mem_of_getElem? (i := 2) rfl)) zLok_nil)))) h
-- 93: PennyALap$Shelves.size
set_option maxRecDepth 100000 in
theorem kb_93 : kBls.getD 93 [] = c93 := rfl
set_option maxRecDepth 100000 in
theorem B93_0 {x : List Int} {d : Nat} {s : zSt} {Q : zQ} {x1 : Int}  (h : zE x d 88 [.inr (.inl 10), .inl x1] s (fun r s1 => zJ x d 93 5 [some (.inr (.inl 10)), some (.inl x1)] (zAp r []) s1 Q)) : zJ x d 93 0 [some (.inr (.inl 10)), some (.inl x1)] [] s Q := zJ_of (b := b93_0) (by rw [kBlk, kb_93]; rfl) h
set_option maxRecDepth 100000 in
theorem B93_5 {x : List Int} {d : Nat} {s : zSt} {Q : zQ} {x1 : Int} {y0 : Int}  (h : (y0 = 0 → zJ x d 93 17 [some (.inr (.inl 10)), some (.inl x1)] [] s Q) ∧ (¬ (y0 = 0) → (0 : Int) ≤ x1 ∧ (x1 : Int) < 6 ∧ (zJ x d 93 18 [some (.inr (.inl 10)), some (.inl x1)] [.inl (s 39 (x1).toNat)] s Q))) : zJ x d 93 5 [some (.inr (.inl 10)), some (.inl x1)] [.inl y0] s Q := zJ_of (b := b93_5) (by rw [kBlk, kb_93]; rfl) h
set_option maxRecDepth 100000 in
theorem B93_17 {x : List Int} {d : Nat} {s : zSt} {Q : zQ} {x1 : Int}  (h : zJ x d 93 18 [some (.inr (.inl 10)), some (.inl x1)] [.inl 0] s Q) : zJ x d 93 17 [some (.inr (.inl 10)), some (.inl x1)] [] s Q := zJ_of (b := b93_17) (by rw [kBlk, kb_93]; rfl) h
set_option maxRecDepth 100000 in
theorem B93_18 {x : List Int} {d : Nat} {s : zSt} {Q : zQ} {x1 : Int} {y0 : Int}  (h : Q (some (.inl y0)) s) : zJ x d 93 18 [some (.inr (.inl 10)), some (.inl x1)] [.inl y0] s Q := zJ_of (b := b93_18) (by rw [kBlk, kb_93]; rfl) h
set_option maxRecDepth 100000 in
theorem N93 {x : List Int} {d : Nat} {s : zSt} {Q : zQ} {x1 : Int} (h : zJ x d 93 0 [some (.inr (.inl 10)), some (.inl x1)] [] s Q) : zE x (d + 1) 93 [.inr (.inl 10), .inl x1] s Q := zE_of (n := 2) rfl rfl rfl rfl (fun h => (zLok_some (h _ (List.mem_of_getElem? (i := 0) rfl)) (zLok_some (h _ (List.mem_of_getElem? (i := 1) rfl)) zLok_nil))) h
-- 94: PennyALap$Shelves.bodyOn
set_option maxRecDepth 100000 in
theorem kb_94 : kBls.getD 94 [] = c94 := rfl
set_option maxRecDepth 100000 in
theorem B94_0 {x : List Int} {d : Nat} {s : zSt} {Q : zQ} {x1 : Int}  (h : zE x d 86 [.inr (.inl 10), .inl x1] s (fun r s1 => zJ x d 94 5 [some (.inr (.inl 10)), some (.inl x1)] (zAp r []) s1 Q)) : zJ x d 94 0 [some (.inr (.inl 10)), some (.inl x1)] [] s Q := zJ_of (b := b94_0) (by rw [kBlk, kb_94]; rfl) h
set_option maxRecDepth 100000 in
theorem B94_5 {x : List Int} {d : Nat} {s : zSt} {Q : zQ} {x1 : Int} {y0 : Int}  (h : (y0 = 0 → zJ x d 94 27 [some (.inr (.inl 10)), some (.inl x1)] [] s Q) ∧ (¬ (y0 = 0) → (0 : Int) ≤ x1 ∧ (x1 : Int) < 6 ∧ ((¬ s 38 (x1).toNat = 5 → zJ x d 94 27 [some (.inr (.inl 10)), some (.inl x1)] [] s Q) ∧ (¬ (¬ s 38 (x1).toNat = 5) → (0 : Int) ≤ x1 ∧ (x1 : Int) < 6 ∧ (zJ x d 94 28 [some (.inr (.inl 10)), some (.inl x1)] [.inl (s 40 (x1).toNat)] s Q))))) : zJ x d 94 5 [some (.inr (.inl 10)), some (.inl x1)] [.inl y0] s Q := zJ_of (b := b94_5) (by rw [kBlk, kb_94]; rfl) h
set_option maxRecDepth 100000 in
theorem B94_27 {x : List Int} {d : Nat} {s : zSt} {Q : zQ} {x1 : Int}  (h : zJ x d 94 28 [some (.inr (.inl 10)), some (.inl x1)] [.inl (-1)] s Q) : zJ x d 94 27 [some (.inr (.inl 10)), some (.inl x1)] [] s Q := zJ_of (b := b94_27) (by rw [kBlk, kb_94]; rfl) h
set_option maxRecDepth 100000 in
theorem B94_28 {x : List Int} {d : Nat} {s : zSt} {Q : zQ} {x1 : Int} {y0 : Int}  (h : Q (some (.inl y0)) s) : zJ x d 94 28 [some (.inr (.inl 10)), some (.inl x1)] [.inl y0] s Q := zJ_of (b := b94_28) (by rw [kBlk, kb_94]; rfl) h
set_option maxRecDepth 100000 in
theorem N94 {x : List Int} {d : Nat} {s : zSt} {Q : zQ} {x1 : Int} (h : zJ x d 94 0 [some (.inr (.inl 10)), some (.inl x1)] [] s Q) : zE x (d + 1) 94 [.inr (.inl 10), .inl x1] s Q := zE_of (n := 2) rfl rfl rfl rfl (fun h => (zLok_some (h _ (List.mem_of_getElem? (i := 0) rfl)) (zLok_some (h _ (List.mem_of_getElem? (i := 1) rfl)) zLok_nil))) h
-- 95: PennyALap$Shelves.hold
set_option maxRecDepth 100000 in
theorem kb_95 : kBls.getD 95 [] = c95 := rfl
set_option maxRecDepth 100000 in
theorem B95_0 {x : List Int} {d : Nat} {s : zSt} {Q : zQ} {x1 : Int} {x2 : Int}  (h : zE x d 86 [.inr (.inl 10), .inl x1] s (fun r s1 => zJ x d 95 5 [some (.inr (.inl 10)), some (.inl x1), some (.inl x2)] (zAp r []) s1 Q)) : zJ x d 95 0 [some (.inr (.inl 10)), some (.inl x1), some (.inl x2)] [] s Q := zJ_of (b := b95_0) (by rw [kBlk, kb_95]; rfl) h
set_option maxRecDepth 100000 in
theorem B95_5 {x : List Int} {d : Nat} {s : zSt} {Q : zQ} {x1 : Int} {x2 : Int} {y0 : Int}  (h : (y0 = 0 → zJ x d 95 32 [some (.inr (.inl 10)), some (.inl x1), some (.inl x2)] [] s Q) ∧ (¬ (y0 = 0) → (¬ x2 = (-1) → zJ x d 95 23 [some (.inr (.inl 10)), some (.inl x1), some (.inl x2)] [.inl x1, .inr (.inl 38)] s Q) ∧ (¬ (¬ x2 = (-1)) → zJ x d 95 24 [some (.inr (.inl 10)), some (.inl x1), some (.inl x2)] [.inl 6, .inl x1, .inr (.inl 38)] s Q))) : zJ x d 95 5 [some (.inr (.inl 10)), some (.inl x1), some (.inl x2)] [.inl y0] s Q := zJ_of (b := b95_5) (by rw [kBlk, kb_95]; rfl) h
set_option maxRecDepth 100000 in
theorem B95_23 {x : List Int} {d : Nat} {s : zSt} {Q : zQ} {x1 : Int} {x2 : Int} {y0 : Int}  (h : zJ x d 95 24 [some (.inr (.inl 10)), some (.inl x1), some (.inl x2)] [.inl 5, .inl y0, .inr (.inl 38)] s Q) : zJ x d 95 23 [some (.inr (.inl 10)), some (.inl x1), some (.inl x2)] [.inl y0, .inr (.inl 38)] s Q := zJ_of (b := b95_23) (by rw [kBlk, kb_95]; rfl) h
set_option maxRecDepth 100000 in
theorem B95_24 {x : List Int} {d : Nat} {s : zSt} {Q : zQ} {x1 : Int} {x2 : Int} {y0 : Int} {y1 : Int}  (h : (0 : Int) ≤ y1 ∧ (y1 : Int) < 6 ∧ ((0 : Int) ≤ x1 ∧ (x1 : Int) < 6 ∧ (zJ x d 95 32 [some (.inr (.inl 10)), some (.inl x1), some (.inl x2)] [] (zU (zU s 38 (y1).toNat y0) 40 (x1).toNat x2) Q))) : zJ x d 95 24 [some (.inr (.inl 10)), some (.inl x1), some (.inl x2)] [.inl y0, .inl y1, .inr (.inl 38)] s Q := zJ_of (b := b95_24) (by rw [kBlk, kb_95]; rfl) h
set_option maxRecDepth 100000 in
theorem B95_32 {x : List Int} {d : Nat} {s : zSt} {Q : zQ} {x1 : Int} {x2 : Int}  (h : Q none s) : zJ x d 95 32 [some (.inr (.inl 10)), some (.inl x1), some (.inl x2)] [] s Q := zJ_of (b := b95_32) (by rw [kBlk, kb_95]; rfl) h
set_option maxRecDepth 100000 in
theorem N95 {x : List Int} {d : Nat} {s : zSt} {Q : zQ} {x1 : Int} {x2 : Int} (h : zJ x d 95 0 [some (.inr (.inl 10)), some (.inl x1), some (.inl x2)] [] s Q) : zE x (d + 1) 95 [.inr (.inl 10), .inl x1, .inl x2] s Q := zE_of (n := 3) rfl rfl rfl rfl (fun h => (zLok_some (h _ (List.mem_of_getElem? (i := 0) rfl)) (zLok_some (h _ (List.mem_of_getElem? (i := 1) rfl)) (zLok_some (h _ (List.mem_of_getElem? (i := 2) rfl)) zLok_nil)))) h
-- 96: PennyALap$Shelves.holdRow
set_option maxRecDepth 100000 in
theorem kb_96 : kBls.getD 96 [] = c96 := rfl
set_option maxRecDepth 100000 in
theorem B96_0 {x : List Int} {d : Nat} {s : zSt} {Q : zQ} {x1 : Int} {x2 : Int} {x3 : Int}  (h : zE x d 86 [.inr (.inl 10), .inl x1] s (fun r s1 => zJ x d 96 5 [some (.inr (.inl 10)), some (.inl x1), some (.inl x2), some (.inl x3), none] (zAp r []) s1 Q)) : zJ x d 96 0 [some (.inr (.inl 10)), some (.inl x1), some (.inl x2), some (.inl x3), none] [] s Q := zJ_of (b := b96_0) (by rw [kBlk, kb_96]; rfl) h
set_option maxRecDepth 100000 in
theorem B96_5 {x : List Int} {d : Nat} {s : zSt} {Q : zQ} {x1 : Int} {x2 : Int} {x3 : Int} {y0 : Int}  (h : (y0 = 0 → zJ x d 96 60 [some (.inr (.inl 10)), some (.inl x1), some (.inl x2), some (.inl x3), none] [] s Q) ∧ (¬ (y0 = 0) → (x3 < 0 → zJ x d 96 60 [some (.inr (.inl 10)), some (.inl x1), some (.inl x2), some (.inl x3), none] [] s Q) ∧ (¬ (x3 < 0) → (60 < x3 → zJ x d 96 60 [some (.inr (.inl 10)), some (.inl x1), some (.inl x2), some (.inl x3), none] [] s Q) ∧ (¬ (60 < x3) → (0 : Int) ≤ x1 ∧ (x1 : Int) < 6 ∧ ((0 : Int) ≤ x1 ∧ (x1 : Int) < 6 ∧ (zJ x d 96 35 [some (.inr (.inl 10)), some (.inl x1), some (.inl x2), some (.inl x3), some (.inl 0)] [] (zU (zU s 38 (x1).toNat x2) 39 (x1).toNat x3) Q)))))) : zJ x d 96 5 [some (.inr (.inl 10)), some (.inl x1), some (.inl x2), some (.inl x3), none] [.inl y0] s Q := zJ_of (b := b96_5) (by rw [kBlk, kb_96]; rfl) h
set_option maxRecDepth 100000 in
theorem B96_35 {x : List Int} {d : Nat} {s : zSt} {Q : zQ} {x1 : Int} {x2 : Int} {x3 : Int} {x4 : Int}  (h : (x3 ≤ x4 → zJ x d 96 60 [some (.inr (.inl 10)), some (.inl x1), some (.inl x2), some (.inl x3), some (.inl x4)] [] s Q) ∧ (¬ (x3 ≤ x4) → (0 : Int) ≤ wr ((wr (x1 * 60)) + x4) ∧ (wr ((wr (x1 * 60)) + x4) : Int) < 360 ∧ (zJ x d 96 35 [some (.inr (.inl 10)), some (.inl x1), some (.inl x2), some (.inl x3), some (.inl (wr (x4 + 1)))] [] (zU s 41 (wr ((wr (x1 * 60)) + x4)).toNat 0) Q))) : zJ x d 96 35 [some (.inr (.inl 10)), some (.inl x1), some (.inl x2), some (.inl x3), some (.inl x4)] [] s Q := zJ_of (b := b96_35) (by rw [kBlk, kb_96]; rfl) h
set_option maxRecDepth 100000 in
theorem B96_60 {x : List Int} {d : Nat} {s : zSt} {Q : zQ} {x1 : Int} {x2 : Int} {x3 : Int} {o4 : Option zV}  (h : Q none s) : zJ x d 96 60 [some (.inr (.inl 10)), some (.inl x1), some (.inl x2), some (.inl x3), o4] [] s Q := zJ_of (b := b96_60) (by rw [kBlk, kb_96]; rfl) h
set_option maxRecDepth 100000 in
theorem N96 {x : List Int} {d : Nat} {s : zSt} {Q : zQ} {x1 : Int} {x2 : Int} {x3 : Int} (h : zJ x d 96 0 [some (.inr (.inl 10)), some (.inl x1), some (.inl x2), some (.inl x3), none] [] s Q) : zE x (d + 1) 96 [.inr (.inl 10), .inl x1, .inl x2, .inl x3] s Q := zE_of (n := 5) rfl rfl rfl rfl (fun h => (zLok_some (h _ (List.mem_of_getElem? (i := 0) rfl)) (zLok_some (h _ (List.mem_of_getElem? (i := 1) rfl)) (zLok_some (h _ (List.mem_of_getElem? (i := 2) rfl)) (zLok_some (h _ (List.mem_of_getElem? (i := 3) rfl)) (zLok_none zLok_nil)))))) h
-- 97: PennyALap$Shelves.value
set_option maxRecDepth 100000 in
theorem kb_97 : kBls.getD 97 [] = c97 := rfl
set_option maxRecDepth 100000 in
theorem B97_0 {x : List Int} {d : Nat} {s : zSt} {Q : zQ} {x1 : Int} {x2 : Int}  (h : zE x d 92 [.inr (.inl 10), .inl x1, .inl x2] s (fun r s1 => zJ x d 97 6 [some (.inr (.inl 10)), some (.inl x1), some (.inl x2)] (zAp r []) s1 Q)) : zJ x d 97 0 [some (.inr (.inl 10)), some (.inl x1), some (.inl x2)] [] s Q := zJ_of (b := b97_0) (by rw [kBlk, kb_97]; rfl) h
set_option maxRecDepth 100000 in
theorem B97_6 {x : List Int} {d : Nat} {s : zSt} {Q : zQ} {x1 : Int} {x2 : Int} {y0 : Int}  (h : (y0 = 0 → zJ x d 97 23 [some (.inr (.inl 10)), some (.inl x1), some (.inl x2)] [] s Q) ∧ (¬ (y0 = 0) → (0 : Int) ≤ wr ((wr (x1 * 60)) + x2) ∧ (wr ((wr (x1 * 60)) + x2) : Int) < 360 ∧ (zJ x d 97 24 [some (.inr (.inl 10)), some (.inl x1), some (.inl x2)] [.inr (.inr (s 41 (wr ((wr (x1 * 60)) + x2)).toNat))] s Q))) : zJ x d 97 6 [some (.inr (.inl 10)), some (.inl x1), some (.inl x2)] [.inl y0] s Q := zJ_of (b := b97_6) (by rw [kBlk, kb_97]; rfl) h
set_option maxRecDepth 100000 in
theorem B97_23 {x : List Int} {d : Nat} {s : zSt} {Q : zQ} {x1 : Int} {x2 : Int}  (h : zJ x d 97 24 [some (.inr (.inl 10)), some (.inl x1), some (.inl x2)] [.inr (.inr 0)] s Q) : zJ x d 97 23 [some (.inr (.inl 10)), some (.inl x1), some (.inl x2)] [] s Q := zJ_of (b := b97_23) (by rw [kBlk, kb_97]; rfl) h
set_option maxRecDepth 100000 in
theorem B97_24 {x : List Int} {d : Nat} {s : zSt} {Q : zQ} {x1 : Int} {x2 : Int} {y0 : Int}  (h : Q (some (.inr (.inr y0))) s) : zJ x d 97 24 [some (.inr (.inl 10)), some (.inl x1), some (.inl x2)] [.inr (.inr y0)] s Q := zJ_of (b := b97_24) (by rw [kBlk, kb_97]; rfl) h
set_option maxRecDepth 100000 in
theorem N97 {x : List Int} {d : Nat} {s : zSt} {Q : zQ} {x1 : Int} {x2 : Int} (h : zJ x d 97 0 [some (.inr (.inl 10)), some (.inl x1), some (.inl x2)] [] s Q) : zE x (d + 1) 97 [.inr (.inl 10), .inl x1, .inl x2] s Q := zE_of (n := 3) rfl rfl rfl rfl (fun h => (zLok_some (h _ (List.mem_of_getElem? (i := 0) rfl)) (zLok_some (h _ (List.mem_of_getElem? (i := 1) rfl)) (zLok_some (h _ (List.mem_of_getElem? (i := 2) rfl)) zLok_nil)))) h
-- 98: PennyALap$Shelves.become
set_option maxRecDepth 100000 in
theorem kb_98 : kBls.getD 98 [] = c98 := rfl
set_option maxRecDepth 100000 in
theorem B98_0 {x : List Int} {d : Nat} {s : zSt} {Q : zQ} {x1 : Int} {x2 : Int} {x3 : Int}  (h : zE x d 92 [.inr (.inl 10), .inl x1, .inl x2] s (fun r s1 => zJ x d 98 6 [some (.inr (.inl 10)), some (.inl x1), some (.inl x2), some (.inr (.inr x3)), none] (zAp r []) s1 Q)) : zJ x d 98 0 [some (.inr (.inl 10)), some (.inl x1), some (.inl x2), some (.inr (.inr x3)), none] [] s Q := zJ_of (b := b98_0) (by rw [kBlk, kb_98]; rfl) h
set_option maxRecDepth 100000 in
theorem B98_6 {x : List Int} {d : Nat} {s : zSt} {Q : zQ} {x1 : Int} {x2 : Int} {x3 : Int} {y0 : Int}  (h : (y0 = 0 → zJ x d 98 30 [some (.inr (.inl 10)), some (.inl x1), some (.inl x2), some (.inr (.inr x3)), none] [] s Q) ∧ (¬ (y0 = 0) → (0 : Int) ≤ x1 ∧ (x1 : Int) < 6 ∧ (zE x d 99 [.inl (s 38 (x1).toNat), .inr (.inr x3)] s (fun r s1 => zJ x d 98 29 [some (.inr (.inl 10)), some (.inl x1), some (.inl x2), some (.inr (.inr x3)), none] (zAp r [.inl (wr ((wr (x1 * 60)) + x2)), .inr (.inl 41)]) s1 Q)))) : zJ x d 98 6 [some (.inr (.inl 10)), some (.inl x1), some (.inl x2), some (.inr (.inr x3)), none] [.inl y0] s Q := zJ_of (b := b98_6) (by rw [kBlk, kb_98]; rfl) h
set_option maxRecDepth 100000 in
theorem B98_29 {x : List Int} {d : Nat} {s : zSt} {Q : zQ} {x1 : Int} {x2 : Int} {x3 : Int} {y0 : Int} {y1 : Int}  (h : (0 : Int) ≤ y1 ∧ (y1 : Int) < 360 ∧ (zJ x d 98 30 [some (.inr (.inl 10)), some (.inl x1), some (.inl x2), some (.inr (.inr x3)), none] [] (zU s 41 (y1).toNat y0) Q)) : zJ x d 98 29 [some (.inr (.inl 10)), some (.inl x1), some (.inl x2), some (.inr (.inr x3)), none] [.inr (.inr y0), .inl y1, .inr (.inl 41)] s Q := zJ_of (b := b98_29) (by rw [kBlk, kb_98]; rfl) h
set_option maxRecDepth 100000 in
theorem B98_30 {x : List Int} {d : Nat} {s : zSt} {Q : zQ} {x1 : Int} {x2 : Int} {x3 : Int}  (h : Q none s) : zJ x d 98 30 [some (.inr (.inl 10)), some (.inl x1), some (.inl x2), some (.inr (.inr x3)), none] [] s Q := zJ_of (b := b98_30) (by rw [kBlk, kb_98]; rfl) h
set_option maxRecDepth 100000 in
theorem N98 {x : List Int} {d : Nat} {s : zSt} {Q : zQ} {x1 : Int} {x2 : Int} {x3 : Int} (h : zJ x d 98 0 [some (.inr (.inl 10)), some (.inl x1), some (.inl x2), some (.inr (.inr x3)), none] [] s Q) : zE x (d + 1) 98 [.inr (.inl 10), .inl x1, .inl x2, .inr (.inr x3)] s Q := zE_of (n := 5) rfl rfl rfl rfl (fun h => (zLok_some (h _ (List.mem_of_getElem? (i := 0) rfl)) (zLok_some (h _ (List.mem_of_getElem? (i := 1) rfl)) (zLok_some (h _ (List.mem_of_getElem? (i := 2) rfl)) (zLok_some (h _ (List.mem_of_getElem? (i := 3) rfl)) (zLok_none zLok_nil)))))) h
-- 99: PennyALap$Shelves.cut
set_option maxRecDepth 100000 in
theorem kb_99 : kBls.getD 99 [] = c99 := rfl
set_option maxRecDepth 100000 in
theorem B99_0 {x : List Int} {d : Nat} {s : zSt} {Q : zQ} {x0 : Int} {x1 : Int}  (h : (x0 = 0 → zJ x d 99 32 [some (.inl x0), some (.inr (.inr x1)), none] [] s Q) ∧ (¬ x0 = 0 → (x0 = 1 → zJ x d 99 37 [some (.inl x0), some (.inr (.inr x1)), none] [] s Q) ∧ (¬ x0 = 1 → (x0 = 2 → zJ x d 99 42 [some (.inl x0), some (.inr (.inr x1)), none] [] s Q) ∧ (¬ x0 = 2 → (x0 = 3 → zJ x d 99 46 [some (.inl x0), some (.inr (.inr x1)), none] [] s Q) ∧ (¬ x0 = 3 → zJ x d 99 48 [some (.inl x0), some (.inr (.inr x1)), none] [] s Q))))) : zJ x d 99 0 [some (.inl x0), some (.inr (.inr x1)), none] [] s Q := zJ_of (b := b99_0) (by rw [kBlk, kb_99]; rfl) h
set_option maxRecDepth 100000 in
theorem B99_32 {x : List Int} {d : Nat} {s : zSt} {Q : zQ} {x0 : Int} {x1 : Int}  (h : Q (some (.inr (.inr (w8 (wr x1))))) s) : zJ x d 99 32 [some (.inl x0), some (.inr (.inr x1)), none] [] s Q := zJ_of (b := b99_32) (by rw [kBlk, kb_99]; rfl) h
set_option maxRecDepth 100000 in
theorem B99_37 {x : List Int} {d : Nat} {s : zSt} {Q : zQ} {x0 : Int} {x1 : Int}  (h : Q (some (.inr (.inr (w16 (wr x1))))) s) : zJ x d 99 37 [some (.inl x0), some (.inr (.inr x1)), none] [] s Q := zJ_of (b := b99_37) (by rw [kBlk, kb_99]; rfl) h
set_option maxRecDepth 100000 in
theorem B99_42 {x : List Int} {d : Nat} {s : zSt} {Q : zQ} {x0 : Int} {x1 : Int}  (h : Q (some (.inr (.inr (wr x1)))) s) : zJ x d 99 42 [some (.inl x0), some (.inr (.inr x1)), none] [] s Q := zJ_of (b := b99_42) (by rw [kBlk, kb_99]; rfl) h
set_option maxRecDepth 100000 in
theorem B99_46 {x : List Int} {d : Nat} {s : zSt} {Q : zQ} {x0 : Int} {x1 : Int}  (h : Q (some (.inr (.inr x1))) s) : zJ x d 99 46 [some (.inl x0), some (.inr (.inr x1)), none] [] s Q := zJ_of (b := b99_46) (by rw [kBlk, kb_99]; rfl) h
set_option maxRecDepth 100000 in
theorem B99_48 {x : List Int} {d : Nat} {s : zSt} {Q : zQ} {x0 : Int} {x1 : Int}  (h : ((if 0 < x1 then 1 else if x1 = 0 then 0 else (-1) : Int) = 0 → zJ x d 99 58 [some (.inl x0), some (.inr (.inr x1)), none] [] s Q) ∧ (¬ ((if 0 < x1 then 1 else if x1 = 0 then 0 else (-1) : Int) = 0) → zJ x d 99 59 [some (.inl x0), some (.inr (.inr x1)), none] [.inr (.inr 1)] s Q)) : zJ x d 99 48 [some (.inl x0), some (.inr (.inr x1)), none] [] s Q := zJ_of (b := b99_48) (by rw [kBlk, kb_99]; rfl) h
set_option maxRecDepth 100000 in
theorem B99_58 {x : List Int} {d : Nat} {s : zSt} {Q : zQ} {x0 : Int} {x1 : Int}  (h : zJ x d 99 59 [some (.inl x0), some (.inr (.inr x1)), none] [.inr (.inr 0)] s Q) : zJ x d 99 58 [some (.inl x0), some (.inr (.inr x1)), none] [] s Q := zJ_of (b := b99_58) (by rw [kBlk, kb_99]; rfl) h
set_option maxRecDepth 100000 in
theorem B99_59 {x : List Int} {d : Nat} {s : zSt} {Q : zQ} {x0 : Int} {x1 : Int} {y0 : Int}  (h : Q (some (.inr (.inr y0))) s) : zJ x d 99 59 [some (.inl x0), some (.inr (.inr x1)), none] [.inr (.inr y0)] s Q := zJ_of (b := b99_59) (by rw [kBlk, kb_99]; rfl) h
set_option maxRecDepth 100000 in
theorem N99 {x : List Int} {d : Nat} {s : zSt} {Q : zQ} {x0 : Int} {x1 : Int} (h : zJ x d 99 0 [some (.inl x0), some (.inr (.inr x1)), none] [] s Q) : zE x (d + 1) 99 [.inl x0, .inr (.inr x1)] s Q := zE_of (n := 3) rfl rfl rfl rfl (fun h => (zLok_some (h _ (List.mem_of_getElem? (i := 0) rfl)) (zLok_some (h _ (List.mem_of_getElem? (i := 1) rfl)) (zLok_none zLok_nil)))) h
-- 100: PennyALap$Shelves.hasPart
set_option maxRecDepth 100000 in
theorem kb_100 : kBls.getD 100 [] = c100 := rfl
set_option maxRecDepth 100000 in
theorem B100_0 {x : List Int} {d : Nat} {s : zSt} {Q : zQ} {x1 : Int} {x2 : Int} {x3 : Int}  (h : zE x d 88 [.inr (.inl 10), .inl x1] s (fun r s1 => zJ x d 100 5 [some (.inr (.inl 10)), some (.inl x1), some (.inl x2), some (.inl x3)] (zAp r []) s1 Q)) : zJ x d 100 0 [some (.inr (.inl 10)), some (.inl x1), some (.inl x2), some (.inl x3)] [] s Q := zJ_of (b := b100_0) (by rw [kBlk, kb_100]; rfl) h
set_option maxRecDepth 100000 in
theorem B100_5 {x : List Int} {d : Nat} {s : zSt} {Q : zQ} {x1 : Int} {x2 : Int} {x3 : Int} {y0 : Int}  (h : (y0 = 0 → zJ x d 100 42 [some (.inr (.inl 10)), some (.inl x1), some (.inl x2), some (.inl x3)] [] s Q) ∧ (¬ (y0 = 0) → (x2 < 0 → zJ x d 100 42 [some (.inr (.inl 10)), some (.inl x1), some (.inl x2), some (.inl x3)] [] s Q) ∧ (¬ (x2 < 0) → (x3 < 0 → zJ x d 100 42 [some (.inr (.inl 10)), some (.inl x1), some (.inl x2), some (.inl x3)] [] s Q) ∧ (¬ (x3 < 0) → (0 : Int) ≤ x1 ∧ (x1 : Int) < 6 ∧ ((s 39 (x1).toNat < x3 → zJ x d 100 42 [some (.inr (.inl 10)), some (.inl x1), some (.inl x2), some (.inl x3)] [] s Q) ∧ (¬ (s 39 (x1).toNat < x3) → (0 : Int) ≤ x1 ∧ (x1 : Int) < 6 ∧ ((wr ((s 39 (x1).toNat) - x3) < x2 → zJ x d 100 42 [some (.inr (.inl 10)), some (.inl x1), some (.inl x2), some (.inl x3)] [] s Q) ∧ (¬ (wr ((s 39 (x1).toNat) - x3) < x2) → zJ x d 100 43 [some (.inr (.inl 10)), some (.inl x1), some (.inl x2), some (.inl x3)] [.inl 1] s Q)))))))) : zJ x d 100 5 [some (.inr (.inl 10)), some (.inl x1), some (.inl x2), some (.inl x3)] [.inl y0] s Q := zJ_of (b := b100_5) (by rw [kBlk, kb_100]; rfl) h
set_option maxRecDepth 100000 in
theorem B100_42 {x : List Int} {d : Nat} {s : zSt} {Q : zQ} {x1 : Int} {x2 : Int} {x3 : Int}  (h : zJ x d 100 43 [some (.inr (.inl 10)), some (.inl x1), some (.inl x2), some (.inl x3)] [.inl 0] s Q) : zJ x d 100 42 [some (.inr (.inl 10)), some (.inl x1), some (.inl x2), some (.inl x3)] [] s Q := zJ_of (b := b100_42) (by rw [kBlk, kb_100]; rfl) h
set_option maxRecDepth 100000 in
theorem B100_43 {x : List Int} {d : Nat} {s : zSt} {Q : zQ} {x1 : Int} {x2 : Int} {x3 : Int} {y0 : Int}  (h : ((y0 : Int) = 0 ∨ (y0 : Int) = 1) ∧ Q (some (.inl y0)) s) : zJ x d 100 43 [some (.inr (.inl 10)), some (.inl x1), some (.inl x2), some (.inl x3)] [.inl y0] s Q := zJ_of (b := b100_43) (by rw [kBlk, kb_100]; rfl) h
set_option maxRecDepth 100000 in
theorem N100 {x : List Int} {d : Nat} {s : zSt} {Q : zQ} {x1 : Int} {x2 : Int} {x3 : Int} (h : zJ x d 100 0 [some (.inr (.inl 10)), some (.inl x1), some (.inl x2), some (.inl x3)] [] s Q) : zE x (d + 1) 100 [.inr (.inl 10), .inl x1, .inl x2, .inl x3] s Q := zE_of (n := 4) rfl rfl rfl rfl (fun h => (zLok_some (h _ (List.mem_of_getElem? (i := 0) rfl)) (zLok_some (h _ (List.mem_of_getElem? (i := 1) rfl)) (zLok_some (h _ (List.mem_of_getElem? (i := 2) rfl)) (zLok_some (h _ (List.mem_of_getElem? (i := 3) rfl)) zLok_nil))))) h
-- 101: PennyALap$Shelves.copyPart
set_option maxRecDepth 100000 in
theorem kb_101 : kBls.getD 101 [] = c101 := rfl
set_option maxRecDepth 100000 in
theorem B101_0 {x : List Int} {d : Nat} {s : zSt} {Q : zQ} {x1 : Int} {x2 : Int} {x3 : Int} {x4 : Int} {x5 : Int}  (h : zE x d 100 [.inr (.inl 10), .inl x1, .inl x2, .inl x5] s (fun r s1 => zJ x d 101 8 [some (.inr (.inl 10)), some (.inl x1), some (.inl x2), some (.inl x3), some (.inl x4), some (.inl x5)] (zAp r []) s1 Q)) : zJ x d 101 0 [some (.inr (.inl 10)), some (.inl x1), some (.inl x2), some (.inl x3), some (.inl x4), some (.inl x5)] [] s Q := zJ_of (b := b101_0) (by rw [kBlk, kb_101]; rfl) h
set_option maxRecDepth 100000 in
theorem B101_8 {x : List Int} {d : Nat} {s : zSt} {Q : zQ} {x1 : Int} {x2 : Int} {x3 : Int} {x4 : Int} {x5 : Int} {y0 : Int}  (h : (y0 = 0 → zJ x d 101 49 [some (.inr (.inl 10)), some (.inl x1), some (.inl x2), some (.inl x3), some (.inl x4), some (.inl x5)] [] s Q) ∧ (¬ (y0 = 0) → zE x d 100 [.inr (.inl 10), .inl x3, .inl x4, .inl x5] s (fun r s1 => zJ x d 101 20 [some (.inr (.inl 10)), some (.inl x1), some (.inl x2), some (.inl x3), some (.inl x4), some (.inl x5)] (zAp r []) s1 Q))) : zJ x d 101 8 [some (.inr (.inl 10)), some (.inl x1), some (.inl x2), some (.inl x3), some (.inl x4), some (.inl x5)] [.inl y0] s Q := zJ_of (b := b101_8) (by rw [kBlk, kb_101]; rfl) h
set_option maxRecDepth 100000 in
theorem B101_20 {x : List Int} {d : Nat} {s : zSt} {Q : zQ} {x1 : Int} {x2 : Int} {x3 : Int} {x4 : Int} {x5 : Int} {y0 : Int}  (h : (y0 = 0 → zJ x d 101 49 [some (.inr (.inl 10)), some (.inl x1), some (.inl x2), some (.inl x3), some (.inl x4), some (.inl x5)] [] s Q) ∧ (¬ (y0 = 0) → (0 : Int) ≤ wr ((wr (x1 * 60)) + x2) ∧ (0 : Int) ≤ wr ((wr (x3 * 60)) + x4) ∧ (0 : Int) ≤ x5 ∧ ((wr ((wr (x1 * 60)) + x2)) + x5 : Int) ≤ 360 ∧ ((wr ((wr (x3 * 60)) + x4)) + x5 : Int) ≤ 360 ∧ (zJ x d 101 49 [some (.inr (.inl 10)), some (.inl x1), some (.inl x2), some (.inl x3), some (.inl x4), some (.inl x5)] [] (zF s 41 (zCpF (s 41) (s 41) (wr ((wr (x1 * 60)) + x2)).toNat (wr ((wr (x3 * 60)) + x4)).toNat (x5).toNat)) Q))) : zJ x d 101 20 [some (.inr (.inl 10)), some (.inl x1), some (.inl x2), some (.inl x3), some (.inl x4), some (.inl x5)] [.inl y0] s Q := zJ_of (b := b101_20) (by rw [kBlk, kb_101]; rfl) h
set_option maxRecDepth 100000 in
theorem B101_49 {x : List Int} {d : Nat} {s : zSt} {Q : zQ} {x1 : Int} {x2 : Int} {x3 : Int} {x4 : Int} {x5 : Int}  (h : Q none s) : zJ x d 101 49 [some (.inr (.inl 10)), some (.inl x1), some (.inl x2), some (.inl x3), some (.inl x4), some (.inl x5)] [] s Q := zJ_of (b := b101_49) (by rw [kBlk, kb_101]; rfl) h
set_option maxRecDepth 100000 in
theorem N101 {x : List Int} {d : Nat} {s : zSt} {Q : zQ} {x1 : Int} {x2 : Int} {x3 : Int} {x4 : Int} {x5 : Int} (h : zJ x d 101 0 [some (.inr (.inl 10)), some (.inl x1), some (.inl x2), some (.inl x3), some (.inl x4), some (.inl x5)] [] s Q) : zE x (d + 1) 101 [.inr (.inl 10), .inl x1, .inl x2, .inl x3, .inl x4, .inl x5] s Q := zE_of (n := 6) rfl rfl rfl rfl (fun h => (zLok_some (h _ (List.mem_of_getElem? (i := 0) rfl)) (zLok_some (h _ (List.mem_of_getElem? (i := 1) rfl)) (zLok_some (h _ (List.mem_of_getElem? (i := 2) rfl)) (zLok_some (h _ (List.mem_of_getElem? (i := 3) rfl)) (zLok_some (h _ (List.mem_of_getElem? (i := 4) rfl)) (zLok_some (h _ (List.mem_of_getElem? (i := 5) rfl)) zLok_nil))))))) h
-- 102: PennyALap$Thought.lapsIn
set_option maxRecDepth 100000 in
theorem kb_102 : kBls.getD 102 [] = c102 := rfl
set_option maxRecDepth 100000 in
theorem B102_0 {x : List Int} {d : Nat} {s : zSt} {Q : zQ} {x1 : Int} {x2 : Int}  (h : zE x d 46 [.inr (.inl 2), .inl x1, .inl 2] s (fun r s1 => zJ x d 102 9 [some (.inr (.inl 4)), some (.inl x1), some (.inl x2), none, none, none] (zAp r []) s1 Q)) : zJ x d 102 0 [some (.inr (.inl 4)), some (.inl x1), some (.inl x2), none, none, none] [] s Q := zJ_of (b := b102_0) (by rw [kBlk, kb_102]; rfl) h
set_option maxRecDepth 100000 in
theorem B102_9 {x : List Int} {d : Nat} {s : zSt} {Q : zQ} {x1 : Int} {x2 : Int} {y0 : Int}  (h : zJ x d 102 16 [some (.inr (.inl 4)), some (.inl x1), some (.inl x2), some (.inl y0), some (.inl 0), some (.inl 0)] [] s Q) : zJ x d 102 9 [some (.inr (.inl 4)), some (.inl x1), some (.inl x2), none, none, none] [.inl y0] s Q := zJ_of (b := b102_9) (by rw [kBlk, kb_102]; rfl) h
set_option maxRecDepth 100000 in
theorem B102_16 {x : List Int} {d : Nat} {s : zSt} {Q : zQ} {x1 : Int} {x2 : Int} {x3 : Int} {x4 : Int} {x5 : Int}  (h : (x3 ≤ x5 → zJ x d 102 54 [some (.inr (.inl 4)), some (.inl x1), some (.inl x2), some (.inl x3), some (.inl x4), some (.inl x5)] [] s Q) ∧ (¬ (x3 ≤ x5) → zE x d 50 [.inr (.inl 2), .inl x1, .inl x5, .inl x4] s (fun r s1 => zJ x d 102 36 [some (.inr (.inl 4)), some (.inl x1), some (.inl x2), some (.inl x3), some (.inl x4), some (.inl x5)] (zAp r [.inl x4]) s1 Q))) : zJ x d 102 16 [some (.inr (.inl 4)), some (.inl x1), some (.inl x2), some (.inl x3), some (.inl x4), some (.inl x5)] [] s Q := zJ_of (b := b102_16) (by rw [kBlk, kb_102]; rfl) h
set_option maxRecDepth 100000 in
theorem B102_36 {x : List Int} {d : Nat} {s : zSt} {Q : zQ} {x1 : Int} {x2 : Int} {x3 : Int} {x4 : Int} {x5 : Int} {y0 : Int} {y1 : Int}  (h : (wr (y1 + y0) ≤ x2 → zJ x d 102 48 [some (.inr (.inl 4)), some (.inl x1), some (.inl x2), some (.inl x3), some (.inl (wr (y1 + y0))), some (.inl x5)] [] s Q) ∧ (¬ (wr (y1 + y0) ≤ x2) → Q (some (.inl x5)) s)) : zJ x d 102 36 [some (.inr (.inl 4)), some (.inl x1), some (.inl x2), some (.inl x3), some (.inl x4), some (.inl x5)] [.inl y0, .inl y1] s Q := zJ_of (b := b102_36) (by rw [kBlk, kb_102]; rfl) h
set_option maxRecDepth 100000 in
theorem B102_48 {x : List Int} {d : Nat} {s : zSt} {Q : zQ} {x1 : Int} {x2 : Int} {x3 : Int} {x4 : Int} {x5 : Int}  (h : zJ x d 102 16 [some (.inr (.inl 4)), some (.inl x1), some (.inl x2), some (.inl x3), some (.inl x4), some (.inl (wr (x5 + 1)))] [] s Q) : zJ x d 102 48 [some (.inr (.inl 4)), some (.inl x1), some (.inl x2), some (.inl x3), some (.inl x4), some (.inl x5)] [] s Q := zJ_of (b := b102_48) (by rw [kBlk, kb_102]; rfl) h
set_option maxRecDepth 100000 in
theorem B102_54 {x : List Int} {d : Nat} {s : zSt} {Q : zQ} {x1 : Int} {x2 : Int} {x3 : Int} {x4 : Int} {x5 : Int}  (h : Q (some (.inl x3)) s) : zJ x d 102 54 [some (.inr (.inl 4)), some (.inl x1), some (.inl x2), some (.inl x3), some (.inl x4), some (.inl x5)] [] s Q := zJ_of (b := b102_54) (by rw [kBlk, kb_102]; rfl) h
set_option maxRecDepth 100000 in
theorem N102 {x : List Int} {d : Nat} {s : zSt} {Q : zQ} {x1 : Int} {x2 : Int} (h : zJ x d 102 0 [some (.inr (.inl 4)), some (.inl x1), some (.inl x2), none, none, none] [] s Q) : zE x (d + 1) 102 [.inr (.inl 4), .inl x1, .inl x2] s Q := zE_of (n := 6) rfl rfl rfl rfl (fun h => (zLok_some (h _ (List.mem_of_getElem? (i := 0) rfl)) (zLok_some (h _ (List.mem_of_getElem? (i := 1) rfl)) (zLok_some (h _ (List.mem_of_getElem? (i := 2) rfl)) (zLok_none (zLok_none (zLok_none zLok_nil))))))) h
-- 103: PennyALap$Thought.think
set_option maxRecDepth 100000 in
theorem kb_103 : kBls.getD 103 [] = c103 := rfl
set_option maxRecDepth 100000 in
theorem B103_0 {x : List Int} {d : Nat} {s : zSt} {Q : zQ} {x1 : Int}  (h : zJ x d 103 2 [some (.inr (.inl 4)), some (.inl x1), some (.inl 0)] [] s Q) : zJ x d 103 0 [some (.inr (.inl 4)), some (.inl x1), none] [] s Q := zJ_of (b := b103_0) (by rw [kBlk, kb_103]; rfl) h
set_option maxRecDepth 100000 in
theorem B103_2 {x : List Int} {d : Nat} {s : zSt} {Q : zQ} {x1 : Int} {x2 : Int}  (h : zE x d 38 [.inr (.inl 2)] s (fun r s1 => zJ x d 103 10 [some (.inr (.inl 4)), some (.inl x1), some (.inl x2)] (zAp r [.inl x2]) s1 Q)) : zJ x d 103 2 [some (.inr (.inl 4)), some (.inl x1), some (.inl x2)] [] s Q := zJ_of (b := b103_2) (by rw [kBlk, kb_103]; rfl) h
set_option maxRecDepth 100000 in
theorem B103_10 {x : List Int} {d : Nat} {s : zSt} {Q : zQ} {x1 : Int} {x2 : Int} {y0 : Int} {y1 : Int}  (h : (y0 ≤ y1 → zJ x d 103 31 [some (.inr (.inl 4)), some (.inl x1), some (.inl x2)] [] s Q) ∧ (¬ (y0 ≤ y1) → zE x d 102 [.inr (.inl 4), .inl x2, .inl x1] s (fun r s1 => zJ x d 103 24 [some (.inr (.inl 4)), some (.inl x1), some (.inl x2)] (zAp r [.inl x2, .inr (.inl 21)]) s1 Q))) : zJ x d 103 10 [some (.inr (.inl 4)), some (.inl x1), some (.inl x2)] [.inl y0, .inl y1] s Q := zJ_of (b := b103_10) (by rw [kBlk, kb_103]; rfl) h
set_option maxRecDepth 100000 in
theorem B103_24 {x : List Int} {d : Nat} {s : zSt} {Q : zQ} {x1 : Int} {x2 : Int} {y0 : Int} {y1 : Int}  (h : (0 : Int) ≤ y1 ∧ (y1 : Int) < 6 ∧ (zJ x d 103 2 [some (.inr (.inl 4)), some (.inl x1), some (.inl (wr (x2 + 1)))] [] (zU s 21 (y1).toNat y0) Q)) : zJ x d 103 24 [some (.inr (.inl 4)), some (.inl x1), some (.inl x2)] [.inl y0, .inl y1, .inr (.inl 21)] s Q := zJ_of (b := b103_24) (by rw [kBlk, kb_103]; rfl) h
set_option maxRecDepth 100000 in
theorem B103_31 {x : List Int} {d : Nat} {s : zSt} {Q : zQ} {x1 : Int} {x2 : Int}  (h : Q none s) : zJ x d 103 31 [some (.inr (.inl 4)), some (.inl x1), some (.inl x2)] [] s Q := zJ_of (b := b103_31) (by rw [kBlk, kb_103]; rfl) h
set_option maxRecDepth 100000 in
theorem N103 {x : List Int} {d : Nat} {s : zSt} {Q : zQ} {x1 : Int} (h : zJ x d 103 0 [some (.inr (.inl 4)), some (.inl x1), none] [] s Q) : zE x (d + 1) 103 [.inr (.inl 4), .inl x1] s Q := zE_of (n := 3) rfl rfl rfl rfl (fun h => (zLok_some (h _ (List.mem_of_getElem? (i := 0) rfl)) (zLok_some (h _ (List.mem_of_getElem? (i := 1) rfl)) (zLok_none zLok_nil)))) h
-- 104: PennyALap$Thought.lapsNow
set_option maxRecDepth 100000 in
theorem kb_104 : kBls.getD 104 [] = c104 := rfl
set_option maxRecDepth 100000 in
theorem B104_0 {x : List Int} {d : Nat} {s : zSt} {Q : zQ} {x1 : Int}  (h : zE x d 40 [.inr (.inl 2), .inl x1] s (fun r s1 => zJ x d 104 8 [some (.inr (.inl 4)), some (.inl x1)] (zAp r []) s1 Q)) : zJ x d 104 0 [some (.inr (.inl 4)), some (.inl x1)] [] s Q := zJ_of (b := b104_0) (by rw [kBlk, kb_104]; rfl) h
set_option maxRecDepth 100000 in
theorem B104_8 {x : List Int} {d : Nat} {s : zSt} {Q : zQ} {x1 : Int} {y0 : Int}  (h : (y0 = 0 → zJ x d 104 20 [some (.inr (.inl 4)), some (.inl x1)] [] s Q) ∧ (¬ (y0 = 0) → (0 : Int) ≤ x1 ∧ (x1 : Int) < 6 ∧ (zJ x d 104 21 [some (.inr (.inl 4)), some (.inl x1)] [.inl (s 21 (x1).toNat)] s Q))) : zJ x d 104 8 [some (.inr (.inl 4)), some (.inl x1)] [.inl y0] s Q := zJ_of (b := b104_8) (by rw [kBlk, kb_104]; rfl) h
set_option maxRecDepth 100000 in
theorem B104_20 {x : List Int} {d : Nat} {s : zSt} {Q : zQ} {x1 : Int}  (h : zJ x d 104 21 [some (.inr (.inl 4)), some (.inl x1)] [.inl 0] s Q) : zJ x d 104 20 [some (.inr (.inl 4)), some (.inl x1)] [] s Q := zJ_of (b := b104_20) (by rw [kBlk, kb_104]; rfl) h
set_option maxRecDepth 100000 in
theorem B104_21 {x : List Int} {d : Nat} {s : zSt} {Q : zQ} {x1 : Int} {y0 : Int}  (h : Q (some (.inl y0)) s) : zJ x d 104 21 [some (.inr (.inl 4)), some (.inl x1)] [.inl y0] s Q := zJ_of (b := b104_21) (by rw [kBlk, kb_104]; rfl) h
set_option maxRecDepth 100000 in
theorem N104 {x : List Int} {d : Nat} {s : zSt} {Q : zQ} {x1 : Int} (h : zJ x d 104 0 [some (.inr (.inl 4)), some (.inl x1)] [] s Q) : zE x (d + 1) 104 [.inr (.inl 4), .inl x1] s Q := zE_of (n := 2) rfl rfl rfl rfl (fun h => (zLok_some (h _ (List.mem_of_getElem? (i := 0) rfl)) (zLok_some (h _ (List.mem_of_getElem? (i := 1) rfl)) zLok_nil))) h
-- 105: PennyALap$Thought.timeLaps
set_option maxRecDepth 100000 in
theorem kb_105 : kBls.getD 105 [] = c105 := rfl
set_option maxRecDepth 100000 in
theorem B105_0 {x : List Int} {d : Nat} {s : zSt} {Q : zQ} {x1 : Int}  (h : zJ x d 105 2 [some (.inr (.inl 4)), some (.inl x1), some (.inl 0), none, none, none, none] [] s Q) : zJ x d 105 0 [some (.inr (.inl 4)), some (.inl x1), none, none, none, none, none] [] s Q := zJ_of (b := b105_0) (by rw [kBlk, kb_105]; rfl) h
set_option maxRecDepth 100000 in
theorem B105_2 {x : List Int} {d : Nat} {s : zSt} {Q : zQ} {x1 : Int} {x2 : Int} {o3 : Option zV} {o4 : Option zV} {o5 : Option zV} {o6 : Option zV}  (h : zE x d 38 [.inr (.inl 2)] s (fun r s1 => zJ x d 105 10 [some (.inr (.inl 4)), some (.inl x1), some (.inl x2), o3, o4, o5, o6] (zAp r [.inl x2]) s1 Q)) : zJ x d 105 2 [some (.inr (.inl 4)), some (.inl x1), some (.inl x2), o3, o4, o5, o6] [] s Q := zJ_of (b := b105_2) (by rw [kBlk, kb_105]; rfl) h
set_option maxRecDepth 100000 in
theorem B105_10 {x : List Int} {d : Nat} {s : zSt} {Q : zQ} {x1 : Int} {x2 : Int} {o3 : Option zV} {o4 : Option zV} {o5 : Option zV} {o6 : Option zV} {y0 : Int} {y1 : Int}  (h : (y0 ≤ y1 → zJ x d 105 132 [some (.inr (.inl 4)), some (.inl x1), some (.inl x2), o3, o4, o5, o6] [] s Q) ∧ (¬ (y0 ≤ y1) → zE x d 46 [.inr (.inl 2), .inl x2, .inl 2] s (fun r s1 => zJ x d 105 22 [some (.inr (.inl 4)), some (.inl x1), some (.inl x2), o3, o4, o5, o6] (zAp r []) s1 Q))) : zJ x d 105 10 [some (.inr (.inl 4)), some (.inl x1), some (.inl x2), o3, o4, o5, o6] [.inl y0, .inl y1] s Q := zJ_of (b := b105_10) (by rw [kBlk, kb_105]; rfl) h
set_option maxRecDepth 100000 in
theorem B105_22 {x : List Int} {d : Nat} {s : zSt} {Q : zQ} {x1 : Int} {x2 : Int} {o3 : Option zV} {o4 : Option zV} {o5 : Option zV} {o6 : Option zV} {y0 : Int}  (h : (0 : Int) ≤ x2 ∧ (x2 : Int) < 6 ∧ ((0 : Int) ≤ wr (x2 * 100) ∧ (wr (x2 * 100) : Int) < 600 ∧ (zJ x d 105 48 [some (.inr (.inl 4)), some (.inl x1), some (.inl x2), some (.inl (min y0 99)), some (.inl 0), o5, o6] [] (zU (zU s 23 (x2).toNat 0) 22 (wr (x2 * 100)).toNat 0) Q))) : zJ x d 105 22 [some (.inr (.inl 4)), some (.inl x1), some (.inl x2), o3, o4, o5, o6] [.inl y0] s Q := zJ_of (b := b105_22) (by rw [kBlk, kb_105]; rfl) h
set_option maxRecDepth 100000 in
theorem B105_48 {x : List Int} {d : Nat} {s : zSt} {Q : zQ} {x1 : Int} {x2 : Int} {x3 : Int} {x4 : Int} {o5 : Option zV} {o6 : Option zV}  (h : (x3 ≤ x4 → zJ x d 105 126 [some (.inr (.inl 4)), some (.inl x1), some (.inl x2), some (.inl x3), some (.inl x4), o5, o6] [] s Q) ∧ (¬ (x3 ≤ x4) → (0 : Int) ≤ wr ((wr (x2 * 100)) + x4) ∧ (wr ((wr (x2 * 100)) + x4) : Int) < 600 ∧ (zE x d 50 [.inr (.inl 2), .inl x2, .inl x4, .inl (s 22 (wr ((wr (x2 * 100)) + x4)).toNat)] s (fun r s1 => zJ x d 105 82 [some (.inr (.inl 4)), some (.inl x1), some (.inl x2), some (.inl x3), some (.inl x4), some (.inl (s 22 (wr ((wr (x2 * 100)) + x4)).toNat)), o6] (zAp r [.inl (s 22 (wr ((wr (x2 * 100)) + x4)).toNat)]) s1 Q)))) : zJ x d 105 48 [some (.inr (.inl 4)), some (.inl x1), some (.inl x2), some (.inl x3), some (.inl x4), o5, o6] [] s Q := zJ_of (b := b105_48) (by rw [kBlk, kb_105]; rfl) h
set_option maxRecDepth 100000 in
theorem B105_82 {x : List Int} {d : Nat} {s : zSt} {Q : zQ} {x1 : Int} {x2 : Int} {x3 : Int} {x4 : Int} {x5 : Int} {o6 : Option zV} {y0 : Int} {y1 : Int}  (h : (wr (y1 + y0) ≤ x1 → zJ x d 105 94 [some (.inr (.inl 4)), some (.inl x1), some (.inl x2), some (.inl x3), some (.inl x4), some (.inl x5), some (.inl (wr (y1 + y0)))] [] s Q) ∧ (¬ (wr (y1 + y0) ≤ x1) → zJ x d 105 126 [some (.inr (.inl 4)), some (.inl x1), some (.inl x2), some (.inl x3), some (.inl x4), some (.inl x5), some (.inl (wr (y1 + y0)))] [] s Q)) : zJ x d 105 82 [some (.inr (.inl 4)), some (.inl x1), some (.inl x2), some (.inl x3), some (.inl x4), some (.inl x5), o6] [.inl y0, .inl y1] s Q := zJ_of (b := b105_82) (by rw [kBlk, kb_105]; rfl) h
set_option maxRecDepth 100000 in
theorem B105_94 {x : List Int} {d : Nat} {s : zSt} {Q : zQ} {x1 : Int} {x2 : Int} {x3 : Int} {x4 : Int} {x5 : Int} {x6 : Int}  (h : (0 : Int) ≤ wr ((wr ((wr (x2 * 100)) + x4)) + 1) ∧ (wr ((wr ((wr (x2 * 100)) + x4)) + 1) : Int) < 600 ∧ ((0 : Int) ≤ x2 ∧ (x2 : Int) < 6 ∧ (zJ x d 105 48 [some (.inr (.inl 4)), some (.inl x1), some (.inl x2), some (.inl x3), some (.inl (wr (x4 + 1))), some (.inl x5), some (.inl x6)] [] (zU (zU s 22 (wr ((wr ((wr (x2 * 100)) + x4)) + 1)).toNat x6) 23 (x2).toNat (wr (x4 + 1))) Q))) : zJ x d 105 94 [some (.inr (.inl 4)), some (.inl x1), some (.inl x2), some (.inl x3), some (.inl x4), some (.inl x5), some (.inl x6)] [] s Q := zJ_of (b := b105_94) (by rw [kBlk, kb_105]; rfl) h
set_option maxRecDepth 100000 in
theorem B105_126 {x : List Int} {d : Nat} {s : zSt} {Q : zQ} {x1 : Int} {x2 : Int} {x3 : Int} {x4 : Int} {o5 : Option zV} {o6 : Option zV}  (h : zJ x d 105 2 [some (.inr (.inl 4)), some (.inl x1), some (.inl (wr (x2 + 1))), some (.inl x3), some (.inl x4), o5, o6] [] s Q) : zJ x d 105 126 [some (.inr (.inl 4)), some (.inl x1), some (.inl x2), some (.inl x3), some (.inl x4), o5, o6] [] s Q := zJ_of (b := b105_126) (by rw [kBlk, kb_105]; rfl) h
set_option maxRecDepth 100000 in
theorem B105_132 {x : List Int} {d : Nat} {s : zSt} {Q : zQ} {x1 : Int} {x2 : Int} {o3 : Option zV} {o4 : Option zV} {o5 : Option zV} {o6 : Option zV}  (h : Q none s) : zJ x d 105 132 [some (.inr (.inl 4)), some (.inl x1), some (.inl x2), o3, o4, o5, o6] [] s Q := zJ_of (b := b105_132) (by rw [kBlk, kb_105]; rfl) h
set_option maxRecDepth 100000 in
theorem N105 {x : List Int} {d : Nat} {s : zSt} {Q : zQ} {x1 : Int} (h : zJ x d 105 0 [some (.inr (.inl 4)), some (.inl x1), none, none, none, none, none] [] s Q) : zE x (d + 1) 105 [.inr (.inl 4), .inl x1] s Q := zE_of (n := 7) rfl rfl rfl rfl (fun h => (zLok_some (h _ (List.mem_of_getElem? (i := 0) rfl)) (zLok_some (h _ (List.mem_of_getElem? (i := 1) rfl)) (zLok_none (zLok_none (zLok_none (zLok_none (zLok_none zLok_nil)))))))) h
-- 106: PennyALap$Thought.reachOf
set_option maxRecDepth 100000 in
theorem kb_106 : kBls.getD 106 [] = c106 := rfl
set_option maxRecDepth 100000 in
theorem B106_0 {x : List Int} {d : Nat} {s : zSt} {Q : zQ} {x1 : Int}  (h : zE x d 40 [.inr (.inl 2), .inl x1] s (fun r s1 => zJ x d 106 8 [some (.inr (.inl 4)), some (.inl x1)] (zAp r []) s1 Q)) : zJ x d 106 0 [some (.inr (.inl 4)), some (.inl x1)] [] s Q := zJ_of (b := b106_0) (by rw [kBlk, kb_106]; rfl) h
set_option maxRecDepth 100000 in
theorem B106_8 {x : List Int} {d : Nat} {s : zSt} {Q : zQ} {x1 : Int} {y0 : Int}  (h : (y0 = 0 → zJ x d 106 20 [some (.inr (.inl 4)), some (.inl x1)] [] s Q) ∧ (¬ (y0 = 0) → (0 : Int) ≤ x1 ∧ (x1 : Int) < 6 ∧ (zJ x d 106 21 [some (.inr (.inl 4)), some (.inl x1)] [.inl (s 23 (x1).toNat)] s Q))) : zJ x d 106 8 [some (.inr (.inl 4)), some (.inl x1)] [.inl y0] s Q := zJ_of (b := b106_8) (by rw [kBlk, kb_106]; rfl) h
set_option maxRecDepth 100000 in
theorem B106_20 {x : List Int} {d : Nat} {s : zSt} {Q : zQ} {x1 : Int}  (h : zJ x d 106 21 [some (.inr (.inl 4)), some (.inl x1)] [.inl 0] s Q) : zJ x d 106 20 [some (.inr (.inl 4)), some (.inl x1)] [] s Q := zJ_of (b := b106_20) (by rw [kBlk, kb_106]; rfl) h
set_option maxRecDepth 100000 in
theorem B106_21 {x : List Int} {d : Nat} {s : zSt} {Q : zQ} {x1 : Int} {y0 : Int}  (h : Q (some (.inl y0)) s) : zJ x d 106 21 [some (.inr (.inl 4)), some (.inl x1)] [.inl y0] s Q := zJ_of (b := b106_21) (by rw [kBlk, kb_106]; rfl) h
set_option maxRecDepth 100000 in
theorem N106 {x : List Int} {d : Nat} {s : zSt} {Q : zQ} {x1 : Int} (h : zJ x d 106 0 [some (.inr (.inl 4)), some (.inl x1)] [] s Q) : zE x (d + 1) 106 [.inr (.inl 4), .inl x1] s Q := zE_of (n := 2) rfl rfl rfl rfl (fun h => (zLok_some (h _ (List.mem_of_getElem? (i := 0) rfl)) (zLok_some (h _ (List.mem_of_getElem? (i := 1) rfl)) zLok_nil))) h
-- 107: PennyALap$Thought.endOf
set_option maxRecDepth 100000 in
theorem kb_107 : kBls.getD 107 [] = c107 := rfl
set_option maxRecDepth 100000 in
theorem B107_0 {x : List Int} {d : Nat} {s : zSt} {Q : zQ} {x1 : Int} {x2 : Int}  (h : zE x d 40 [.inr (.inl 2), .inl x1] s (fun r s1 => zJ x d 107 8 [some (.inr (.inl 4)), some (.inl x1), some (.inl x2)] (zAp r []) s1 Q)) : zJ x d 107 0 [some (.inr (.inl 4)), some (.inl x1), some (.inl x2)] [] s Q := zJ_of (b := b107_0) (by rw [kBlk, kb_107]; rfl) h
set_option maxRecDepth 100000 in
theorem B107_8 {x : List Int} {d : Nat} {s : zSt} {Q : zQ} {x1 : Int} {x2 : Int} {y0 : Int}  (h : (y0 = 0 → zJ x d 107 35 [some (.inr (.inl 4)), some (.inl x1), some (.inl x2)] [] s Q) ∧ (¬ (y0 = 0) → zE x d 118 [.inl x2, .inl 0, .inl 99] s (fun r s1 => zJ x d 107 18 [some (.inr (.inl 4)), some (.inl x1), some (.inl x2)] (zAp r []) s1 Q))) : zJ x d 107 8 [some (.inr (.inl 4)), some (.inl x1), some (.inl x2)] [.inl y0] s Q := zJ_of (b := b107_8) (by rw [kBlk, kb_107]; rfl) h
set_option maxRecDepth 100000 in
theorem B107_18 {x : List Int} {d : Nat} {s : zSt} {Q : zQ} {x1 : Int} {x2 : Int} {y0 : Int}  (h : (y0 = 0 → zJ x d 107 35 [some (.inr (.inl 4)), some (.inl x1), some (.inl x2)] [] s Q) ∧ (¬ (y0 = 0) → (0 : Int) ≤ wr ((wr (x1 * 100)) + x2) ∧ (wr ((wr (x1 * 100)) + x2) : Int) < 600 ∧ (zJ x d 107 36 [some (.inr (.inl 4)), some (.inl x1), some (.inl x2)] [.inl (s 22 (wr ((wr (x1 * 100)) + x2)).toNat)] s Q))) : zJ x d 107 18 [some (.inr (.inl 4)), some (.inl x1), some (.inl x2)] [.inl y0] s Q := zJ_of (b := b107_18) (by rw [kBlk, kb_107]; rfl) h
set_option maxRecDepth 100000 in
theorem B107_35 {x : List Int} {d : Nat} {s : zSt} {Q : zQ} {x1 : Int} {x2 : Int}  (h : zJ x d 107 36 [some (.inr (.inl 4)), some (.inl x1), some (.inl x2)] [.inl 0] s Q) : zJ x d 107 35 [some (.inr (.inl 4)), some (.inl x1), some (.inl x2)] [] s Q := zJ_of (b := b107_35) (by rw [kBlk, kb_107]; rfl) h
set_option maxRecDepth 100000 in
theorem B107_36 {x : List Int} {d : Nat} {s : zSt} {Q : zQ} {x1 : Int} {x2 : Int} {y0 : Int}  (h : Q (some (.inl y0)) s) : zJ x d 107 36 [some (.inr (.inl 4)), some (.inl x1), some (.inl x2)] [.inl y0] s Q := zJ_of (b := b107_36) (by rw [kBlk, kb_107]; rfl) h
set_option maxRecDepth 100000 in
theorem N107 {x : List Int} {d : Nat} {s : zSt} {Q : zQ} {x1 : Int} {x2 : Int} (h : zJ x d 107 0 [some (.inr (.inl 4)), some (.inl x1), some (.inl x2)] [] s Q) : zE x (d + 1) 107 [.inr (.inl 4), .inl x1, .inl x2] s Q := zE_of (n := 3) rfl rfl rfl rfl (fun h => (zLok_some (h _ (List.mem_of_getElem? (i := 0) rfl)) (zLok_some (h _ (List.mem_of_getElem? (i := 1) rfl)) (zLok_some (h _ (List.mem_of_getElem? (i := 2) rfl)) zLok_nil)))) h
-- 108: PennyALap$Thought.beginMinutes
set_option maxRecDepth 100000 in
theorem kb_108 : kBls.getD 108 [] = c108 := rfl
set_option maxRecDepth 100000 in
theorem B108_0 {x : List Int} {d : Nat} {s : zSt} {Q : zQ} {x1 : Int}  (h : zE x d 105 [.inr (.inl 4), .inl x1] s (fun r s1 => zJ x d 108 5 [some (.inr (.inl 4)), some (.inl x1), none] (zAp r []) s1 Q)) : zJ x d 108 0 [some (.inr (.inl 4)), some (.inl x1), none] [] s Q := zJ_of (b := b108_0) (by rw [kBlk, kb_108]; rfl) h
set_option maxRecDepth 100000 in
theorem B108_5 {x : List Int} {d : Nat} {s : zSt} {Q : zQ} {x1 : Int}  (h : zJ x d 108 7 [some (.inr (.inl 4)), some (.inl x1), some (.inl 0)] [] s Q) : zJ x d 108 5 [some (.inr (.inl 4)), some (.inl x1), none] [] s Q := zJ_of (b := b108_5) (by rw [kBlk, kb_108]; rfl) h
set_option maxRecDepth 100000 in
theorem B108_7 {x : List Int} {d : Nat} {s : zSt} {Q : zQ} {x1 : Int} {x2 : Int}  (h : (6 ≤ x2 → zJ x d 108 26 [some (.inr (.inl 4)), some (.inl x1), some (.inl x2)] [] s Q) ∧ (¬ (6 ≤ x2) → (0 : Int) ≤ x2 ∧ (x2 : Int) < 6 ∧ (zJ x d 108 7 [some (.inr (.inl 4)), some (.inl x1), some (.inl (wr (x2 + 1)))] [] (zU s 21 (x2).toNat 0) Q))) : zJ x d 108 7 [some (.inr (.inl 4)), some (.inl x1), some (.inl x2)] [] s Q := zJ_of (b := b108_7) (by rw [kBlk, kb_108]; rfl) h
set_option maxRecDepth 100000 in
theorem B108_26 {x : List Int} {d : Nat} {s : zSt} {Q : zQ} {x1 : Int} {x2 : Int}  (h : Q none s) : zJ x d 108 26 [some (.inr (.inl 4)), some (.inl x1), some (.inl x2)] [] s Q := zJ_of (b := b108_26) (by rw [kBlk, kb_108]; rfl) h
set_option maxRecDepth 100000 in
theorem N108 {x : List Int} {d : Nat} {s : zSt} {Q : zQ} {x1 : Int} (h : zJ x d 108 0 [some (.inr (.inl 4)), some (.inl x1), none] [] s Q) : zE x (d + 1) 108 [.inr (.inl 4), .inl x1] s Q := zE_of (n := 3) rfl rfl rfl rfl (fun h => (zLok_some (h _ (List.mem_of_getElem? (i := 0) rfl)) (zLok_some (h _ (List.mem_of_getElem? (i := 1) rfl)) (zLok_none zLok_nil)))) h
-- 109: PennyALap$Thought.goOnTo
set_option maxRecDepth 100000 in
theorem kb_109 : kBls.getD 109 [] = c109 := rfl
set_option maxRecDepth 100000 in
theorem B109_0 {x : List Int} {d : Nat} {s : zSt} {Q : zQ} {x1 : Int}  (h : (¬ x1 = 0 → zJ x d 109 8 [some (.inr (.inl 4)), some (.inl x1), none, none] [] s Q) ∧ (¬ (¬ x1 = 0) → zJ x d 109 9 [some (.inr (.inl 4)), some (.inl x1), none, none] [.inl 1] s Q)) : zJ x d 109 0 [some (.inr (.inl 4)), some (.inl x1), none, none] [] s Q := zJ_of (b := b109_0) (by rw [kBlk, kb_109]; rfl) h
set_option maxRecDepth 100000 in
theorem B109_8 {x : List Int} {d : Nat} {s : zSt} {Q : zQ} {x1 : Int}  (h : zJ x d 109 9 [some (.inr (.inl 4)), some (.inl x1), none, none] [.inl 0] s Q) : zJ x d 109 8 [some (.inr (.inl 4)), some (.inl x1), none, none] [] s Q := zJ_of (b := b109_8) (by rw [kBlk, kb_109]; rfl) h
set_option maxRecDepth 100000 in
theorem B109_9 {x : List Int} {d : Nat} {s : zSt} {Q : zQ} {x1 : Int} {y0 : Int}  (h : zJ x d 109 12 [some (.inr (.inl 4)), some (.inl x1), some (.inl y0), some (.inl 0)] [] s Q) : zJ x d 109 9 [some (.inr (.inl 4)), some (.inl x1), none, none] [.inl y0] s Q := zJ_of (b := b109_9) (by rw [kBlk, kb_109]; rfl) h
set_option maxRecDepth 100000 in
theorem B109_12 {x : List Int} {d : Nat} {s : zSt} {Q : zQ} {x1 : Int} {x2 : Int} {x3 : Int}  (h : zE x d 38 [.inr (.inl 2)] s (fun r s1 => zJ x d 109 20 [some (.inr (.inl 4)), some (.inl x1), some (.inl x2), some (.inl x3)] (zAp r [.inl x3]) s1 Q)) : zJ x d 109 12 [some (.inr (.inl 4)), some (.inl x1), some (.inl x2), some (.inl x3)] [] s Q := zJ_of (b := b109_12) (by rw [kBlk, kb_109]; rfl) h
set_option maxRecDepth 100000 in
theorem B109_20 {x : List Int} {d : Nat} {s : zSt} {Q : zQ} {x1 : Int} {x2 : Int} {x3 : Int} {y0 : Int} {y1 : Int}  (h : (y0 ≤ y1 → zJ x d 109 73 [some (.inr (.inl 4)), some (.inl x1), some (.inl x2), some (.inl x3)] [] s Q) ∧ (¬ (y0 ≤ y1) → (0 : Int) ≤ x3 ∧ (x3 : Int) < 6 ∧ ((0 : Int) ≤ x3 ∧ (x3 : Int) < 6 ∧ ((s 23 (x3).toNat ≤ s 21 (x3).toNat → zJ x d 109 67 [some (.inr (.inl 4)), some (.inl x1), some (.inl x2), some (.inl x3)] [] s Q) ∧ (¬ (s 23 (x3).toNat ≤ s 21 (x3).toNat) → (0 : Int) ≤ x3 ∧ (x3 : Int) < 6 ∧ (zE x d 107 [.inr (.inl 4), .inl x3, .inl (wr ((s 21 (x3).toNat) + 1))] s (fun r s1 => zJ x d 109 51 [some (.inr (.inl 4)), some (.inl x1), some (.inl x2), some (.inl x3)] (zAp r []) s1 Q))))))) : zJ x d 109 20 [some (.inr (.inl 4)), some (.inl x1), some (.inl x2), some (.inl x3)] [.inl y0, .inl y1] s Q := zJ_of (b := b109_20) (by rw [kBlk, kb_109]; rfl) h
set_option maxRecDepth 100000 in
theorem B109_51 {x : List Int} {d : Nat} {s : zSt} {Q : zQ} {x1 : Int} {x2 : Int} {x3 : Int} {y0 : Int}  (h : (x1 < y0 → zJ x d 109 67 [some (.inr (.inl 4)), some (.inl x1), some (.inl x2), some (.inl x3)] [] s Q) ∧ (¬ (x1 < y0) → (0 : Int) ≤ x3 ∧ (x3 : Int) < 6 ∧ ((0 : Int) ≤ x3 ∧ (x3 : Int) < 6 ∧ (zJ x d 109 67 [some (.inr (.inl 4)), some (.inl x1), some (.inl 1), some (.inl x3)] [] (zU s 21 (x3).toNat (wr ((s 21 (x3).toNat) + 1))) Q)))) : zJ x d 109 51 [some (.inr (.inl 4)), some (.inl x1), some (.inl x2), some (.inl x3)] [.inl y0] s Q := zJ_of (b := b109_51) (by rw [kBlk, kb_109]; rfl) h
set_option maxRecDepth 100000 in
theorem B109_67 {x : List Int} {d : Nat} {s : zSt} {Q : zQ} {x1 : Int} {x2 : Int} {x3 : Int}  (h : zJ x d 109 12 [some (.inr (.inl 4)), some (.inl x1), some (.inl x2), some (.inl (wr (x3 + 1)))] [] s Q) : zJ x d 109 67 [some (.inr (.inl 4)), some (.inl x1), some (.inl x2), some (.inl x3)] [] s Q := zJ_of (b := b109_67) (by rw [kBlk, kb_109]; rfl) h
set_option maxRecDepth 100000 in
theorem B109_73 {x : List Int} {d : Nat} {s : zSt} {Q : zQ} {x1 : Int} {x2 : Int} {x3 : Int}  (h : ((x2 : Int) = 0 ∨ (x2 : Int) = 1) ∧ Q (some (.inl x2)) s) : zJ x d 109 73 [some (.inr (.inl 4)), some (.inl x1), some (.inl x2), some (.inl x3)] [] s Q := zJ_of (b := b109_73) (by rw [kBlk, kb_109]; rfl) h
set_option maxRecDepth 100000 in
theorem N109 {x : List Int} {d : Nat} {s : zSt} {Q : zQ} {x1 : Int} (h : zJ x d 109 0 [some (.inr (.inl 4)), some (.inl x1), none, none] [] s Q) : zE x (d + 1) 109 [.inr (.inl 4), .inl x1] s Q := zE_of (n := 4) rfl rfl rfl rfl (fun h => (zLok_some (h _ (List.mem_of_getElem? (i := 0) rfl)) (zLok_some (h _ (List.mem_of_getElem? (i := 1) rfl)) (zLok_none (zLok_none zLok_nil))))) h
-- 110: PennyALap$Thought.drawField
set_option maxRecDepth 100000 in
theorem kb_110 : kBls.getD 110 [] = c110 := rfl
set_option maxRecDepth 100000 in
theorem B110_0 {x : List Int} {d : Nat} {s : zSt} {Q : zQ} {x1 : Int} {x2 : Int}  (h : zJ x d 110 5 [some (.inr (.inl 4)), some (.inl x1), some (.inl x2), some (.inl x1), some (.inl 0)] [] s Q) : zJ x d 110 0 [some (.inr (.inl 4)), some (.inl x1), some (.inl x2), none, none] [] s Q := zJ_of (b := b110_0) (by rw [kBlk, kb_110]; rfl) h
set_option maxRecDepth 100000 in
theorem B110_5 {x : List Int} {d : Nat} {s : zSt} {Q : zQ} {x1 : Int} {x2 : Int} {x3 : Int} {x4 : Int}  (h : zE x d 38 [.inr (.inl 2)] s (fun r s1 => zJ x d 110 14 [some (.inr (.inl 4)), some (.inl x1), some (.inl x2), some (.inl x3), some (.inl x4)] (zAp r [.inl x4]) s1 Q)) : zJ x d 110 5 [some (.inr (.inl 4)), some (.inl x1), some (.inl x2), some (.inl x3), some (.inl x4)] [] s Q := zJ_of (b := b110_5) (by rw [kBlk, kb_110]; rfl) h
set_option maxRecDepth 100000 in
theorem B110_14 {x : List Int} {d : Nat} {s : zSt} {Q : zQ} {x1 : Int} {x2 : Int} {x3 : Int} {x4 : Int} {y0 : Int} {y1 : Int}  (h : (y0 ≤ y1 → zJ x d 110 32 [some (.inr (.inl 4)), some (.inl x1), some (.inl x2), some (.inl x3), some (.inl x4)] [] s Q) ∧ (¬ (y0 ≤ y1) → zE x d 111 [.inr (.inl 4), .inl x4, .inl x3, .inl x2] s (fun r s1 => zJ x d 110 25 [some (.inr (.inl 4)), some (.inl x1), some (.inl x2), some (.inl x3), some (.inl x4)] (zAp r []) s1 Q))) : zJ x d 110 14 [some (.inr (.inl 4)), some (.inl x1), some (.inl x2), some (.inl x3), some (.inl x4)] [.inl y0, .inl y1] s Q := zJ_of (b := b110_14) (by rw [kBlk, kb_110]; rfl) h
set_option maxRecDepth 100000 in
theorem B110_25 {x : List Int} {d : Nat} {s : zSt} {Q : zQ} {x1 : Int} {x2 : Int} {x3 : Int} {x4 : Int} {y0 : Int}  (h : zJ x d 110 5 [some (.inr (.inl 4)), some (.inl x1), some (.inl x2), some (.inl y0), some (.inl (wr (x4 + 1)))] [] s Q) : zJ x d 110 25 [some (.inr (.inl 4)), some (.inl x1), some (.inl x2), some (.inl x3), some (.inl x4)] [.inl y0] s Q := zJ_of (b := b110_25) (by rw [kBlk, kb_110]; rfl) h
set_option maxRecDepth 100000 in
theorem B110_32 {x : List Int} {d : Nat} {s : zSt} {Q : zQ} {x1 : Int} {x2 : Int} {x3 : Int} {x4 : Int}  (h : Q (some (.inl x3)) s) : zJ x d 110 32 [some (.inr (.inl 4)), some (.inl x1), some (.inl x2), some (.inl x3), some (.inl x4)] [] s Q := zJ_of (b := b110_32) (by rw [kBlk, kb_110]; rfl) h
set_option maxRecDepth 100000 in
theorem N110 {x : List Int} {d : Nat} {s : zSt} {Q : zQ} {x1 : Int} {x2 : Int} (h : zJ x d 110 0 [some (.inr (.inl 4)), some (.inl x1), some (.inl x2), none, none] [] s Q) : zE x (d + 1) 110 [.inr (.inl 4), .inl x1, .inl x2] s Q := zE_of (n := 5) rfl rfl rfl rfl (fun h => (zLok_some (h _ (List.mem_of_getElem? (i := 0) rfl)) (zLok_some (h _ (List.mem_of_getElem? (i := 1) rfl)) (zLok_some (h _ (List.mem_of_getElem? (i := 2) rfl)) (zLok_none (zLok_none zLok_nil)))))) h
-- 111: PennyALap$Thought.drawLaps
set_option maxRecDepth 100000 in
theorem kb_111 : kBls.getD 111 [] = c111 := rfl
set_option maxRecDepth 100000 in
theorem B111_0 {x : List Int} {d : Nat} {s : zSt} {Q : zQ} {x1 : Int} {x2 : Int} {x3 : Int}  (h : zE x d 46 [.inr (.inl 2), .inl x1, .inl 2] s (fun r s1 => zJ x d 111 12 [some (.inr (.inl 4)), some (.inl x1), some (.inl x2), some (.inl x3), some (.inl x2), none, none, none, none, none] (zAp r []) s1 Q)) : zJ x d 111 0 [some (.inr (.inl 4)), some (.inl x1), some (.inl x2), some (.inl x3), none, none, none, none, none, none] [] s Q := zJ_of (b := b111_0) (by rw [kBlk, kb_111]; rfl) h
set_option maxRecDepth 100000 in
theorem B111_12 {x : List Int} {d : Nat} {s : zSt} {Q : zQ} {x1 : Int} {x2 : Int} {x3 : Int} {x4 : Int} {y0 : Int}  (h : zE x d 46 [.inr (.inl 2), .inl x1, .inl 3] s (fun r s1 => zJ x d 111 23 [some (.inr (.inl 4)), some (.inl x1), some (.inl x2), some (.inl x3), some (.inl x4), some (.inl y0), none, none, none, none] (zAp r []) s1 Q)) : zJ x d 111 12 [some (.inr (.inl 4)), some (.inl x1), some (.inl x2), some (.inl x3), some (.inl x4), none, none, none, none, none] [.inl y0] s Q := zJ_of (b := b111_12) (by rw [kBlk, kb_111]; rfl) h
set_option maxRecDepth 100000 in
theorem B111_23 {x : List Int} {d : Nat} {s : zSt} {Q : zQ} {x1 : Int} {x2 : Int} {x3 : Int} {x4 : Int} {x5 : Int} {y0 : Int}  (h : (0 : Int) ≤ x1 ∧ (x1 : Int) < 6 ∧ (zJ x d 111 38 [some (.inr (.inl 4)), some (.inl x1), some (.inl x2), some (.inl x3), some (.inl x4), some (.inl x5), some (.inl y0), some (.inl 0), some (.inl 0), none] [] (zU s 21 (x1).toNat 0) Q)) : zJ x d 111 23 [some (.inr (.inl 4)), some (.inl x1), some (.inl x2), some (.inl x3), some (.inl x4), some (.inl x5), none, none, none, none] [.inl y0] s Q := zJ_of (b := b111_23) (by rw [kBlk, kb_111]; rfl) h
set_option maxRecDepth 100000 in
theorem B111_38 {x : List Int} {d : Nat} {s : zSt} {Q : zQ} {x1 : Int} {x2 : Int} {x3 : Int} {x4 : Int} {x5 : Int} {x6 : Int} {x7 : Int} {x8 : Int} {o9 : Option zV}  (h : (x5 ≤ x8 → zJ x d 111 126 [some (.inr (.inl 4)), some (.inl x1), some (.inl x2), some (.inl x3), some (.inl x4), some (.inl x5), some (.inl x6), some (.inl x7), some (.inl x8), o9] [] s Q) ∧ (¬ (x5 ≤ x8) → zE x d 50 [.inr (.inl 2), .inl x1, .inl x8, .inl x7] s (fun r s1 => zJ x d 111 68 [some (.inr (.inl 4)), some (.inl x1), some (.inl x2), some (.inl x3), some (.inl (wr ((wr (x4 * 1103515245)) + 12345))), some (.inl x5), some (.inl x6), some (.inl x7), some (.inl x8), o9] (zAp r []) s1 Q))) : zJ x d 111 38 [some (.inr (.inl 4)), some (.inl x1), some (.inl x2), some (.inl x3), some (.inl x4), some (.inl x5), some (.inl x6), some (.inl x7), some (.inl x8), o9] [] s Q := zJ_of (b := b111_38) (by rw [kBlk, kb_111]; rfl) h
set_option maxRecDepth 100000 in
theorem B111_68 {x : List Int} {d : Nat} {s : zSt} {Q : zQ} {x1 : Int} {x2 : Int} {x3 : Int} {x4 : Int} {x5 : Int} {x6 : Int} {x7 : Int} {x8 : Int} {o9 : Option zV} {y0 : Int}  (h : (x6 ≤ wr ((zUsh x4 8).tmod 12) → zJ x d 111 96 [some (.inr (.inl 4)), some (.inl x1), some (.inl x2), some (.inl x3), some (.inl x4), some (.inl x5), some (.inl x6), some (.inl x7), some (.inl x8), some (.inl y0)] [.inl x7] s Q) ∧ (¬ (x6 ≤ wr ((zUsh x4 8).tmod 12)) → zJ x d 111 98 [some (.inr (.inl 4)), some (.inl x1), some (.inl x2), some (.inl x3), some (.inl x4), some (.inl x5), some (.inl x6), some (.inl x7), some (.inl x8), some (.inl y0)] [.inl (max 1 (wr ((y0).tdiv 2))), .inl x7] s Q)) : zJ x d 111 68 [some (.inr (.inl 4)), some (.inl x1), some (.inl x2), some (.inl x3), some (.inl x4), some (.inl x5), some (.inl x6), some (.inl x7), some (.inl x8), o9] [.inl y0] s Q := zJ_of (b := b111_68) (by rw [kBlk, kb_111]; rfl) h
set_option maxRecDepth 100000 in
theorem B111_96 {x : List Int} {d : Nat} {s : zSt} {Q : zQ} {x1 : Int} {x2 : Int} {x3 : Int} {x4 : Int} {x5 : Int} {x6 : Int} {x7 : Int} {x8 : Int} {x9 : Int} {y0 : Int}  (h : zJ x d 111 98 [some (.inr (.inl 4)), some (.inl x1), some (.inl x2), some (.inl x3), some (.inl x4), some (.inl x5), some (.inl x6), some (.inl x7), some (.inl x8), some (.inl x9)] [.inl x9, .inl y0] s Q) : zJ x d 111 96 [some (.inr (.inl 4)), some (.inl x1), some (.inl x2), some (.inl x3), some (.inl x4), some (.inl x5), some (.inl x6), some (.inl x7), some (.inl x8), some (.inl x9)] [.inl y0] s Q := zJ_of (b := b111_96) (by rw [kBlk, kb_111]; rfl) h
set_option maxRecDepth 100000 in
theorem B111_98 {x : List Int} {d : Nat} {s : zSt} {Q : zQ} {x1 : Int} {x2 : Int} {x3 : Int} {x4 : Int} {x5 : Int} {x6 : Int} {x7 : Int} {x8 : Int} {x9 : Int} {y0 : Int} {y1 : Int}  (h : (wr (y1 + y0) ≤ x3 → zJ x d 111 110 [some (.inr (.inl 4)), some (.inl x1), some (.inl x2), some (.inl x3), some (.inl x4), some (.inl x5), some (.inl x6), some (.inl (wr (y1 + y0))), some (.inl x8), some (.inl x9)] [] s Q) ∧ (¬ (wr (y1 + y0) ≤ x3) → zJ x d 111 126 [some (.inr (.inl 4)), some (.inl x1), some (.inl x2), some (.inl x3), some (.inl x4), some (.inl x5), some (.inl x6), some (.inl (wr (y1 + y0))), some (.inl x8), some (.inl x9)] [] s Q)) : zJ x d 111 98 [some (.inr (.inl 4)), some (.inl x1), some (.inl x2), some (.inl x3), some (.inl x4), some (.inl x5), some (.inl x6), some (.inl x7), some (.inl x8), some (.inl x9)] [.inl y0, .inl y1] s Q := zJ_of (b := b111_98) (by rw [kBlk, kb_111]; rfl) h
set_option maxRecDepth 100000 in
theorem B111_110 {x : List Int} {d : Nat} {s : zSt} {Q : zQ} {x1 : Int} {x2 : Int} {x3 : Int} {x4 : Int} {x5 : Int} {x6 : Int} {x7 : Int} {x8 : Int} {x9 : Int}  (h : (0 : Int) ≤ x1 ∧ (x1 : Int) < 6 ∧ (zJ x d 111 38 [some (.inr (.inl 4)), some (.inl x1), some (.inl x2), some (.inl x3), some (.inl x4), some (.inl x5), some (.inl x6), some (.inl x7), some (.inl (wr (x8 + 1))), some (.inl x9)] [] (zU s 21 (x1).toNat (wr (x8 + 1))) Q)) : zJ x d 111 110 [some (.inr (.inl 4)), some (.inl x1), some (.inl x2), some (.inl x3), some (.inl x4), some (.inl x5), some (.inl x6), some (.inl x7), some (.inl x8), some (.inl x9)] [] s Q := zJ_of (b := b111_110) (by rw [kBlk, kb_111]; rfl) h
set_option maxRecDepth 100000 in
theorem B111_126 {x : List Int} {d : Nat} {s : zSt} {Q : zQ} {x1 : Int} {x2 : Int} {x3 : Int} {x4 : Int} {x5 : Int} {x6 : Int} {x7 : Int} {x8 : Int} {o9 : Option zV}  (h : Q (some (.inl x4)) s) : zJ x d 111 126 [some (.inr (.inl 4)), some (.inl x1), some (.inl x2), some (.inl x3), some (.inl x4), some (.inl x5), some (.inl x6), some (.inl x7), some (.inl x8), o9] [] s Q := zJ_of (b := b111_126) (by rw [kBlk, kb_111]; rfl) h
set_option maxRecDepth 100000 in
theorem N111 {x : List Int} {d : Nat} {s : zSt} {Q : zQ} {x1 : Int} {x2 : Int} {x3 : Int} (h : zJ x d 111 0 [some (.inr (.inl 4)), some (.inl x1), some (.inl x2), some (.inl x3), none, none, none, none, none, none] [] s Q) : zE x (d + 1) 111 [.inr (.inl 4), .inl x1, .inl x2, .inl x3] s Q := zE_of (n := 10) rfl rfl rfl rfl (fun h => (zLok_some (h _ (List.mem_of_getElem? (i := 0) rfl)) (zLok_some (h _ (List.mem_of_getElem? (i := 1) rfl)) (zLok_some (h _ (List.mem_of_getElem? (i := 2) rfl)) (zLok_some (h _ (List.mem_of_getElem? (i := 3) rfl)) (zLok_none (zLok_none (zLok_none (zLok_none (zLok_none (zLok_none zLok_nil))))))))))) h
-- 112: PennyALap$Thought.lapsOfAll
set_option maxRecDepth 100000 in
theorem kb_112 : kBls.getD 112 [] = c112 := rfl
set_option maxRecDepth 100000 in
theorem B112_0 {x : List Int} {d : Nat} {s : zSt} {Q : zQ}   (h : zJ x d 112 4 [some (.inr (.inl 4)), some (.inl 0), some (.inl 0)] [] s Q) : zJ x d 112 0 [some (.inr (.inl 4)), none, none] [] s Q := zJ_of (b := b112_0) (by rw [kBlk, kb_112]; rfl) h
set_option maxRecDepth 100000 in
theorem B112_4 {x : List Int} {d : Nat} {s : zSt} {Q : zQ} {x1 : Int} {x2 : Int}  (h : zE x d 38 [.inr (.inl 2)] s (fun r s1 => zJ x d 112 12 [some (.inr (.inl 4)), some (.inl x1), some (.inl x2)] (zAp r [.inl x2]) s1 Q)) : zJ x d 112 4 [some (.inr (.inl 4)), some (.inl x1), some (.inl x2)] [] s Q := zJ_of (b := b112_4) (by rw [kBlk, kb_112]; rfl) h
set_option maxRecDepth 100000 in
theorem B112_12 {x : List Int} {d : Nat} {s : zSt} {Q : zQ} {x1 : Int} {x2 : Int} {y0 : Int} {y1 : Int}  (h : (y0 ≤ y1 → zJ x d 112 30 [some (.inr (.inl 4)), some (.inl x1), some (.inl x2)] [] s Q) ∧ (¬ (y0 ≤ y1) → (0 : Int) ≤ x2 ∧ (x2 : Int) < 6 ∧ (zJ x d 112 4 [some (.inr (.inl 4)), some (.inl (wr (x1 + (s 21 (x2).toNat)))), some (.inl (wr (x2 + 1)))] [] s Q))) : zJ x d 112 12 [some (.inr (.inl 4)), some (.inl x1), some (.inl x2)] [.inl y0, .inl y1] s Q := zJ_of (b := b112_12) (by rw [kBlk, kb_112]; rfl) h
set_option maxRecDepth 100000 in
theorem B112_30 {x : List Int} {d : Nat} {s : zSt} {Q : zQ} {x1 : Int} {x2 : Int}  (h : Q (some (.inl x1)) s) : zJ x d 112 30 [some (.inr (.inl 4)), some (.inl x1), some (.inl x2)] [] s Q := zJ_of (b := b112_30) (by rw [kBlk, kb_112]; rfl) h
set_option maxRecDepth 100000 in
theorem N112 {x : List Int} {d : Nat} {s : zSt} {Q : zQ}  (h : zJ x d 112 0 [some (.inr (.inl 4)), none, none] [] s Q) : zE x (d + 1) 112 [.inr (.inl 4)] s Q := zE_of (n := 3) rfl rfl rfl rfl (fun h => (zLok_some (h _ (List.mem_of_getElem? (i := 0) rfl)) (zLok_none (zLok_none zLok_nil)))) h
-- 113: PennyALap$Thought.owedByAll
set_option maxRecDepth 100000 in
theorem kb_113 : kBls.getD 113 [] = c113 := rfl
set_option maxRecDepth 100000 in
theorem B113_0 {x : List Int} {d : Nat} {s : zSt} {Q : zQ}   (h : zJ x d 113 4 [some (.inr (.inl 4)), some (.inl 0), some (.inl 0)] [] s Q) : zJ x d 113 0 [some (.inr (.inl 4)), none, none] [] s Q := zJ_of (b := b113_0) (by rw [kBlk, kb_113]; rfl) h
set_option maxRecDepth 100000 in
theorem B113_4 {x : List Int} {d : Nat} {s : zSt} {Q : zQ} {x1 : Int} {x2 : Int}  (h : zE x d 38 [.inr (.inl 2)] s (fun r s1 => zJ x d 113 12 [some (.inr (.inl 4)), some (.inl x1), some (.inl x2)] (zAp r [.inl x2]) s1 Q)) : zJ x d 113 4 [some (.inr (.inl 4)), some (.inl x1), some (.inl x2)] [] s Q := zJ_of (b := b113_4) (by rw [kBlk, kb_113]; rfl) h
set_option maxRecDepth 100000 in
theorem B113_12 {x : List Int} {d : Nat} {s : zSt} {Q : zQ} {x1 : Int} {x2 : Int} {y0 : Int} {y1 : Int}  (h : (y0 ≤ y1 → zJ x d 113 38 [some (.inr (.inl 4)), some (.inl x1), some (.inl x2)] [] s Q) ∧ (¬ (y0 ≤ y1) → (0 : Int) ≤ x2 ∧ (x2 : Int) < 6 ∧ (zE x d 56 [.inr (.inl 2), .inl x2, .inl (s 21 (x2).toNat)] s (fun r s1 => zJ x d 113 30 [some (.inr (.inl 4)), some (.inl x1), some (.inl x2)] (zAp r [.inl x1]) s1 Q)))) : zJ x d 113 12 [some (.inr (.inl 4)), some (.inl x1), some (.inl x2)] [.inl y0, .inl y1] s Q := zJ_of (b := b113_12) (by rw [kBlk, kb_113]; rfl) h
set_option maxRecDepth 100000 in
theorem B113_30 {x : List Int} {d : Nat} {s : zSt} {Q : zQ} {x1 : Int} {x2 : Int} {y0 : Int} {y1 : Int}  (h : zJ x d 113 4 [some (.inr (.inl 4)), some (.inl (wr (y1 + y0))), some (.inl (wr (x2 + 1)))] [] s Q) : zJ x d 113 30 [some (.inr (.inl 4)), some (.inl x1), some (.inl x2)] [.inl y0, .inl y1] s Q := zJ_of (b := b113_30) (by rw [kBlk, kb_113]; rfl) h
set_option maxRecDepth 100000 in
theorem B113_38 {x : List Int} {d : Nat} {s : zSt} {Q : zQ} {x1 : Int} {x2 : Int}  (h : Q (some (.inl x1)) s) : zJ x d 113 38 [some (.inr (.inl 4)), some (.inl x1), some (.inl x2)] [] s Q := zJ_of (b := b113_38) (by rw [kBlk, kb_113]; rfl) h
set_option maxRecDepth 100000 in
theorem N113 {x : List Int} {d : Nat} {s : zSt} {Q : zQ}  (h : zJ x d 113 0 [some (.inr (.inl 4)), none, none] [] s Q) : zE x (d + 1) 113 [.inr (.inl 4)] s Q := zE_of (n := 3) rfl rfl rfl rfl (fun h => (zLok_some (h _ (List.mem_of_getElem? (i := 0) rfl)) (zLok_none (zLok_none zLok_nil)))) h
-- 114: PennyALap$Thought.paidByAll
set_option maxRecDepth 100000 in
theorem kb_114 : kBls.getD 114 [] = c114 := rfl
set_option maxRecDepth 100000 in
theorem B114_0 {x : List Int} {d : Nat} {s : zSt} {Q : zQ}   (h : zE x d 116 [.inr (.inl 4)] s (fun r s1 => zJ x d 114 4 [some (.inr (.inl 4)), none, none] (zAp r []) s1 Q)) : zJ x d 114 0 [some (.inr (.inl 4)), none, none] [] s Q := zJ_of (b := b114_0) (by rw [kBlk, kb_114]; rfl) h
set_option maxRecDepth 100000 in
theorem B114_4 {x : List Int} {d : Nat} {s : zSt} {Q : zQ} {y0 : Int}  (h : (¬ y0 = (-2) → zJ x d 114 13 [some (.inr (.inl 4)), none, none] [] s Q) ∧ (¬ (¬ y0 = (-2)) → zJ x d 114 24 [some (.inr (.inl 4)), none, none] [.inl 0] s Q)) : zJ x d 114 4 [some (.inr (.inl 4)), none, none] [.inl y0] s Q := zJ_of (b := b114_4) (by rw [kBlk, kb_114]; rfl) h
set_option maxRecDepth 100000 in
theorem B114_13 {x : List Int} {d : Nat} {s : zSt} {Q : zQ}   (h : zE x d 46 [.inr (.inl 2), .inl 0, .inl 12] s (fun r s1 => zJ x d 114 23 [some (.inr (.inl 4)), none, none] (zAp r []) s1 Q)) : zJ x d 114 13 [some (.inr (.inl 4)), none, none] [] s Q := zJ_of (b := b114_13) (by rw [kBlk, kb_114]; rfl) h
set_option maxRecDepth 100000 in
theorem B114_23 {x : List Int} {d : Nat} {s : zSt} {Q : zQ} {y0 : Int}  (h : zJ x d 114 24 [some (.inr (.inl 4)), none, none] [.inl (wr (-y0))] s Q) : zJ x d 114 23 [some (.inr (.inl 4)), none, none] [.inl y0] s Q := zJ_of (b := b114_23) (by rw [kBlk, kb_114]; rfl) h
set_option maxRecDepth 100000 in
theorem B114_24 {x : List Int} {d : Nat} {s : zSt} {Q : zQ} {y0 : Int}  (h : zJ x d 114 27 [some (.inr (.inl 4)), some (.inl y0), some (.inl 0)] [] s Q) : zJ x d 114 24 [some (.inr (.inl 4)), none, none] [.inl y0] s Q := zJ_of (b := b114_24) (by rw [kBlk, kb_114]; rfl) h
set_option maxRecDepth 100000 in
theorem B114_27 {x : List Int} {d : Nat} {s : zSt} {Q : zQ} {x1 : Int} {x2 : Int}  (h : zE x d 38 [.inr (.inl 2)] s (fun r s1 => zJ x d 114 35 [some (.inr (.inl 4)), some (.inl x1), some (.inl x2)] (zAp r [.inl x2]) s1 Q)) : zJ x d 114 27 [some (.inr (.inl 4)), some (.inl x1), some (.inl x2)] [] s Q := zJ_of (b := b114_27) (by rw [kBlk, kb_114]; rfl) h
set_option maxRecDepth 100000 in
theorem B114_35 {x : List Int} {d : Nat} {s : zSt} {Q : zQ} {x1 : Int} {x2 : Int} {y0 : Int} {y1 : Int}  (h : (y0 ≤ y1 → zJ x d 114 61 [some (.inr (.inl 4)), some (.inl x1), some (.inl x2)] [] s Q) ∧ (¬ (y0 ≤ y1) → (0 : Int) ≤ x2 ∧ (x2 : Int) < 6 ∧ (zE x d 57 [.inr (.inl 2), .inl x2, .inl (s 21 (x2).toNat)] s (fun r s1 => zJ x d 114 53 [some (.inr (.inl 4)), some (.inl x1), some (.inl x2)] (zAp r [.inl x1]) s1 Q)))) : zJ x d 114 35 [some (.inr (.inl 4)), some (.inl x1), some (.inl x2)] [.inl y0, .inl y1] s Q := zJ_of (b := b114_35) (by rw [kBlk, kb_114]; rfl) h
set_option maxRecDepth 100000 in
theorem B114_53 {x : List Int} {d : Nat} {s : zSt} {Q : zQ} {x1 : Int} {x2 : Int} {y0 : Int} {y1 : Int}  (h : zJ x d 114 27 [some (.inr (.inl 4)), some (.inl (wr (y1 + y0))), some (.inl (wr (x2 + 1)))] [] s Q) : zJ x d 114 53 [some (.inr (.inl 4)), some (.inl x1), some (.inl x2)] [.inl y0, .inl y1] s Q := zJ_of (b := b114_53) (by rw [kBlk, kb_114]; rfl) h
set_option maxRecDepth 100000 in
theorem B114_61 {x : List Int} {d : Nat} {s : zSt} {Q : zQ} {x1 : Int} {x2 : Int}  (h : Q (some (.inl x1)) s) : zJ x d 114 61 [some (.inr (.inl 4)), some (.inl x1), some (.inl x2)] [] s Q := zJ_of (b := b114_61) (by rw [kBlk, kb_114]; rfl) h
set_option maxRecDepth 100000 in
theorem N114 {x : List Int} {d : Nat} {s : zSt} {Q : zQ}  (h : zJ x d 114 0 [some (.inr (.inl 4)), none, none] [] s Q) : zE x (d + 1) 114 [.inr (.inl 4)] s Q := zE_of (n := 3) rfl rfl rfl rfl (fun h => (zLok_some (h _ (List.mem_of_getElem? (i := 0) rfl)) (zLok_none (zLok_none zLok_nil)))) h
-- 115: PennyALap$Thought.surprised
set_option maxRecDepth 100000 in
theorem kb_115 : kBls.getD 115 [] = c115 := rfl
set_option maxRecDepth 100000 in
theorem B115_0 {x : List Int} {d : Nat} {s : zSt} {Q : zQ}   (h : zJ x d 115 4 [some (.inr (.inl 4)), some (.inl 0), some (.inl 0)] [] s Q) : zJ x d 115 0 [some (.inr (.inl 4)), none, none] [] s Q := zJ_of (b := b115_0) (by rw [kBlk, kb_115]; rfl) h
set_option maxRecDepth 100000 in
theorem B115_4 {x : List Int} {d : Nat} {s : zSt} {Q : zQ} {x1 : Int} {x2 : Int}  (h : zE x d 39 [.inr (.inl 2)] s (fun r s1 => zJ x d 115 12 [some (.inr (.inl 4)), some (.inl x1), some (.inl x2)] (zAp r [.inl x2]) s1 Q)) : zJ x d 115 4 [some (.inr (.inl 4)), some (.inl x1), some (.inl x2)] [] s Q := zJ_of (b := b115_4) (by rw [kBlk, kb_115]; rfl) h
set_option maxRecDepth 100000 in
theorem B115_12 {x : List Int} {d : Nat} {s : zSt} {Q : zQ} {x1 : Int} {x2 : Int} {y0 : Int} {y1 : Int}  (h : (y0 ≤ y1 → zJ x d 115 54 [some (.inr (.inl 4)), some (.inl x1), some (.inl x2)] [] s Q) ∧ (¬ (y0 ≤ y1) → zE x d 42 [.inr (.inl 2), .inl x2] s (fun r s1 => zJ x d 115 30 [some (.inr (.inl 4)), some (.inl x1), some (.inl x2)] (zAp r [.inr (.inl 4), .inl x2, .inr (.inl 2), .inl x1]) s1 Q))) : zJ x d 115 12 [some (.inr (.inl 4)), some (.inl x1), some (.inl x2)] [.inl y0, .inl y1] s Q := zJ_of (b := b115_12) (by rw [kBlk, kb_115]; rfl) h
set_option maxRecDepth 100000 in
theorem B115_30 {x : List Int} {d : Nat} {s : zSt} {Q : zQ} {x1 : Int} {x2 : Int} {y0 : Int} {y2 : Int} {y4 : Int}  (h : zE x d 104 [.inr (.inl 4), .inl y0] s (fun r s1 => zJ x d 115 33 [some (.inr (.inl 4)), some (.inl x1), some (.inl x2)] (zAp r [.inl y2, .inr (.inl 2), .inl y4]) s1 Q)) : zJ x d 115 30 [some (.inr (.inl 4)), some (.inl x1), some (.inl x2)] [.inl y0, .inr (.inl 4), .inl y2, .inr (.inl 2), .inl y4] s Q := zJ_of (b := b115_30) (by rw [kBlk, kb_115]; rfl) h
set_option maxRecDepth 100000 in
theorem B115_33 {x : List Int} {d : Nat} {s : zSt} {Q : zQ} {x1 : Int} {x2 : Int} {y0 : Int} {y1 : Int} {y3 : Int}  (h : zE x d 55 [.inr (.inl 2), .inl y1, .inl y0] s (fun r s1 => zJ x d 115 36 [some (.inr (.inl 4)), some (.inl x1), some (.inl x2)] (zAp r [.inl y3]) s1 Q)) : zJ x d 115 33 [some (.inr (.inl 4)), some (.inl x1), some (.inl x2)] [.inl y0, .inl y1, .inr (.inl 2), .inl y3] s Q := zJ_of (b := b115_33) (by rw [kBlk, kb_115]; rfl) h
set_option maxRecDepth 100000 in
theorem B115_36 {x : List Int} {d : Nat} {s : zSt} {Q : zQ} {x1 : Int} {x2 : Int} {y0 : Int} {y1 : Int}  (h : (y0 = 0 → zJ x d 115 45 [some (.inr (.inl 4)), some (.inl x1), some (.inl x2)] [.inl y1] s Q) ∧ (¬ (y0 = 0) → zJ x d 115 46 [some (.inr (.inl 4)), some (.inl x1), some (.inl x2)] [.inl (zShl 1 x2), .inl y1] s Q)) : zJ x d 115 36 [some (.inr (.inl 4)), some (.inl x1), some (.inl x2)] [.inl y0, .inl y1] s Q := zJ_of (b := b115_36) (by rw [kBlk, kb_115]; rfl) h
set_option maxRecDepth 100000 in
theorem B115_45 {x : List Int} {d : Nat} {s : zSt} {Q : zQ} {x1 : Int} {x2 : Int} {y0 : Int}  (h : zJ x d 115 46 [some (.inr (.inl 4)), some (.inl x1), some (.inl x2)] [.inl 0, .inl y0] s Q) : zJ x d 115 45 [some (.inr (.inl 4)), some (.inl x1), some (.inl x2)] [.inl y0] s Q := zJ_of (b := b115_45) (by rw [kBlk, kb_115]; rfl) h
set_option maxRecDepth 100000 in
theorem B115_46 {x : List Int} {d : Nat} {s : zSt} {Q : zQ} {x1 : Int} {x2 : Int} {y0 : Int} {y1 : Int}  (h : zJ x d 115 4 [some (.inr (.inl 4)), some (.inl (zOr y1 y0)), some (.inl (wr (x2 + 1)))] [] s Q) : zJ x d 115 46 [some (.inr (.inl 4)), some (.inl x1), some (.inl x2)] [.inl y0, .inl y1] s Q := zJ_of (b := b115_46) (by rw [kBlk, kb_115]; rfl) h
set_option maxRecDepth 100000 in
theorem B115_54 {x : List Int} {d : Nat} {s : zSt} {Q : zQ} {x1 : Int} {x2 : Int}  (h : Q (some (.inl x1)) s) : zJ x d 115 54 [some (.inr (.inl 4)), some (.inl x1), some (.inl x2)] [] s Q := zJ_of (b := b115_54) (by rw [kBlk, kb_115]; rfl) h
set_option maxRecDepth 100000 in
theorem N115 {x : List Int} {d : Nat} {s : zSt} {Q : zQ}  (h : zJ x d 115 0 [some (.inr (.inl 4)), none, none] [] s Q) : zE x (d + 1) 115 [.inr (.inl 4)] s Q := zE_of (n := 3) rfl rfl rfl rfl (fun h => (zLok_some (h _ (List.mem_of_getElem? (i := 0) rfl)) (zLok_none (zLok_none zLok_nil)))) h
-- 116: PennyALap$Thought.mostLaps
set_option maxRecDepth 100000 in
theorem kb_116 : kBls.getD 116 [] = c116 := rfl
set_option maxRecDepth 100000 in
theorem B116_0 {x : List Int} {d : Nat} {s : zSt} {Q : zQ}   (h : zJ x d 116 7 [some (.inr (.inl 4)), some (.inl (-2)), some (.inl 0), some (.inl 0)] [] s Q) : zJ x d 116 0 [some (.inr (.inl 4)), none, none, none] [] s Q := zJ_of (b := b116_0) (by rw [kBlk, kb_116]; rfl) h
set_option maxRecDepth 100000 in
theorem B116_7 {x : List Int} {d : Nat} {s : zSt} {Q : zQ} {x1 : Int} {x2 : Int} {x3 : Int}  (h : zE x d 38 [.inr (.inl 2)] s (fun r s1 => zJ x d 116 15 [some (.inr (.inl 4)), some (.inl x1), some (.inl x2), some (.inl x3)] (zAp r [.inl x3]) s1 Q)) : zJ x d 116 7 [some (.inr (.inl 4)), some (.inl x1), some (.inl x2), some (.inl x3)] [] s Q := zJ_of (b := b116_7) (by rw [kBlk, kb_116]; rfl) h
set_option maxRecDepth 100000 in
theorem B116_15 {x : List Int} {d : Nat} {s : zSt} {Q : zQ} {x1 : Int} {x2 : Int} {x3 : Int} {y0 : Int} {y1 : Int}  (h : (y0 ≤ y1 → zJ x d 116 43 [some (.inr (.inl 4)), some (.inl x1), some (.inl x2), some (.inl x3)] [] s Q) ∧ (¬ (y0 ≤ y1) → (0 : Int) ≤ x3 ∧ (x3 : Int) < 6 ∧ ((s 21 (x3).toNat ≤ x2 → zJ x d 116 37 [some (.inr (.inl 4)), some (.inl x1), some (.inl x2), some (.inl x3)] [] s Q) ∧ (¬ (s 21 (x3).toNat ≤ x2) → (0 : Int) ≤ x3 ∧ (x3 : Int) < 6 ∧ (zJ x d 116 37 [some (.inr (.inl 4)), some (.inl x3), some (.inl (s 21 (x3).toNat)), some (.inl x3)] [] s Q))))) : zJ x d 116 15 [some (.inr (.inl 4)), some (.inl x1), some (.inl x2), some (.inl x3)] [.inl y0, .inl y1] s Q := zJ_of (b := b116_15) (by rw [kBlk, kb_116]; rfl) h
set_option maxRecDepth 100000 in
theorem B116_37 {x : List Int} {d : Nat} {s : zSt} {Q : zQ} {x1 : Int} {x2 : Int} {x3 : Int}  (h : zJ x d 116 7 [some (.inr (.inl 4)), some (.inl x1), some (.inl x2), some (.inl (wr (x3 + 1)))] [] s Q) : zJ x d 116 37 [some (.inr (.inl 4)), some (.inl x1), some (.inl x2), some (.inl x3)] [] s Q := zJ_of (b := b116_37) (by rw [kBlk, kb_116]; rfl) h
set_option maxRecDepth 100000 in
theorem B116_43 {x : List Int} {d : Nat} {s : zSt} {Q : zQ} {x1 : Int} {x2 : Int} {x3 : Int}  (h : Q (some (.inl x1)) s) : zJ x d 116 43 [some (.inr (.inl 4)), some (.inl x1), some (.inl x2), some (.inl x3)] [] s Q := zJ_of (b := b116_43) (by rw [kBlk, kb_116]; rfl) h
set_option maxRecDepth 100000 in
theorem N116 {x : List Int} {d : Nat} {s : zSt} {Q : zQ}  (h : zJ x d 116 0 [some (.inr (.inl 4)), none, none, none] [] s Q) : zE x (d + 1) 116 [.inr (.inl 4)] s Q := zE_of (n := 4) rfl rfl rfl rfl (fun h => (zLok_some (h _ (List.mem_of_getElem? (i := 0) rfl)) (zLok_none (zLok_none (zLok_none zLok_nil))))) h
-- 117: PennyALap$Thought.mostPence
set_option maxRecDepth 100000 in
theorem kb_117 : kBls.getD 117 [] = c117 := rfl
set_option maxRecDepth 100000 in
theorem B117_0 {x : List Int} {d : Nat} {s : zSt} {Q : zQ}   (h : zJ x d 117 7 [some (.inr (.inl 4)), some (.inl (-2)), some (.inl (-1)), some (.inl 0), none] [] s Q) : zJ x d 117 0 [some (.inr (.inl 4)), none, none, none, none] [] s Q := zJ_of (b := b117_0) (by rw [kBlk, kb_117]; rfl) h
set_option maxRecDepth 100000 in
theorem B117_7 {x : List Int} {d : Nat} {s : zSt} {Q : zQ} {x1 : Int} {x2 : Int} {x3 : Int} {o4 : Option zV}  (h : zE x d 38 [.inr (.inl 2)] s (fun r s1 => zJ x d 117 15 [some (.inr (.inl 4)), some (.inl x1), some (.inl x2), some (.inl x3), o4] (zAp r [.inl x3]) s1 Q)) : zJ x d 117 7 [some (.inr (.inl 4)), some (.inl x1), some (.inl x2), some (.inl x3), o4] [] s Q := zJ_of (b := b117_7) (by rw [kBlk, kb_117]; rfl) h
set_option maxRecDepth 100000 in
theorem B117_15 {x : List Int} {d : Nat} {s : zSt} {Q : zQ} {x1 : Int} {x2 : Int} {x3 : Int} {o4 : Option zV} {y0 : Int} {y1 : Int}  (h : (y0 ≤ y1 → zJ x d 117 51 [some (.inr (.inl 4)), some (.inl x1), some (.inl x2), some (.inl x3), o4] [] s Q) ∧ (¬ (y0 ≤ y1) → (0 : Int) ≤ x3 ∧ (x3 : Int) < 6 ∧ (zE x d 57 [.inr (.inl 2), .inl x3, .inl (s 21 (x3).toNat)] s (fun r s1 => zJ x d 117 32 [some (.inr (.inl 4)), some (.inl x1), some (.inl x2), some (.inl x3), o4] (zAp r []) s1 Q)))) : zJ x d 117 15 [some (.inr (.inl 4)), some (.inl x1), some (.inl x2), some (.inl x3), o4] [.inl y0, .inl y1] s Q := zJ_of (b := b117_15) (by rw [kBlk, kb_117]; rfl) h
set_option maxRecDepth 100000 in
theorem B117_32 {x : List Int} {d : Nat} {s : zSt} {Q : zQ} {x1 : Int} {x2 : Int} {x3 : Int} {o4 : Option zV} {y0 : Int}  (h : (y0 ≤ x2 → zJ x d 117 45 [some (.inr (.inl 4)), some (.inl x1), some (.inl x2), some (.inl x3), some (.inl y0)] [] s Q) ∧ (¬ (y0 ≤ x2) → zJ x d 117 45 [some (.inr (.inl 4)), some (.inl x3), some (.inl y0), some (.inl x3), some (.inl y0)] [] s Q)) : zJ x d 117 32 [some (.inr (.inl 4)), some (.inl x1), some (.inl x2), some (.inl x3), o4] [.inl y0] s Q := zJ_of (b := b117_32) (by rw [kBlk, kb_117]; rfl) h
set_option maxRecDepth 100000 in
theorem B117_45 {x : List Int} {d : Nat} {s : zSt} {Q : zQ} {x1 : Int} {x2 : Int} {x3 : Int} {x4 : Int}  (h : zJ x d 117 7 [some (.inr (.inl 4)), some (.inl x1), some (.inl x2), some (.inl (wr (x3 + 1))), some (.inl x4)] [] s Q) : zJ x d 117 45 [some (.inr (.inl 4)), some (.inl x1), some (.inl x2), some (.inl x3), some (.inl x4)] [] s Q := zJ_of (b := b117_45) (by rw [kBlk, kb_117]; rfl) h
set_option maxRecDepth 100000 in
theorem B117_51 {x : List Int} {d : Nat} {s : zSt} {Q : zQ} {x1 : Int} {x2 : Int} {x3 : Int} {o4 : Option zV}  (h : Q (some (.inl x1)) s) : zJ x d 117 51 [some (.inr (.inl 4)), some (.inl x1), some (.inl x2), some (.inl x3), o4] [] s Q := zJ_of (b := b117_51) (by rw [kBlk, kb_117]; rfl) h
set_option maxRecDepth 100000 in
theorem N117 {x : List Int} {d : Nat} {s : zSt} {Q : zQ}  (h : zJ x d 117 0 [some (.inr (.inl 4)), none, none, none, none] [] s Q) : zE x (d + 1) 117 [.inr (.inl 4)] s Q := zE_of (n := 5) rfl rfl rfl rfl (fun h => (zLok_some (h _ (List.mem_of_getElem? (i := 0) rfl)) (zLok_none (zLok_none (zLok_none (zLok_none zLok_nil)))))) h
-- 118: PennyALap.within
set_option maxRecDepth 100000 in
theorem kb_118 : kBls.getD 118 [] = c118 := rfl
set_option maxRecDepth 100000 in
theorem B118_0 {x : List Int} {d : Nat} {s : zSt} {Q : zQ} {x0 : Int} {x1 : Int} {x2 : Int}  (h : (x0 < x1 → zJ x d 118 14 [some (.inl x0), some (.inl x1), some (.inl x2)] [] s Q) ∧ (¬ (x0 < x1) → (x2 < x0 → zJ x d 118 14 [some (.inl x0), some (.inl x1), some (.inl x2)] [] s Q) ∧ (¬ (x2 < x0) → zJ x d 118 15 [some (.inl x0), some (.inl x1), some (.inl x2)] [.inl 1] s Q))) : zJ x d 118 0 [some (.inl x0), some (.inl x1), some (.inl x2)] [] s Q := zJ_of (b := b118_0) (by rw [kBlk, kb_118]; rfl) h
set_option maxRecDepth 100000 in
theorem B118_14 {x : List Int} {d : Nat} {s : zSt} {Q : zQ} {x0 : Int} {x1 : Int} {x2 : Int}  (h : zJ x d 118 15 [some (.inl x0), some (.inl x1), some (.inl x2)] [.inl 0] s Q) : zJ x d 118 14 [some (.inl x0), some (.inl x1), some (.inl x2)] [] s Q := zJ_of (b := b118_14) (by rw [kBlk, kb_118]; rfl) h
set_option maxRecDepth 100000 in
theorem B118_15 {x : List Int} {d : Nat} {s : zSt} {Q : zQ} {x0 : Int} {x1 : Int} {x2 : Int} {y0 : Int}  (h : ((y0 : Int) = 0 ∨ (y0 : Int) = 1) ∧ Q (some (.inl y0)) s) : zJ x d 118 15 [some (.inl x0), some (.inl x1), some (.inl x2)] [.inl y0] s Q := zJ_of (b := b118_15) (by rw [kBlk, kb_118]; rfl) h
set_option maxRecDepth 100000 in
theorem N118 {x : List Int} {d : Nat} {s : zSt} {Q : zQ} {x0 : Int} {x1 : Int} {x2 : Int} (h : zJ x d 118 0 [some (.inl x0), some (.inl x1), some (.inl x2)] [] s Q) : zE x (d + 1) 118 [.inl x0, .inl x1, .inl x2] s Q := zE_of (n := 3) rfl rfl rfl rfl (fun h => (zLok_some (h _ (List.mem_of_getElem? (i := 0) rfl)) (zLok_some (h _ (List.mem_of_getElem? (i := 1) rfl)) (zLok_some (h _ (List.mem_of_getElem? (i := 2) rfl)) zLok_nil)))) h
-- 119: PennyALap.isPair
set_option maxRecDepth 100000 in
theorem kb_119 : kBls.getD 119 [] = c119 := rfl
set_option maxRecDepth 100000 in
theorem B119_0 {x : List Int} {d : Nat} {s : zSt} {Q : zQ} {x0 : Int} {x1 : Int} {x2 : Int} {x3 : Int}  (h : (x0 < 0 → zJ x d 119 26 [some (.inl x0), some (.inl x1), some (.inl x2), some (.inl x3)] [] s Q) ∧ (¬ (x0 < 0) → (x1 ≤ 0 → zJ x d 119 26 [some (.inl x0), some (.inl x1), some (.inl x2), some (.inl x3)] [] s Q) ∧ (¬ (x1 ≤ 0) → if x1 = 0 then False else ((x2 < wr ((x0).tdiv x1) → zJ x d 119 26 [some (.inl x0), some (.inl x1), some (.inl x2), some (.inl x3)] [] s Q) ∧ (¬ (x2 < wr ((x0).tdiv x1)) → if x1 = 0 then False else ((x3 < wr ((x0).tmod x1) → zJ x d 119 26 [some (.inl x0), some (.inl x1), some (.inl x2), some (.inl x3)] [] s Q) ∧ (¬ (x3 < wr ((x0).tmod x1)) → zJ x d 119 27 [some (.inl x0), some (.inl x1), some (.inl x2), some (.inl x3)] [.inl 1] s Q))))))) : zJ x d 119 0 [some (.inl x0), some (.inl x1), some (.inl x2), some (.inl x3)] [] s Q := zJ_of (b := b119_0) (by rw [kBlk, kb_119]; rfl) h
set_option maxRecDepth 100000 in
theorem B119_26 {x : List Int} {d : Nat} {s : zSt} {Q : zQ} {x0 : Int} {x1 : Int} {x2 : Int} {x3 : Int}  (h : zJ x d 119 27 [some (.inl x0), some (.inl x1), some (.inl x2), some (.inl x3)] [.inl 0] s Q) : zJ x d 119 26 [some (.inl x0), some (.inl x1), some (.inl x2), some (.inl x3)] [] s Q := zJ_of (b := b119_26) (by rw [kBlk, kb_119]; rfl) h
set_option maxRecDepth 100000 in
theorem B119_27 {x : List Int} {d : Nat} {s : zSt} {Q : zQ} {x0 : Int} {x1 : Int} {x2 : Int} {x3 : Int} {y0 : Int}  (h : ((y0 : Int) = 0 ∨ (y0 : Int) = 1) ∧ Q (some (.inl y0)) s) : zJ x d 119 27 [some (.inl x0), some (.inl x1), some (.inl x2), some (.inl x3)] [.inl y0] s Q := zJ_of (b := b119_27) (by rw [kBlk, kb_119]; rfl) h
set_option maxRecDepth 100000 in
theorem N119 {x : List Int} {d : Nat} {s : zSt} {Q : zQ} {x0 : Int} {x1 : Int} {x2 : Int} {x3 : Int} (h : zJ x d 119 0 [some (.inl x0), some (.inl x1), some (.inl x2), some (.inl x3)] [] s Q) : zE x (d + 1) 119 [.inl x0, .inl x1, .inl x2, .inl x3] s Q := zE_of (n := 4) rfl rfl rfl rfl (fun h => (zLok_some (h _ (List.mem_of_getElem? (i := 0) rfl)) (zLok_some (h _ (List.mem_of_getElem? (i := 1) rfl)) (zLok_some (h _ (List.mem_of_getElem? (i := 2) rfl)) (zLok_some (h _ (List.mem_of_getElem? (i := 3) rfl)) zLok_nil))))) h
