-- laid by wip/whole/blk.py
-- 0: PennyALap$Bodies.bodies
set_option maxRecDepth 100000 in
theorem kb_0 : kBls.getD 0 [] = c0 := rfl
set_option maxRecDepth 100000 in
theorem B0_0 {x : List Int} {d : Nat} {s : zSt} {Q : zQ}   (h : Q (some (.inl (s 9 1))) s) : zJ x d 0 0 [some (.inr (.inl 9))] [] s Q := zJ_of (b := b0_0) (by rw [kBlk, kb_0]; rfl) h
set_option maxRecDepth 100000 in
theorem N0 {x : List Int} {d : Nat} {s : zSt} {Q : zQ}  (h : zJ x d 0 0 [some (.inr (.inl 9))] [] s Q) : zE x (d + 1) 0 [.inr (.inl 9)] s Q := zE_of (n := 1) rfl rfl rfl rfl (fun h => (zLok_some (h _ (List.mem_of_getElem? (i := 0) rfl)) zLok_nil)) h
-- 1: PennyALap$Bodies.ran
set_option maxRecDepth 100000 in
theorem kb_1 : kBls.getD 1 [] = c1 := rfl
set_option maxRecDepth 100000 in
theorem B1_0 {x : List Int} {d : Nat} {s : zSt} {Q : zQ}   (h : Q (some (.inl (s 9 3))) s) : zJ x d 1 0 [some (.inr (.inl 9))] [] s Q := zJ_of (b := b1_0) (by rw [kBlk, kb_1]; rfl) h
set_option maxRecDepth 100000 in
theorem N1 {x : List Int} {d : Nat} {s : zSt} {Q : zQ}  (h : zJ x d 1 0 [some (.inr (.inl 9))] [] s Q) : zE x (d + 1) 1 [.inr (.inl 9)] s Q := zE_of (n := 1) rfl rfl rfl rfl (fun h => (zLok_some (h _ (List.mem_of_getElem? (i := 0) rfl)) zLok_nil)) h
-- 2: PennyALap$Bodies.isKind
set_option maxRecDepth 100000 in
theorem kb_2 : kBls.getD 2 [] = c2 := rfl
set_option maxRecDepth 100000 in
theorem B2_0 {x : List Int} {d : Nat} {s : zSt} {Q : zQ} {x1 : Int}  (h : (x1 < 0 → zJ x d 2 14 [some (.inr (.inl 9)), some (.inl x1)] [] s Q) ∧ (¬ (x1 < 0) → (8 ≤ x1 → zJ x d 2 14 [some (.inr (.inl 9)), some (.inl x1)] [] s Q) ∧ (¬ (8 ≤ x1) → zJ x d 2 15 [some (.inr (.inl 9)), some (.inl x1)] [.inl 1] s Q))) : zJ x d 2 0 [some (.inr (.inl 9)), some (.inl x1)] [] s Q := zJ_of (b := b2_0) (by rw [kBlk, kb_2]; rfl) h
set_option maxRecDepth 100000 in
theorem B2_14 {x : List Int} {d : Nat} {s : zSt} {Q : zQ} {x1 : Int}  (h : zJ x d 2 15 [some (.inr (.inl 9)), some (.inl x1)] [.inl 0] s Q) : zJ x d 2 14 [some (.inr (.inl 9)), some (.inl x1)] [] s Q := zJ_of (b := b2_14) (by rw [kBlk, kb_2]; rfl) h
set_option maxRecDepth 100000 in
theorem B2_15 {x : List Int} {d : Nat} {s : zSt} {Q : zQ} {x1 : Int} {y0 : Int}  (h : ((y0 : Int) = 0 ∨ (y0 : Int) = 1) ∧ Q (some (.inl y0)) s) : zJ x d 2 15 [some (.inr (.inl 9)), some (.inl x1)] [.inl y0] s Q := zJ_of (b := b2_15) (by rw [kBlk, kb_2]; rfl) h
set_option maxRecDepth 100000 in
theorem N2 {x : List Int} {d : Nat} {s : zSt} {Q : zQ} {x1 : Int} (h : zJ x d 2 0 [some (.inr (.inl 9)), some (.inl x1)] [] s Q) : zE x (d + 1) 2 [.inr (.inl 9), .inl x1] s Q := zE_of (n := 2) rfl rfl rfl rfl (fun h => (zLok_some (h _ (List.mem_of_getElem? (i := 0) rfl)) (zLok_some (h _ (List.mem_of_getElem? (i := 1) rfl)) zLok_nil))) h
-- 3: PennyALap$Bodies.isBody
set_option maxRecDepth 100000 in
theorem kb_3 : kBls.getD 3 [] = c3 := rfl
set_option maxRecDepth 100000 in
theorem B3_0 {x : List Int} {d : Nat} {s : zSt} {Q : zQ} {x1 : Int}  (h : (x1 < 0 → zJ x d 3 16 [some (.inr (.inl 9)), some (.inl x1)] [] s Q) ∧ (¬ (x1 < 0) → (s 9 1 ≤ x1 → zJ x d 3 16 [some (.inr (.inl 9)), some (.inl x1)] [] s Q) ∧ (¬ (s 9 1 ≤ x1) → zJ x d 3 17 [some (.inr (.inl 9)), some (.inl x1)] [.inl 1] s Q))) : zJ x d 3 0 [some (.inr (.inl 9)), some (.inl x1)] [] s Q := zJ_of (b := b3_0) (by rw [kBlk, kb_3]; rfl) h
set_option maxRecDepth 100000 in
theorem B3_16 {x : List Int} {d : Nat} {s : zSt} {Q : zQ} {x1 : Int}  (h : zJ x d 3 17 [some (.inr (.inl 9)), some (.inl x1)] [.inl 0] s Q) : zJ x d 3 16 [some (.inr (.inl 9)), some (.inl x1)] [] s Q := zJ_of (b := b3_16) (by rw [kBlk, kb_3]; rfl) h
set_option maxRecDepth 100000 in
theorem B3_17 {x : List Int} {d : Nat} {s : zSt} {Q : zQ} {x1 : Int} {y0 : Int}  (h : ((y0 : Int) = 0 ∨ (y0 : Int) = 1) ∧ Q (some (.inl y0)) s) : zJ x d 3 17 [some (.inr (.inl 9)), some (.inl x1)] [.inl y0] s Q := zJ_of (b := b3_17) (by rw [kBlk, kb_3]; rfl) h
set_option maxRecDepth 100000 in
theorem N3 {x : List Int} {d : Nat} {s : zSt} {Q : zQ} {x1 : Int} (h : zJ x d 3 0 [some (.inr (.inl 9)), some (.inl x1)] [] s Q) : zE x (d + 1) 3 [.inr (.inl 9), .inl x1] s Q := zE_of (n := 2) rfl rfl rfl rfl (fun h => (zLok_some (h _ (List.mem_of_getElem? (i := 0) rfl)) (zLok_some (h _ (List.mem_of_getElem? (i := 1) rfl)) zLok_nil))) h
-- 4: PennyALap$Bodies.kindOf
set_option maxRecDepth 100000 in
theorem kb_4 : kBls.getD 4 [] = c4 := rfl
set_option maxRecDepth 100000 in
theorem B4_0 {x : List Int} {d : Nat} {s : zSt} {Q : zQ} {x1 : Int}  (h : zE x d 3 [.inr (.inl 9), .inl x1] s (fun r s1 => zJ x d 4 5 [some (.inr (.inl 9)), some (.inl x1)] (zAp r []) s1 Q)) : zJ x d 4 0 [some (.inr (.inl 9)), some (.inl x1)] [] s Q := zJ_of (b := b4_0) (by rw [kBlk, kb_4]; rfl) h
set_option maxRecDepth 100000 in
theorem B4_5 {x : List Int} {d : Nat} {s : zSt} {Q : zQ} {x1 : Int} {y0 : Int}  (h : (y0 = 0 → zJ x d 4 17 [some (.inr (.inl 9)), some (.inl x1)] [] s Q) ∧ (¬ (y0 = 0) → (0 : Int) ≤ x1 ∧ (x1 : Int) < 50 ∧ (zJ x d 4 18 [some (.inr (.inl 9)), some (.inl x1)] [.inl (s 36 (x1).toNat)] s Q))) : zJ x d 4 5 [some (.inr (.inl 9)), some (.inl x1)] [.inl y0] s Q := zJ_of (b := b4_5) (by rw [kBlk, kb_4]; rfl) h
set_option maxRecDepth 100000 in
theorem B4_17 {x : List Int} {d : Nat} {s : zSt} {Q : zQ} {x1 : Int}  (h : zJ x d 4 18 [some (.inr (.inl 9)), some (.inl x1)] [.inl (-1)] s Q) : zJ x d 4 17 [some (.inr (.inl 9)), some (.inl x1)] [] s Q := zJ_of (b := b4_17) (by rw [kBlk, kb_4]; rfl) h
set_option maxRecDepth 100000 in
theorem B4_18 {x : List Int} {d : Nat} {s : zSt} {Q : zQ} {x1 : Int} {y0 : Int}  (h : Q (some (.inl y0)) s) : zJ x d 4 18 [some (.inr (.inl 9)), some (.inl x1)] [.inl y0] s Q := zJ_of (b := b4_18) (by rw [kBlk, kb_4]; rfl) h
set_option maxRecDepth 100000 in
theorem N4 {x : List Int} {d : Nat} {s : zSt} {Q : zQ} {x1 : Int} (h : zJ x d 4 0 [some (.inr (.inl 9)), some (.inl x1)] [] s Q) : zE x (d + 1) 4 [.inr (.inl 9), .inl x1] s Q := zE_of (n := 2) rfl rfl rfl rfl (fun h => (zLok_some (h _ (List.mem_of_getElem? (i := 0) rfl)) (zLok_some (h _ (List.mem_of_getElem? (i := 1) rfl)) zLok_nil))) h
-- 5: PennyALap$Bodies.bodyComes
set_option maxRecDepth 100000 in
theorem kb_5 : kBls.getD 5 [] = c5 := rfl
set_option maxRecDepth 100000 in
theorem B5_0 {x : List Int} {d : Nat} {s : zSt} {Q : zQ} {x1 : Int}  (h : (s 9 1 < 50 → zJ x d 5 12 [some (.inr (.inl 9)), some (.inl x1)] [] s Q) ∧ (¬ (s 9 1 < 50) → Q (some (.inl (-3))) s)) : zJ x d 5 0 [some (.inr (.inl 9)), some (.inl x1)] [] s Q := zJ_of (b := b5_0) (by rw [kBlk, kb_5]; rfl) h
set_option maxRecDepth 100000 in
theorem B5_12 {x : List Int} {d : Nat} {s : zSt} {Q : zQ} {x1 : Int}  (h : (0 : Int) ≤ s 9 1 ∧ (s 9 1 : Int) < 50 ∧ (Q (some (.inl (wr ((wr ((s 9 1) + 1)) - 1)))) (zU (zU s 36 (s 9 1).toNat x1) 9 1 (wr ((s 9 1) + 1))))) : zJ x d 5 12 [some (.inr (.inl 9)), some (.inl x1)] [] s Q := zJ_of (b := b5_12) (by rw [kBlk, kb_5]; rfl) h
set_option maxRecDepth 100000 in
theorem N5 {x : List Int} {d : Nat} {s : zSt} {Q : zQ} {x1 : Int} (h : zJ x d 5 0 [some (.inr (.inl 9)), some (.inl x1)] [] s Q) : zE x (d + 1) 5 [.inr (.inl 9), .inl x1] s Q := zE_of (n := 2) rfl rfl rfl rfl (fun h => (zLok_some (h _ (List.mem_of_getElem? (i := 0) rfl)) (zLok_some (h _ (List.mem_of_getElem? (i := 1) rfl)) zLok_nil))) h
-- 6: PennyALap$Bodies.isUnder
set_option maxRecDepth 100000 in
theorem kb_6 : kBls.getD 6 [] = c6 := rfl
set_option maxRecDepth 100000 in
theorem B6_0 {x : List Int} {d : Nat} {s : zSt} {Q : zQ} {x1 : Int} {x2 : Int}  (h : zJ x d 6 5 [some (.inr (.inl 9)), some (.inl x1), some (.inl x2), some (.inl x1), some (.inl 0)] [] s Q) : zJ x d 6 0 [some (.inr (.inl 9)), some (.inl x1), some (.inl x2), none, none] [] s Q := zJ_of (b := b6_0) (by rw [kBlk, kb_6]; rfl) h
set_option maxRecDepth 100000 in
theorem B6_5 {x : List Int} {d : Nat} {s : zSt} {Q : zQ} {x1 : Int} {x2 : Int} {x3 : Int} {x4 : Int}  (h : (8 ≤ x4 → zJ x d 6 37 [some (.inr (.inl 9)), some (.inl x1), some (.inl x2), some (.inl x3), some (.inl x4)] [] s Q) ∧ (¬ (8 ≤ x4) → zE x d 2 [.inr (.inl 9), .inl x3] s (fun r s1 => zJ x d 6 17 [some (.inr (.inl 9)), some (.inl x1), some (.inl x2), some (.inl x3), some (.inl x4)] (zAp r []) s1 Q))) : zJ x d 6 5 [some (.inr (.inl 9)), some (.inl x1), some (.inl x2), some (.inl x3), some (.inl x4)] [] s Q := zJ_of (b := b6_5) (by rw [kBlk, kb_6]; rfl) h
set_option maxRecDepth 100000 in
theorem B6_17 {x : List Int} {d : Nat} {s : zSt} {Q : zQ} {x1 : Int} {x2 : Int} {x3 : Int} {x4 : Int} {y0 : Int}  (h : (y0 = 0 → zJ x d 6 37 [some (.inr (.inl 9)), some (.inl x1), some (.inl x2), some (.inl x3), some (.inl x4)] [] s Q) ∧ (¬ (y0 = 0) → (x3 = x2 → zJ x d 6 37 [some (.inr (.inl 9)), some (.inl x1), some (.inl x2), some (.inl x3), some (.inl x4)] [] s Q) ∧ (¬ (x3 = x2) → (0 : Int) ≤ x3 ∧ (x3 : Int) < 8 ∧ (zJ x d 6 5 [some (.inr (.inl 9)), some (.inl x1), some (.inl x2), some (.inl (zABOVE.getD (x3).toNat 0)), some (.inl (wr (x4 + 1)))] [] s Q)))) : zJ x d 6 17 [some (.inr (.inl 9)), some (.inl x1), some (.inl x2), some (.inl x3), some (.inl x4)] [.inl y0] s Q := zJ_of (b := b6_17) (by rw [kBlk, kb_6]; rfl) h
set_option maxRecDepth 100000 in
theorem B6_37 {x : List Int} {d : Nat} {s : zSt} {Q : zQ} {x1 : Int} {x2 : Int} {x3 : Int} {x4 : Int}  (h : (¬ x3 = x2 → zJ x d 6 46 [some (.inr (.inl 9)), some (.inl x1), some (.inl x2), some (.inl x3), some (.inl x4)] [] s Q) ∧ (¬ (¬ x3 = x2) → zJ x d 6 47 [some (.inr (.inl 9)), some (.inl x1), some (.inl x2), some (.inl x3), some (.inl x4)] [.inl 1] s Q)) : zJ x d 6 37 [some (.inr (.inl 9)), some (.inl x1), some (.inl x2), some (.inl x3), some (.inl x4)] [] s Q := zJ_of (b := b6_37) (by rw [kBlk, kb_6]; rfl) h
set_option maxRecDepth 100000 in
theorem B6_46 {x : List Int} {d : Nat} {s : zSt} {Q : zQ} {x1 : Int} {x2 : Int} {x3 : Int} {x4 : Int}  (h : zJ x d 6 47 [some (.inr (.inl 9)), some (.inl x1), some (.inl x2), some (.inl x3), some (.inl x4)] [.inl 0] s Q) : zJ x d 6 46 [some (.inr (.inl 9)), some (.inl x1), some (.inl x2), some (.inl x3), some (.inl x4)] [] s Q := zJ_of (b := b6_46) (by rw [kBlk, kb_6]; rfl) h
set_option maxRecDepth 100000 in
theorem B6_47 {x : List Int} {d : Nat} {s : zSt} {Q : zQ} {x1 : Int} {x2 : Int} {x3 : Int} {x4 : Int} {y0 : Int}  (h : ((y0 : Int) = 0 ∨ (y0 : Int) = 1) ∧ Q (some (.inl y0)) s) : zJ x d 6 47 [some (.inr (.inl 9)), some (.inl x1), some (.inl x2), some (.inl x3), some (.inl x4)] [.inl y0] s Q := zJ_of (b := b6_47) (by rw [kBlk, kb_6]; rfl) h
set_option maxRecDepth 100000 in
theorem N6 {x : List Int} {d : Nat} {s : zSt} {Q : zQ} {x1 : Int} {x2 : Int} (h : zJ x d 6 0 [some (.inr (.inl 9)), some (.inl x1), some (.inl x2), none, none] [] s Q) : zE x (d + 1) 6 [.inr (.inl 9), .inl x1, .inl x2] s Q := zE_of (n := 5) rfl rfl rfl rfl (fun h => (zLok_some (h _ (List.mem_of_getElem? (i := 0) rfl)) (zLok_some (h _ (List.mem_of_getElem? (i := 1) rfl)) (zLok_some (h _ (List.mem_of_getElem? (i := 2) rfl)) (zLok_none (zLok_none zLok_nil)))))) h
-- 7: PennyALap$Bodies.traced
set_option maxRecDepth 100000 in
theorem kb_7 : kBls.getD 7 [] = c7 := rfl
set_option maxRecDepth 100000 in
theorem B7_0 {x : List Int} {d : Nat} {s : zSt} {Q : zQ} {x1 : Int}  (h : (x1 < 0 → zJ x d 7 27 [some (.inr (.inl 9)), some (.inl x1)] [] s Q) ∧ (¬ (x1 < 0) → (s 9 3 ≤ x1 → zJ x d 7 27 [some (.inr (.inl 9)), some (.inl x1)] [] s Q) ∧ (¬ (s 9 3 ≤ x1) → (24 ≤ x1 → zJ x d 7 27 [some (.inr (.inl 9)), some (.inl x1)] [] s Q) ∧ (¬ (24 ≤ x1) → (0 : Int) ≤ x1 ∧ (x1 : Int) < 24 ∧ (zJ x d 7 28 [some (.inr (.inl 9)), some (.inl x1)] [.inl (s 37 (x1).toNat)] s Q))))) : zJ x d 7 0 [some (.inr (.inl 9)), some (.inl x1)] [] s Q := zJ_of (b := b7_0) (by rw [kBlk, kb_7]; rfl) h
set_option maxRecDepth 100000 in
theorem B7_27 {x : List Int} {d : Nat} {s : zSt} {Q : zQ} {x1 : Int}  (h : zJ x d 7 28 [some (.inr (.inl 9)), some (.inl x1)] [.inl (-1)] s Q) : zJ x d 7 27 [some (.inr (.inl 9)), some (.inl x1)] [] s Q := zJ_of (b := b7_27) (by rw [kBlk, kb_7]; rfl) h
set_option maxRecDepth 100000 in
theorem B7_28 {x : List Int} {d : Nat} {s : zSt} {Q : zQ} {x1 : Int} {y0 : Int}  (h : Q (some (.inl y0)) s) : zJ x d 7 28 [some (.inr (.inl 9)), some (.inl x1)] [.inl y0] s Q := zJ_of (b := b7_28) (by rw [kBlk, kb_7]; rfl) h
set_option maxRecDepth 100000 in
theorem N7 {x : List Int} {d : Nat} {s : zSt} {Q : zQ} {x1 : Int} (h : zJ x d 7 0 [some (.inr (.inl 9)), some (.inl x1)] [] s Q) : zE x (d + 1) 7 [.inr (.inl 9), .inl x1] s Q := zE_of (n := 2) rfl rfl rfl rfl (fun h => (zLok_some (h _ (List.mem_of_getElem? (i := 0) rfl)) (zLok_some (h _ (List.mem_of_getElem? (i := 1) rfl)) zLok_nil))) h
-- 8: PennyALap$Bodies.begin
set_option maxRecDepth 100000 in
theorem kb_8 : kBls.getD 8 [] = c8 := rfl
set_option maxRecDepth 100000 in
theorem B8_0 {x : List Int} {d : Nat} {s : zSt} {Q : zQ} {x1 : Int} {x2 : Int} {x3 : Int}  (h : zE x d 3 [.inr (.inl 9), .inl x1] (zU s 9 3 0) (fun r s1 => zJ x d 8 10 [some (.inr (.inl 9)), some (.inl x1), some (.inl x2), some (.inl x3)] (zAp r []) s1 Q)) : zJ x d 8 0 [some (.inr (.inl 9)), some (.inl x1), some (.inl x2), some (.inl x3)] [] s Q := zJ_of (b := b8_0) (by rw [kBlk, kb_8]; rfl) h
set_option maxRecDepth 100000 in
theorem B8_10 {x : List Int} {d : Nat} {s : zSt} {Q : zQ} {x1 : Int} {x2 : Int} {x3 : Int} {y0 : Int}  (h : (y0 = 0 → zJ x d 8 22 [some (.inr (.inl 9)), some (.inl x1), some (.inl x2), some (.inl x3)] [] s Q) ∧ (¬ (y0 = 0) → (x2 < 0 → zJ x d 8 22 [some (.inr (.inl 9)), some (.inl x1), some (.inl x2), some (.inl x3)] [] s Q) ∧ (¬ (x2 < 0) → (x2 < 4 → zJ x d 8 24 [some (.inr (.inl 9)), some (.inl x1), some (.inl x2), some (.inl x3)] [] s Q) ∧ (¬ (x2 < 4) → zJ x d 8 22 [some (.inr (.inl 9)), some (.inl x1), some (.inl x2), some (.inl x3)] [] s Q)))) : zJ x d 8 10 [some (.inr (.inl 9)), some (.inl x1), some (.inl x2), some (.inl x3)] [.inl y0] s Q := zJ_of (b := b8_10) (by rw [kBlk, kb_8]; rfl) h
set_option maxRecDepth 100000 in
theorem B8_22 {x : List Int} {d : Nat} {s : zSt} {Q : zQ} {x1 : Int} {x2 : Int} {x3 : Int}  (h : Q (some (.inl 0)) s) : zJ x d 8 22 [some (.inr (.inl 9)), some (.inl x1), some (.inl x2), some (.inl x3)] [] s Q := zJ_of (b := b8_22) (by rw [kBlk, kb_8]; rfl) h
set_option maxRecDepth 100000 in
theorem B8_24 {x : List Int} {d : Nat} {s : zSt} {Q : zQ} {x1 : Int} {x2 : Int} {x3 : Int}  (h : zE x d 9 [.inr (.inl 9), .inl x1, .inl x2, .inl x3, .inl 0] s (fun r s1 => zJ x d 8 32 [some (.inr (.inl 9)), some (.inl x1), some (.inl x2), some (.inl x3)] (zAp r []) s1 Q)) : zJ x d 8 24 [some (.inr (.inl 9)), some (.inl x1), some (.inl x2), some (.inl x3)] [] s Q := zJ_of (b := b8_24) (by rw [kBlk, kb_8]; rfl) h
set_option maxRecDepth 100000 in
theorem B8_32 {x : List Int} {d : Nat} {s : zSt} {Q : zQ} {x1 : Int} {x2 : Int} {x3 : Int} {y0 : Int}  (h : Q (some (.inl y0)) s) : zJ x d 8 32 [some (.inr (.inl 9)), some (.inl x1), some (.inl x2), some (.inl x3)] [.inl y0] s Q := zJ_of (b := b8_32) (by rw [kBlk, kb_8]; rfl) h
set_option maxRecDepth 100000 in
theorem N8 {x : List Int} {d : Nat} {s : zSt} {Q : zQ} {x1 : Int} {x2 : Int} {x3 : Int} (h : zJ x d 8 0 [some (.inr (.inl 9)), some (.inl x1), some (.inl x2), some (.inl x3)] [] s Q) : zE x (d + 1) 8 [.inr (.inl 9), .inl x1, .inl x2, .inl x3] s Q := zE_of (n := 4) rfl rfl rfl rfl (fun h => (zLok_some (h _ (List.mem_of_getElem? (i := 0) rfl)) (zLok_some (h _ (List.mem_of_getElem? (i := 1) rfl)) (zLok_some (h _ (List.mem_of_getElem? (i := 2) rfl)) (zLok_some (h _ (List.mem_of_getElem? (i := 3) rfl)) zLok_nil))))) h
-- 9: PennyALap$Bodies.own
set_option maxRecDepth 100000 in
theorem kb_9 : kBls.getD 9 [] = c9 := rfl
set_option maxRecDepth 100000 in
theorem B9_0 {x : List Int} {d : Nat} {s : zSt} {Q : zQ} {x1 : Int} {x2 : Int} {x3 : Int} {x4 : Int}  (h : zE x d 4 [.inr (.inl 9), .inl x1] s (fun r s1 => zJ x d 9 6 [some (.inr (.inl 9)), some (.inl x1), some (.inl x2), some (.inl x3), some (.inl x4)] (zAp r [.inr (.inl 9)]) s1 Q)) : zJ x d 9 0 [some (.inr (.inl 9)), some (.inl x1), some (.inl x2), some (.inl x3), some (.inl x4)] [] s Q := zJ_of (b := b9_0) (by rw [kBlk, kb_9]; rfl) h
set_option maxRecDepth 100000 in
theorem B9_6 {x : List Int} {d : Nat} {s : zSt} {Q : zQ} {x1 : Int} {x2 : Int} {x3 : Int} {x4 : Int} {y0 : Int}  (h : zE x d 11 [.inr (.inl 9), .inl y0, .inl x1, .inl x2, .inl x3, .inl x4] s (fun r s1 => zJ x d 9 14 [some (.inr (.inl 9)), some (.inl x1), some (.inl x2), some (.inl x3), some (.inl x4)] (zAp r []) s1 Q)) : zJ x d 9 6 [some (.inr (.inl 9)), some (.inl x1), some (.inl x2), some (.inl x3), some (.inl x4)] [.inl y0, .inr (.inl 9)] s Q := zJ_of (b := b9_6) (by rw [kBlk, kb_9]; rfl) h
set_option maxRecDepth 100000 in
theorem B9_14 {x : List Int} {d : Nat} {s : zSt} {Q : zQ} {x1 : Int} {x2 : Int} {x3 : Int} {x4 : Int} {y0 : Int}  (h : Q (some (.inl y0)) s) : zJ x d 9 14 [some (.inr (.inl 9)), some (.inl x1), some (.inl x2), some (.inl x3), some (.inl x4)] [.inl y0] s Q := zJ_of (b := b9_14) (by rw [kBlk, kb_9]; rfl) h
set_option maxRecDepth 100000 in
theorem N9 {x : List Int} {d : Nat} {s : zSt} {Q : zQ} {x1 : Int} {x2 : Int} {x3 : Int} {x4 : Int} (h : zJ x d 9 0 [some (.inr (.inl 9)), some (.inl x1), some (.inl x2), some (.inl x3), some (.inl x4)] [] s Q) : zE x (d + 1) 9 [.inr (.inl 9), .inl x1, .inl x2, .inl x3, .inl x4] s Q := zE_of (n := 5) rfl rfl rfl rfl (fun h => (zLok_some (h _ (List.mem_of_getElem? (i := 0) rfl)) (zLok_some (h _ (List.mem_of_getElem? (i := 1) rfl)) (zLok_some (h _ (List.mem_of_getElem? (i := 2) rfl)) (zLok_some (h _ (List.mem_of_getElem? (i := 3) rfl)) (zLok_some (h _ (List.mem_of_getElem? (i := 4) rfl)) zLok_nil)))))) h
-- 10: PennyALap$Bodies.higher
set_option maxRecDepth 100000 in
theorem kb_10 : kBls.getD 10 [] = c10 := rfl
set_option maxRecDepth 100000 in
theorem B10_0 {x : List Int} {d : Nat} {s : zSt} {Q : zQ} {x1 : Int} {x2 : Int} {x3 : Int} {x4 : Int} {x5 : Int}  (h : zE x d 2 [.inr (.inl 9), .inl x1] s (fun r s1 => zJ x d 10 6 [some (.inr (.inl 9)), some (.inl x1), some (.inl x2), some (.inl x3), some (.inl x4), some (.inl x5)] (zAp r [.inr (.inl 9)]) s1 Q)) : zJ x d 10 0 [some (.inr (.inl 9)), some (.inl x1), some (.inl x2), some (.inl x3), some (.inl x4), some (.inl x5)] [] s Q := zJ_of (b := b10_0) (by rw [kBlk, kb_10]; rfl) h
set_option maxRecDepth 100000 in
theorem B10_6 {x : List Int} {d : Nat} {s : zSt} {Q : zQ} {x1 : Int} {x2 : Int} {x3 : Int} {x4 : Int} {x5 : Int} {y0 : Int}  (h : (y0 = 0 → zJ x d 10 17 [some (.inr (.inl 9)), some (.inl x1), some (.inl x2), some (.inl x3), some (.inl x4), some (.inl x5)] [.inr (.inl 9)] s Q) ∧ (¬ (y0 = 0) → (0 : Int) ≤ x1 ∧ (x1 : Int) < 8 ∧ (zJ x d 10 18 [some (.inr (.inl 9)), some (.inl x1), some (.inl x2), some (.inl x3), some (.inl x4), some (.inl x5)] [.inl (zABOVE.getD (x1).toNat 0), .inr (.inl 9)] s Q))) : zJ x d 10 6 [some (.inr (.inl 9)), some (.inl x1), some (.inl x2), some (.inl x3), some (.inl x4), some (.inl x5)] [.inl y0, .inr (.inl 9)] s Q := zJ_of (b := b10_6) (by rw [kBlk, kb_10]; rfl) h
set_option maxRecDepth 100000 in
theorem B10_17 {x : List Int} {d : Nat} {s : zSt} {Q : zQ} {x1 : Int} {x2 : Int} {x3 : Int} {x4 : Int} {x5 : Int}  (h : zJ x d 10 18 [some (.inr (.inl 9)), some (.inl x1), some (.inl x2), some (.inl x3), some (.inl x4), some (.inl x5)] [.inl (-1), .inr (.inl 9)] s Q) : zJ x d 10 17 [some (.inr (.inl 9)), some (.inl x1), some (.inl x2), some (.inl x3), some (.inl x4), some (.inl x5)] [.inr (.inl 9)] s Q := zJ_of (b := b10_17) (by rw [kBlk, kb_10]; rfl) h
set_option maxRecDepth 100000 in
theorem B10_18 {x : List Int} {d : Nat} {s : zSt} {Q : zQ} {x1 : Int} {x2 : Int} {x3 : Int} {x4 : Int} {x5 : Int} {y0 : Int}  (h : zE x d 11 [.inr (.inl 9), .inl y0, .inl x2, .inl x3, .inl x4, .inl x5] s (fun r s1 => zJ x d 10 27 [some (.inr (.inl 9)), some (.inl x1), some (.inl x2), some (.inl x3), some (.inl x4), some (.inl x5)] (zAp r []) s1 Q)) : zJ x d 10 18 [some (.inr (.inl 9)), some (.inl x1), some (.inl x2), some (.inl x3), some (.inl x4), some (.inl x5)] [.inl y0, .inr (.inl 9)] s Q := zJ_of (b := b10_18) (by rw [kBlk, kb_10]; rfl) h
set_option maxRecDepth 100000 in
theorem B10_27 {x : List Int} {d : Nat} {s : zSt} {Q : zQ} {x1 : Int} {x2 : Int} {x3 : Int} {x4 : Int} {x5 : Int} {y0 : Int}  (h : Q (some (.inl y0)) s) : zJ x d 10 27 [some (.inr (.inl 9)), some (.inl x1), some (.inl x2), some (.inl x3), some (.inl x4), some (.inl x5)] [.inl y0] s Q := zJ_of (b := b10_27) (by rw [kBlk, kb_10]; rfl) h
set_option maxRecDepth 100000 in
theorem N10 {x : List Int} {d : Nat} {s : zSt} {Q : zQ} {x1 : Int} {x2 : Int} {x3 : Int} {x4 : Int} {x5 : Int} (h : zJ x d 10 0 [some (.inr (.inl 9)), some (.inl x1), some (.inl x2), some (.inl x3), some (.inl x4), some (.inl x5)] [] s Q) : zE x (d + 1) 10 [.inr (.inl 9), .inl x1, .inl x2, .inl x3, .inl x4, .inl x5] s Q := zE_of (n := 6) rfl rfl rfl rfl (fun h => (zLok_some (h _ (List.mem_of_getElem? (i := 0) rfl)) (zLok_some (h _ (List.mem_of_getElem? (i := 1) rfl)) (zLok_some (h _ (List.mem_of_getElem? (i := 2) rfl)) (zLok_some (h _ (List.mem_of_getElem? (i := 3) rfl)) (zLok_some (h _ (List.mem_of_getElem? (i := 4) rfl)) (zLok_some (h _ (List.mem_of_getElem? (i := 5) rfl)) zLok_nil))))))) h
-- 11: PennyALap$Bodies.from
set_option maxRecDepth 100000 in
theorem kb_11 : kBls.getD 11 [] = c11 := rfl
set_option maxRecDepth 100000 in
theorem B11_0 {x : List Int} {d : Nat} {s : zSt} {Q : zQ} {x1 : Int} {x2 : Int} {x3 : Int} {x4 : Int} {x5 : Int}  (h : zJ x d 11 6 [some (.inr (.inl 9)), some (.inl x1), some (.inl x2), some (.inl x3), some (.inl x4), some (.inl x5), some (.inl x1), some (.inl 0)] [] s Q) : zJ x d 11 0 [some (.inr (.inl 9)), some (.inl x1), some (.inl x2), some (.inl x3), some (.inl x4), some (.inl x5), none, none] [] s Q := zJ_of (b := b11_0) (by rw [kBlk, kb_11]; rfl) h
set_option maxRecDepth 100000 in
theorem B11_6 {x : List Int} {d : Nat} {s : zSt} {Q : zQ} {x1 : Int} {x2 : Int} {x3 : Int} {x4 : Int} {x5 : Int} {x6 : Int} {x7 : Int}  (h : (8 ≤ x7 → zJ x d 11 49 [some (.inr (.inl 9)), some (.inl x1), some (.inl x2), some (.inl x3), some (.inl x4), some (.inl x5), some (.inl x6), some (.inl x7)] [] s Q) ∧ (¬ (8 ≤ x7) → zE x d 2 [.inr (.inl 9), .inl x6] s (fun r s1 => zJ x d 11 19 [some (.inr (.inl 9)), some (.inl x1), some (.inl x2), some (.inl x3), some (.inl x4), some (.inl x5), some (.inl x6), some (.inl x7)] (zAp r []) s1 Q))) : zJ x d 11 6 [some (.inr (.inl 9)), some (.inl x1), some (.inl x2), some (.inl x3), some (.inl x4), some (.inl x5), some (.inl x6), some (.inl x7)] [] s Q := zJ_of (b := b11_6) (by rw [kBlk, kb_11]; rfl) h
set_option maxRecDepth 100000 in
theorem B11_19 {x : List Int} {d : Nat} {s : zSt} {Q : zQ} {x1 : Int} {x2 : Int} {x3 : Int} {x4 : Int} {x5 : Int} {x6 : Int} {x7 : Int} {y0 : Int}  (h : (y0 = 0 → zJ x d 11 49 [some (.inr (.inl 9)), some (.inl x1), some (.inl x2), some (.inl x3), some (.inl x4), some (.inl x5), some (.inl x6), some (.inl x7)] [] s Q) ∧ (¬ (y0 = 0) → (0 : Int) ≤ wr ((wr (x6 * 4)) + x3) ∧ (wr ((wr (x6 * 4)) + x3) : Int) < 32 ∧ ((¬ zBODY.getD (wr ((wr (x6 * 4)) + x3)).toNat 0 = 0 → zJ x d 11 49 [some (.inr (.inl 9)), some (.inl x1), some (.inl x2), some (.inl x3), some (.inl x4), some (.inl x5), some (.inl x6), some (.inl x7)] [] s Q) ∧ (¬ (¬ zBODY.getD (wr ((wr (x6 * 4)) + x3)).toNat 0 = 0) → (0 : Int) ≤ x6 ∧ (x6 : Int) < 8 ∧ (zJ x d 11 6 [some (.inr (.inl 9)), some (.inl x1), some (.inl x2), some (.inl x3), some (.inl x4), some (.inl x5), some (.inl (zABOVE.getD (x6).toNat 0)), some (.inl (wr (x7 + 1)))] [] s Q))))) : zJ x d 11 19 [some (.inr (.inl 9)), some (.inl x1), some (.inl x2), some (.inl x3), some (.inl x4), some (.inl x5), some (.inl x6), some (.inl x7)] [.inl y0] s Q := zJ_of (b := b11_19) (by rw [kBlk, kb_11]; rfl) h
set_option maxRecDepth 100000 in
theorem B11_49 {x : List Int} {d : Nat} {s : zSt} {Q : zQ} {x1 : Int} {x2 : Int} {x3 : Int} {x4 : Int} {x5 : Int} {x6 : Int} {x7 : Int}  (h : zE x d 2 [.inr (.inl 9), .inl x6] s (fun r s1 => zJ x d 11 55 [some (.inr (.inl 9)), some (.inl x1), some (.inl x2), some (.inl x3), some (.inl x4), some (.inl x5), some (.inl x6), some (.inl x7)] (zAp r []) s1 Q)) : zJ x d 11 49 [some (.inr (.inl 9)), some (.inl x1), some (.inl x2), some (.inl x3), some (.inl x4), some (.inl x5), some (.inl x6), some (.inl x7)] [] s Q := zJ_of (b := b11_49) (by rw [kBlk, kb_11]; rfl) h
set_option maxRecDepth 100000 in
theorem B11_55 {x : List Int} {d : Nat} {s : zSt} {Q : zQ} {x1 : Int} {x2 : Int} {x3 : Int} {x4 : Int} {x5 : Int} {x6 : Int} {x7 : Int} {y0 : Int}  (h : (y0 = 0 → zJ x d 11 89 [some (.inr (.inl 9)), some (.inl x1), some (.inl x2), some (.inl x3), some (.inl x4), some (.inl x5), some (.inl x6), some (.inl x7)] [] s Q) ∧ (¬ (y0 = 0) → (40 ≤ x5 → zJ x d 11 89 [some (.inr (.inl 9)), some (.inl x1), some (.inl x2), some (.inl x3), some (.inl x4), some (.inl x5), some (.inl x6), some (.inl x7)] [] s Q) ∧ (¬ (40 ≤ x5) → (0 : Int) ≤ wr ((wr (x6 * 4)) + x3) ∧ (wr ((wr (x6 * 4)) + x3) : Int) < 32 ∧ (zE x d 12 [.inr (.inl 9), .inl (zBODY.getD (wr ((wr (x6 * 4)) + x3)).toNat 0), .inl x2, .inl x4, .inl (wr (x5 + 1))] s (fun r s1 => zJ x d 11 86 [some (.inr (.inl 9)), some (.inl x1), some (.inl x2), some (.inl x3), some (.inl x4), some (.inl x5), some (.inl x6), some (.inl x7)] (zAp r []) s1 Q))))) : zJ x d 11 55 [some (.inr (.inl 9)), some (.inl x1), some (.inl x2), some (.inl x3), some (.inl x4), some (.inl x5), some (.inl x6), some (.inl x7)] [.inl y0] s Q := zJ_of (b := b11_55) (by rw [kBlk, kb_11]; rfl) h
set_option maxRecDepth 100000 in
theorem B11_86 {x : List Int} {d : Nat} {s : zSt} {Q : zQ} {x1 : Int} {x2 : Int} {x3 : Int} {x4 : Int} {x5 : Int} {x6 : Int} {x7 : Int} {y0 : Int}  (h : zJ x d 11 90 [some (.inr (.inl 9)), some (.inl x1), some (.inl x2), some (.inl x3), some (.inl x4), some (.inl x5), some (.inl x6), some (.inl x7)] [.inl y0] s Q) : zJ x d 11 86 [some (.inr (.inl 9)), some (.inl x1), some (.inl x2), some (.inl x3), some (.inl x4), some (.inl x5), some (.inl x6), some (.inl x7)] [.inl y0] s Q := zJ_of (b := b11_86) (by rw [kBlk, kb_11]; rfl) h
set_option maxRecDepth 100000 in
theorem B11_89 {x : List Int} {d : Nat} {s : zSt} {Q : zQ} {x1 : Int} {x2 : Int} {x3 : Int} {x4 : Int} {x5 : Int} {x6 : Int} {x7 : Int}  (h : zJ x d 11 90 [some (.inr (.inl 9)), some (.inl x1), some (.inl x2), some (.inl x3), some (.inl x4), some (.inl x5), some (.inl x6), some (.inl x7)] [.inl 0] s Q) : zJ x d 11 89 [some (.inr (.inl 9)), some (.inl x1), some (.inl x2), some (.inl x3), some (.inl x4), some (.inl x5), some (.inl x6), some (.inl x7)] [] s Q := zJ_of (b := b11_89) (by rw [kBlk, kb_11]; rfl) h
set_option maxRecDepth 100000 in
theorem B11_90 {x : List Int} {d : Nat} {s : zSt} {Q : zQ} {x1 : Int} {x2 : Int} {x3 : Int} {x4 : Int} {x5 : Int} {x6 : Int} {x7 : Int} {y0 : Int}  (h : Q (some (.inl y0)) s) : zJ x d 11 90 [some (.inr (.inl 9)), some (.inl x1), some (.inl x2), some (.inl x3), some (.inl x4), some (.inl x5), some (.inl x6), some (.inl x7)] [.inl y0] s Q := zJ_of (b := b11_90) (by rw [kBlk, kb_11]; rfl) h
set_option maxRecDepth 100000 in
theorem N11 {x : List Int} {d : Nat} {s : zSt} {Q : zQ} {x1 : Int} {x2 : Int} {x3 : Int} {x4 : Int} {x5 : Int} (h : zJ x d 11 0 [some (.inr (.inl 9)), some (.inl x1), some (.inl x2), some (.inl x3), some (.inl x4), some (.inl x5), none, none] [] s Q) : zE x (d + 1) 11 [.inr (.inl 9), .inl x1, .inl x2, .inl x3, .inl x4, .inl x5] s Q := zE_of (n := 8) rfl rfl rfl rfl (fun h => (zLok_some (h _ (List.mem_of_getElem? (i := 0) rfl)) (zLok_some (h _ (List.mem_of_getElem? (i := 1) rfl)) (zLok_some (h _ (List.mem_of_getElem? (i := 2) rfl)) (zLok_some (h _ (List.mem_of_getElem? (i := 3) rfl)) (zLok_some (h _ (List.mem_of_getElem? (i := 4) rfl)) (zLok_some (h _ (List.mem_of_getElem? (i := 5) rfl)) (zLok_none (zLok_none zLok_nil))))))))) h
-- 12: PennyALap$Bodies.perform
set_option maxRecDepth 100000 in
theorem kb_12 : kBls.getD 12 [] = c12 := rfl
set_option maxRecDepth 100000 in
theorem B12_0 {x : List Int} {d : Nat} {s : zSt} {Q : zQ} {x1 : Int} {x2 : Int} {x3 : Int} {x4 : Int}  (h : (24 ≤ s 9 3 → zJ x d 12 19 [some (.inr (.inl 9)), some (.inl x1), some (.inl x2), some (.inl x3), some (.inl x4)] [] s Q) ∧ (¬ (24 ≤ s 9 3) → (0 : Int) ≤ s 9 3 ∧ (s 9 3 : Int) < 24 ∧ (zJ x d 12 19 [some (.inr (.inl 9)), some (.inl x1), some (.inl x2), some (.inl x3), some (.inl x4)] [] (zU s 37 (s 9 3).toNat x1) Q))) : zJ x d 12 0 [some (.inr (.inl 9)), some (.inl x1), some (.inl x2), some (.inl x3), some (.inl x4)] [] s Q := zJ_of (b := b12_0) (by rw [kBlk, kb_12]; rfl) h
set_option maxRecDepth 100000 in
theorem B12_19 {x : List Int} {d : Nat} {s : zSt} {Q : zQ} {x1 : Int} {x2 : Int} {x3 : Int} {x4 : Int}  (h : (x1 = 1 → zJ x d 12 152 [some (.inr (.inl 9)), some (.inl x1), some (.inl x2), some (.inl x3), some (.inl x4)] [] (zU s 9 3 (wr ((s 9 3) + 1))) Q) ∧ (¬ x1 = 1 → (x1 = 2 → zJ x d 12 156 [some (.inr (.inl 9)), some (.inl x1), some (.inl x2), some (.inl x3), some (.inl x4)] [] (zU s 9 3 (wr ((s 9 3) + 1))) Q) ∧ (¬ x1 = 2 → (x1 = 10 → zJ x d 12 176 [some (.inr (.inl 9)), some (.inl x1), some (.inl x2), some (.inl x3), some (.inl x4)] [] (zU s 9 3 (wr ((s 9 3) + 1))) Q) ∧ (¬ x1 = 10 → (x1 = 11 → zJ x d 12 188 [some (.inr (.inl 9)), some (.inl x1), some (.inl x2), some (.inl x3), some (.inl x4)] [] (zU s 9 3 (wr ((s 9 3) + 1))) Q) ∧ (¬ x1 = 11 → (x1 = 20 → zJ x d 12 192 [some (.inr (.inl 9)), some (.inl x1), some (.inl x2), some (.inl x3), some (.inl x4)] [] (zU s 9 3 (wr ((s 9 3) + 1))) Q) ∧ (¬ x1 = 20 → (x1 = 30 → zJ x d 12 205 [some (.inr (.inl 9)), some (.inl x1), some (.inl x2), some (.inl x3), some (.inl x4)] [] (zU s 9 3 (wr ((s 9 3) + 1))) Q) ∧ (¬ x1 = 30 → (x1 = 40 → zJ x d 12 217 [some (.inr (.inl 9)), some (.inl x1), some (.inl x2), some (.inl x3), some (.inl x4)] [] (zU s 9 3 (wr ((s 9 3) + 1))) Q) ∧ (¬ x1 = 40 → (x1 = 41 → zJ x d 12 230 [some (.inr (.inl 9)), some (.inl x1), some (.inl x2), some (.inl x3), some (.inl x4)] [] (zU s 9 3 (wr ((s 9 3) + 1))) Q) ∧ (¬ x1 = 41 → (x1 = 50 → zJ x d 12 243 [some (.inr (.inl 9)), some (.inl x1), some (.inl x2), some (.inl x3), some (.inl x4)] [] (zU s 9 3 (wr ((s 9 3) + 1))) Q) ∧ (¬ x1 = 50 → (x1 = 60 → zJ x d 12 256 [some (.inr (.inl 9)), some (.inl x1), some (.inl x2), some (.inl x3), some (.inl x4)] [] (zU s 9 3 (wr ((s 9 3) + 1))) Q) ∧ (¬ x1 = 60 → (x1 = 61 → zJ x d 12 277 [some (.inr (.inl 9)), some (.inl x1), some (.inl x2), some (.inl x3), some (.inl x4)] [] (zU s 9 3 (wr ((s 9 3) + 1))) Q) ∧ (¬ x1 = 61 → (x1 = 70 → zJ x d 12 290 [some (.inr (.inl 9)), some (.inl x1), some (.inl x2), some (.inl x3), some (.inl x4)] [] (zU s 9 3 (wr ((s 9 3) + 1))) Q) ∧ (¬ x1 = 70 → (x1 = 80 → zJ x d 12 304 [some (.inr (.inl 9)), some (.inl x1), some (.inl x2), some (.inl x3), some (.inl x4)] [] (zU s 9 3 (wr ((s 9 3) + 1))) Q) ∧ (¬ x1 = 80 → (x1 = 81 → zJ x d 12 326 [some (.inr (.inl 9)), some (.inl x1), some (.inl x2), some (.inl x3), some (.inl x4)] [] (zU s 9 3 (wr ((s 9 3) + 1))) Q) ∧ (¬ x1 = 81 → zJ x d 12 340 [some (.inr (.inl 9)), some (.inl x1), some (.inl x2), some (.inl x3), some (.inl x4)] [] (zU s 9 3 (wr ((s 9 3) + 1))) Q))))))))))))))) : zJ x d 12 19 [some (.inr (.inl 9)), some (.inl x1), some (.inl x2), some (.inl x3), some (.inl x4)] [] s Q := zJ_of (b := b12_19) (by rw [kBlk, kb_12]; rfl) h
set_option maxRecDepth 100000 in
theorem B12_152 {x : List Int} {d : Nat} {s : zSt} {Q : zQ} {x1 : Int} {x2 : Int} {x3 : Int} {x4 : Int}  (h : Q (some (.inl (wr (x3 + x2)))) s) : zJ x d 12 152 [some (.inr (.inl 9)), some (.inl x1), some (.inl x2), some (.inl x3), some (.inl x4)] [] s Q := zJ_of (b := b12_152) (by rw [kBlk, kb_12]; rfl) h
set_option maxRecDepth 100000 in
theorem B12_156 {x : List Int} {d : Nat} {s : zSt} {Q : zQ} {x1 : Int} {x2 : Int} {x3 : Int} {x4 : Int}  (h : zE x d 9 [.inr (.inl 9), .inl x2, .inl 1, .inl x3, .inl x4] s (fun r s1 => zJ x d 12 165 [some (.inr (.inl 9)), some (.inl x1), some (.inl x2), some (.inl x3), some (.inl x4)] (zAp r []) s1 Q)) : zJ x d 12 156 [some (.inr (.inl 9)), some (.inl x1), some (.inl x2), some (.inl x3), some (.inl x4)] [] s Q := zJ_of (b := b12_156) (by rw [kBlk, kb_12]; rfl) h
set_option maxRecDepth 100000 in
theorem B12_165 {x : List Int} {d : Nat} {s : zSt} {Q : zQ} {x1 : Int} {x2 : Int} {x3 : Int} {x4 : Int} {y0 : Int}  (h : zE x d 9 [.inr (.inl 9), .inl x2, .inl 2, .inl 1, .inl x4] s (fun r s1 => zJ x d 12 174 [some (.inr (.inl 9)), some (.inl x1), some (.inl x2), some (.inl x3), some (.inl x4)] (zAp r [.inl y0]) s1 Q)) : zJ x d 12 165 [some (.inr (.inl 9)), some (.inl x1), some (.inl x2), some (.inl x3), some (.inl x4)] [.inl y0] s Q := zJ_of (b := b12_165) (by rw [kBlk, kb_12]; rfl) h
set_option maxRecDepth 100000 in
theorem B12_174 {x : List Int} {d : Nat} {s : zSt} {Q : zQ} {x1 : Int} {x2 : Int} {x3 : Int} {x4 : Int} {y0 : Int} {y1 : Int}  (h : Q (some (.inl (wr (y1 - y0)))) s) : zJ x d 12 174 [some (.inr (.inl 9)), some (.inl x1), some (.inl x2), some (.inl x3), some (.inl x4)] [.inl y0, .inl y1] s Q := zJ_of (b := b12_174) (by rw [kBlk, kb_12]; rfl) h
set_option maxRecDepth 100000 in
theorem B12_176 {x : List Int} {d : Nat} {s : zSt} {Q : zQ} {x1 : Int} {x2 : Int} {x3 : Int} {x4 : Int}  (h : zE x d 9 [.inr (.inl 9), .inl x2, .inl 0, .inl x3, .inl x4] s (fun r s1 => zJ x d 12 185 [some (.inr (.inl 9)), some (.inl x1), some (.inl x2), some (.inl x3), some (.inl x4)] (zAp r []) s1 Q)) : zJ x d 12 176 [some (.inr (.inl 9)), some (.inl x1), some (.inl x2), some (.inl x3), some (.inl x4)] [] s Q := zJ_of (b := b12_176) (by rw [kBlk, kb_12]; rfl) h
set_option maxRecDepth 100000 in
theorem B12_185 {x : List Int} {d : Nat} {s : zSt} {Q : zQ} {x1 : Int} {x2 : Int} {x3 : Int} {x4 : Int} {y0 : Int}  (h : Q (some (.inl (wr (y0 * 2)))) s) : zJ x d 12 185 [some (.inr (.inl 9)), some (.inl x1), some (.inl x2), some (.inl x3), some (.inl x4)] [.inl y0] s Q := zJ_of (b := b12_185) (by rw [kBlk, kb_12]; rfl) h
set_option maxRecDepth 100000 in
theorem B12_188 {x : List Int} {d : Nat} {s : zSt} {Q : zQ} {x1 : Int} {x2 : Int} {x3 : Int} {x4 : Int}  (h : Q (some (.inl (zXor x3 x2))) s) : zJ x d 12 188 [some (.inr (.inl 9)), some (.inl x1), some (.inl x2), some (.inl x3), some (.inl x4)] [] s Q := zJ_of (b := b12_188) (by rw [kBlk, kb_12]; rfl) h
set_option maxRecDepth 100000 in
theorem B12_192 {x : List Int} {d : Nat} {s : zSt} {Q : zQ} {x1 : Int} {x2 : Int} {x3 : Int} {x4 : Int}  (h : zE x d 10 [.inr (.inl 9), .inl 1, .inl x2, .inl 0, .inl x3, .inl x4] s (fun r s1 => zJ x d 12 202 [some (.inr (.inl 9)), some (.inl x1), some (.inl x2), some (.inl x3), some (.inl x4)] (zAp r []) s1 Q)) : zJ x d 12 192 [some (.inr (.inl 9)), some (.inl x1), some (.inl x2), some (.inl x3), some (.inl x4)] [] s Q := zJ_of (b := b12_192) (by rw [kBlk, kb_12]; rfl) h
set_option maxRecDepth 100000 in
theorem B12_202 {x : List Int} {d : Nat} {s : zSt} {Q : zQ} {x1 : Int} {x2 : Int} {x3 : Int} {x4 : Int} {y0 : Int}  (h : Q (some (.inl (wr (y0 + 3)))) s) : zJ x d 12 202 [some (.inr (.inl 9)), some (.inl x1), some (.inl x2), some (.inl x3), some (.inl x4)] [.inl y0] s Q := zJ_of (b := b12_202) (by rw [kBlk, kb_12]; rfl) h
set_option maxRecDepth 100000 in
theorem B12_205 {x : List Int} {d : Nat} {s : zSt} {Q : zQ} {x1 : Int} {x2 : Int} {x3 : Int} {x4 : Int}  (h : zE x d 10 [.inr (.inl 9), .inl 2, .inl x2, .inl 1, .inl x3, .inl x4] s (fun r s1 => zJ x d 12 215 [some (.inr (.inl 9)), some (.inl x1), some (.inl x2), some (.inl x3), some (.inl x4)] (zAp r []) s1 Q)) : zJ x d 12 205 [some (.inr (.inl 9)), some (.inl x1), some (.inl x2), some (.inl x3), some (.inl x4)] [] s Q := zJ_of (b := b12_205) (by rw [kBlk, kb_12]; rfl) h
set_option maxRecDepth 100000 in
theorem B12_215 {x : List Int} {d : Nat} {s : zSt} {Q : zQ} {x1 : Int} {x2 : Int} {x3 : Int} {x4 : Int} {y0 : Int}  (h : Q (some (.inl (wr (-y0)))) s) : zJ x d 12 215 [some (.inr (.inl 9)), some (.inl x1), some (.inl x2), some (.inl x3), some (.inl x4)] [.inl y0] s Q := zJ_of (b := b12_215) (by rw [kBlk, kb_12]; rfl) h
set_option maxRecDepth 100000 in
theorem B12_217 {x : List Int} {d : Nat} {s : zSt} {Q : zQ} {x1 : Int} {x2 : Int} {x3 : Int} {x4 : Int}  (h : zE x d 10 [.inr (.inl 9), .inl 3, .inl x2, .inl 2, .inl x3, .inl x4] s (fun r s1 => zJ x d 12 227 [some (.inr (.inl 9)), some (.inl x1), some (.inl x2), some (.inl x3), some (.inl x4)] (zAp r []) s1 Q)) : zJ x d 12 217 [some (.inr (.inl 9)), some (.inl x1), some (.inl x2), some (.inl x3), some (.inl x4)] [] s Q := zJ_of (b := b12_217) (by rw [kBlk, kb_12]; rfl) h
set_option maxRecDepth 100000 in
theorem B12_227 {x : List Int} {d : Nat} {s : zSt} {Q : zQ} {x1 : Int} {x2 : Int} {x3 : Int} {x4 : Int} {y0 : Int}  (h : Q (some (.inl (wr (y0 * 3)))) s) : zJ x d 12 227 [some (.inr (.inl 9)), some (.inl x1), some (.inl x2), some (.inl x3), some (.inl x4)] [.inl y0] s Q := zJ_of (b := b12_227) (by rw [kBlk, kb_12]; rfl) h
set_option maxRecDepth 100000 in
theorem B12_230 {x : List Int} {d : Nat} {s : zSt} {Q : zQ} {x1 : Int} {x2 : Int} {x3 : Int} {x4 : Int}  (h : zE x d 10 [.inr (.inl 9), .inl 3, .inl x2, .inl 1, .inl (wr (x3 + 1)), .inl x4] s (fun r s1 => zJ x d 12 242 [some (.inr (.inl 9)), some (.inl x1), some (.inl x2), some (.inl x3), some (.inl x4)] (zAp r []) s1 Q)) : zJ x d 12 230 [some (.inr (.inl 9)), some (.inl x1), some (.inl x2), some (.inl x3), some (.inl x4)] [] s Q := zJ_of (b := b12_230) (by rw [kBlk, kb_12]; rfl) h
set_option maxRecDepth 100000 in
theorem B12_242 {x : List Int} {d : Nat} {s : zSt} {Q : zQ} {x1 : Int} {x2 : Int} {x3 : Int} {x4 : Int} {y0 : Int}  (h : Q (some (.inl y0)) s) : zJ x d 12 242 [some (.inr (.inl 9)), some (.inl x1), some (.inl x2), some (.inl x3), some (.inl x4)] [.inl y0] s Q := zJ_of (b := b12_242) (by rw [kBlk, kb_12]; rfl) h
set_option maxRecDepth 100000 in
theorem B12_243 {x : List Int} {d : Nat} {s : zSt} {Q : zQ} {x1 : Int} {x2 : Int} {x3 : Int} {x4 : Int}  (h : zE x d 10 [.inr (.inl 9), .inl 4, .inl x2, .inl 3, .inl x3, .inl x4] s (fun r s1 => zJ x d 12 253 [some (.inr (.inl 9)), some (.inl x1), some (.inl x2), some (.inl x3), some (.inl x4)] (zAp r []) s1 Q)) : zJ x d 12 243 [some (.inr (.inl 9)), some (.inl x1), some (.inl x2), some (.inl x3), some (.inl x4)] [] s Q := zJ_of (b := b12_243) (by rw [kBlk, kb_12]; rfl) h
set_option maxRecDepth 100000 in
theorem B12_253 {x : List Int} {d : Nat} {s : zSt} {Q : zQ} {x1 : Int} {x2 : Int} {x3 : Int} {x4 : Int} {y0 : Int}  (h : Q (some (.inl (zXor y0 5))) s) : zJ x d 12 253 [some (.inr (.inl 9)), some (.inl x1), some (.inl x2), some (.inl x3), some (.inl x4)] [.inl y0] s Q := zJ_of (b := b12_253) (by rw [kBlk, kb_12]; rfl) h
set_option maxRecDepth 100000 in
theorem B12_256 {x : List Int} {d : Nat} {s : zSt} {Q : zQ} {x1 : Int} {x2 : Int} {x3 : Int} {x4 : Int}  (h : zE x d 10 [.inr (.inl 9), .inl 5, .inl x2, .inl 2, .inl x3, .inl x4] s (fun r s1 => zJ x d 12 266 [some (.inr (.inl 9)), some (.inl x1), some (.inl x2), some (.inl x3), some (.inl x4)] (zAp r []) s1 Q)) : zJ x d 12 256 [some (.inr (.inl 9)), some (.inl x1), some (.inl x2), some (.inl x3), some (.inl x4)] [] s Q := zJ_of (b := b12_256) (by rw [kBlk, kb_12]; rfl) h
set_option maxRecDepth 100000 in
theorem B12_266 {x : List Int} {d : Nat} {s : zSt} {Q : zQ} {x1 : Int} {x2 : Int} {x3 : Int} {x4 : Int} {y0 : Int}  (h : zE x d 9 [.inr (.inl 9), .inl x2, .inl 0, .inl 2, .inl x4] s (fun r s1 => zJ x d 12 275 [some (.inr (.inl 9)), some (.inl x1), some (.inl x2), some (.inl x3), some (.inl x4)] (zAp r [.inl y0]) s1 Q)) : zJ x d 12 266 [some (.inr (.inl 9)), some (.inl x1), some (.inl x2), some (.inl x3), some (.inl x4)] [.inl y0] s Q := zJ_of (b := b12_266) (by rw [kBlk, kb_12]; rfl) h
set_option maxRecDepth 100000 in
theorem B12_275 {x : List Int} {d : Nat} {s : zSt} {Q : zQ} {x1 : Int} {x2 : Int} {x3 : Int} {x4 : Int} {y0 : Int} {y1 : Int}  (h : Q (some (.inl (wr (y1 - y0)))) s) : zJ x d 12 275 [some (.inr (.inl 9)), some (.inl x1), some (.inl x2), some (.inl x3), some (.inl x4)] [.inl y0, .inl y1] s Q := zJ_of (b := b12_275) (by rw [kBlk, kb_12]; rfl) h
set_option maxRecDepth 100000 in
theorem B12_277 {x : List Int} {d : Nat} {s : zSt} {Q : zQ} {x1 : Int} {x2 : Int} {x3 : Int} {x4 : Int}  (h : zE x d 10 [.inr (.inl 9), .inl 5, .inl x2, .inl 3, .inl x3, .inl x4] s (fun r s1 => zJ x d 12 287 [some (.inr (.inl 9)), some (.inl x1), some (.inl x2), some (.inl x3), some (.inl x4)] (zAp r []) s1 Q)) : zJ x d 12 277 [some (.inr (.inl 9)), some (.inl x1), some (.inl x2), some (.inl x3), some (.inl x4)] [] s Q := zJ_of (b := b12_277) (by rw [kBlk, kb_12]; rfl) h
set_option maxRecDepth 100000 in
theorem B12_287 {x : List Int} {d : Nat} {s : zSt} {Q : zQ} {x1 : Int} {x2 : Int} {x3 : Int} {x4 : Int} {y0 : Int}  (h : Q (some (.inl (wr (y0 + 1)))) s) : zJ x d 12 287 [some (.inr (.inl 9)), some (.inl x1), some (.inl x2), some (.inl x3), some (.inl x4)] [.inl y0] s Q := zJ_of (b := b12_287) (by rw [kBlk, kb_12]; rfl) h
set_option maxRecDepth 100000 in
theorem B12_290 {x : List Int} {d : Nat} {s : zSt} {Q : zQ} {x1 : Int} {x2 : Int} {x3 : Int} {x4 : Int}  (h : zE x d 10 [.inr (.inl 9), .inl 6, .inl x2, .inl 0, .inl x3, .inl x4] s (fun r s1 => zJ x d 12 301 [some (.inr (.inl 9)), some (.inl x1), some (.inl x2), some (.inl x3), some (.inl x4)] (zAp r []) s1 Q)) : zJ x d 12 290 [some (.inr (.inl 9)), some (.inl x1), some (.inl x2), some (.inl x3), some (.inl x4)] [] s Q := zJ_of (b := b12_290) (by rw [kBlk, kb_12]; rfl) h
set_option maxRecDepth 100000 in
theorem B12_301 {x : List Int} {d : Nat} {s : zSt} {Q : zQ} {x1 : Int} {x2 : Int} {x3 : Int} {x4 : Int} {y0 : Int}  (h : Q (some (.inl (wr (y0 * 2)))) s) : zJ x d 12 301 [some (.inr (.inl 9)), some (.inl x1), some (.inl x2), some (.inl x3), some (.inl x4)] [.inl y0] s Q := zJ_of (b := b12_301) (by rw [kBlk, kb_12]; rfl) h
set_option maxRecDepth 100000 in
theorem B12_304 {x : List Int} {d : Nat} {s : zSt} {Q : zQ} {x1 : Int} {x2 : Int} {x3 : Int} {x4 : Int}  (h : zE x d 10 [.inr (.inl 9), .inl 7, .inl x2, .inl 1, .inl x3, .inl x4] s (fun r s1 => zJ x d 12 315 [some (.inr (.inl 9)), some (.inl x1), some (.inl x2), some (.inl x3), some (.inl x4)] (zAp r []) s1 Q)) : zJ x d 12 304 [some (.inr (.inl 9)), some (.inl x1), some (.inl x2), some (.inl x3), some (.inl x4)] [] s Q := zJ_of (b := b12_304) (by rw [kBlk, kb_12]; rfl) h
set_option maxRecDepth 100000 in
theorem B12_315 {x : List Int} {d : Nat} {s : zSt} {Q : zQ} {x1 : Int} {x2 : Int} {x3 : Int} {x4 : Int} {y0 : Int}  (h : zE x d 9 [.inr (.inl 9), .inl x2, .inl 2, .inl 2, .inl x4] s (fun r s1 => zJ x d 12 324 [some (.inr (.inl 9)), some (.inl x1), some (.inl x2), some (.inl x3), some (.inl x4)] (zAp r [.inl y0]) s1 Q)) : zJ x d 12 315 [some (.inr (.inl 9)), some (.inl x1), some (.inl x2), some (.inl x3), some (.inl x4)] [.inl y0] s Q := zJ_of (b := b12_315) (by rw [kBlk, kb_12]; rfl) h
set_option maxRecDepth 100000 in
theorem B12_324 {x : List Int} {d : Nat} {s : zSt} {Q : zQ} {x1 : Int} {x2 : Int} {x3 : Int} {x4 : Int} {y0 : Int} {y1 : Int}  (h : Q (some (.inl (wr (y1 + y0)))) s) : zJ x d 12 324 [some (.inr (.inl 9)), some (.inl x1), some (.inl x2), some (.inl x3), some (.inl x4)] [.inl y0, .inl y1] s Q := zJ_of (b := b12_324) (by rw [kBlk, kb_12]; rfl) h
set_option maxRecDepth 100000 in
theorem B12_326 {x : List Int} {d : Nat} {s : zSt} {Q : zQ} {x1 : Int} {x2 : Int} {x3 : Int} {x4 : Int}  (h : zE x d 10 [.inr (.inl 9), .inl 7, .inl x2, .inl 0, .inl x3, .inl x4] s (fun r s1 => zJ x d 12 337 [some (.inr (.inl 9)), some (.inl x1), some (.inl x2), some (.inl x3), some (.inl x4)] (zAp r []) s1 Q)) : zJ x d 12 326 [some (.inr (.inl 9)), some (.inl x1), some (.inl x2), some (.inl x3), some (.inl x4)] [] s Q := zJ_of (b := b12_326) (by rw [kBlk, kb_12]; rfl) h
set_option maxRecDepth 100000 in
theorem B12_337 {x : List Int} {d : Nat} {s : zSt} {Q : zQ} {x1 : Int} {x2 : Int} {x3 : Int} {x4 : Int} {y0 : Int}  (h : Q (some (.inl (wr (y0 - 1)))) s) : zJ x d 12 337 [some (.inr (.inl 9)), some (.inl x1), some (.inl x2), some (.inl x3), some (.inl x4)] [.inl y0] s Q := zJ_of (b := b12_337) (by rw [kBlk, kb_12]; rfl) h
set_option maxRecDepth 100000 in
theorem B12_340 {x : List Int} {d : Nat} {s : zSt} {Q : zQ} {x1 : Int} {x2 : Int} {x3 : Int} {x4 : Int}  (h : Q (some (.inl 0)) s) : zJ x d 12 340 [some (.inr (.inl 9)), some (.inl x1), some (.inl x2), some (.inl x3), some (.inl x4)] [] s Q := zJ_of (b := b12_340) (by rw [kBlk, kb_12]; rfl) h
set_option maxRecDepth 100000 in
theorem N12 {x : List Int} {d : Nat} {s : zSt} {Q : zQ} {x1 : Int} {x2 : Int} {x3 : Int} {x4 : Int} (h : zJ x d 12 0 [some (.inr (.inl 9)), some (.inl x1), some (.inl x2), some (.inl x3), some (.inl x4)] [] s Q) : zE x (d + 1) 12 [.inr (.inl 9), .inl x1, .inl x2, .inl x3, .inl x4] s Q := zE_of (n := 5) rfl rfl rfl rfl (fun h => (zLok_some (h _ (List.mem_of_getElem? (i := 0) rfl)) (zLok_some (h _ (List.mem_of_getElem? (i := 1) rfl)) (zLok_some (h _ (List.mem_of_getElem? (i := 2) rfl)) (zLok_some (h _ (List.mem_of_getElem? (i := 3) rfl)) (zLok_some (h _ (List.mem_of_getElem? (i := 4) rfl)) zLok_nil)))))) h
-- 13: PennyALap$Changes.undoable
set_option maxRecDepth 100000 in
theorem kb_13 : kBls.getD 13 [] = c13 := rfl
set_option maxRecDepth 100000 in
theorem B13_0 {x : List Int} {d : Nat} {s : zSt} {Q : zQ}   (h : Q (some (.inl (s 3 3))) s) : zJ x d 13 0 [some (.inr (.inl 3))] [] s Q := zJ_of (b := b13_0) (by rw [kBlk, kb_13]; rfl) h
set_option maxRecDepth 100000 in
theorem N13 {x : List Int} {d : Nat} {s : zSt} {Q : zQ}  (h : zJ x d 13 0 [some (.inr (.inl 3))] [] s Q) : zE x (d + 1) 13 [.inr (.inl 3)] s Q := zE_of (n := 1) rfl rfl rfl rfl (fun h => (zLok_some (h _ (List.mem_of_getElem? (i := 0) rfl)) zLok_nil)) h
-- 14: PennyALap$Changes.add
set_option maxRecDepth 100000 in
theorem kb_14 : kBls.getD 14 [] = c14 := rfl
set_option maxRecDepth 100000 in
theorem B14_0 {x : List Int} {d : Nat} {s : zSt} {Q : zQ} {x1 : Int} {x2 : Int} {x3 : Int}  (h : (s 3 3 < 40 → zJ x d 14 13 [some (.inr (.inl 3)), some (.inl x1), some (.inl x2), some (.inl x3)] [] s Q) ∧ (¬ (s 3 3 < 40) → zE x d 15 [.inr (.inl 3)] s (fun r s1 => zJ x d 14 13 [some (.inr (.inl 3)), some (.inl x1), some (.inl x2), some (.inl x3)] (zAp r []) s1 Q))) : zJ x d 14 0 [some (.inr (.inl 3)), some (.inl x1), some (.inl x2), some (.inl x3)] [] s Q := zJ_of (b := b14_0) (by rw [kBlk, kb_14]; rfl) h
set_option maxRecDepth 100000 in
theorem B14_13 {x : List Int} {d : Nat} {s : zSt} {Q : zQ} {x1 : Int} {x2 : Int} {x3 : Int}  (h : (0 : Int) ≤ s 3 3 ∧ (s 3 3 : Int) < 40 ∧ ((0 : Int) ≤ s 3 3 ∧ (s 3 3 : Int) < 40 ∧ ((0 : Int) ≤ s 3 3 ∧ (s 3 3 : Int) < 40 ∧ (Q none (zU (zU (zU (zU (zU s 18 (s 3 3).toNat x1) 19 (s 3 3).toNat x2) 20 (s 3 3).toNat x3) 3 3 (wr ((s 3 3) + 1))) 3 4 (wr ((s 3 3) + 1))))))) : zJ x d 14 13 [some (.inr (.inl 3)), some (.inl x1), some (.inl x2), some (.inl x3)] [] s Q := zJ_of (b := b14_13) (by rw [kBlk, kb_14]; rfl) h
set_option maxRecDepth 100000 in
theorem N14 {x : List Int} {d : Nat} {s : zSt} {Q : zQ} {x1 : Int} {x2 : Int} {x3 : Int} (h : zJ x d 14 0 [some (.inr (.inl 3)), some (.inl x1), some (.inl x2), some (.inl x3)] [] s Q) : zE x (d + 1) 14 [.inr (.inl 3), .inl x1, .inl x2, .inl x3] s Q := zE_of (n := 4) rfl rfl rfl rfl (fun h => (zLok_some (h _ (List.mem_of_getElem? (i := 0) rfl)) (zLok_some (h _ (List.mem_of_getElem? (i := 1) rfl)) (zLok_some (h _ (List.mem_of_getElem? (i := 2) rfl)) (zLok_some (h _ (List.mem_of_getElem? (i := 3) rfl)) zLok_nil))))) h
-- 15: PennyALap$Changes.forgetOldest
set_option maxRecDepth 100000 in
theorem kb_15 : kBls.getD 15 [] = c15 := rfl
set_option maxRecDepth 100000 in
theorem B15_0 {x : List Int} {d : Nat} {s : zSt} {Q : zQ}   (h : (0 : Int) ≤ 1 ∧ (0 : Int) ≤ 0 ∧ (0 : Int) ≤ 39 ∧ (1 + 39 : Int) ≤ 40 ∧ (0 + 39 : Int) ≤ 40 ∧ ((0 : Int) ≤ 1 ∧ (0 : Int) ≤ 0 ∧ (0 : Int) ≤ 39 ∧ (1 + 39 : Int) ≤ 40 ∧ (0 + 39 : Int) ≤ 40 ∧ ((0 : Int) ≤ 1 ∧ (0 : Int) ≤ 0 ∧ (0 : Int) ≤ 39 ∧ (1 + 39 : Int) ≤ 40 ∧ (0 + 39 : Int) ≤ 40 ∧ (Q none (zU (zF (zF (zF s 18 (zCpF (s 18) (s 18) 1 0 39)) 19 (zCpF (s 19) (s 19) 1 0 39)) 20 (zCpF (s 20) (s 20) 1 0 39)) 3 3 39))))) : zJ x d 15 0 [some (.inr (.inl 3))] [] s Q := zJ_of (b := b15_0) (by rw [kBlk, kb_15]; rfl) h
set_option maxRecDepth 100000 in
theorem N15 {x : List Int} {d : Nat} {s : zSt} {Q : zQ}  (h : zJ x d 15 0 [some (.inr (.inl 3))] [] s Q) : zE x (d + 1) 15 [.inr (.inl 3)] s Q := zE_of (n := 1) rfl rfl rfl rfl (fun h => (zLok_some (h _ (List.mem_of_getElem? (i := 0) rfl)) zLok_nil)) h
-- 16: PennyALap$Changes.undoOne
set_option maxRecDepth 100000 in
theorem kb_16 : kBls.getD 16 [] = c16 := rfl
set_option maxRecDepth 100000 in
theorem B16_0 {x : List Int} {d : Nat} {s : zSt} {Q : zQ}   (h : (0 < s 3 3 → zJ x d 16 10 [some (.inr (.inl 3)), some (.inr (.inl 2))] [] s Q) ∧ (¬ (0 < s 3 3) → Q (some (.inl (-5))) s)) : zJ x d 16 0 [some (.inr (.inl 3)), some (.inr (.inl 2))] [] s Q := zJ_of (b := b16_0) (by rw [kBlk, kb_16]; rfl) h
set_option maxRecDepth 100000 in
theorem B16_10 {x : List Int} {d : Nat} {s : zSt} {Q : zQ}   (h : (0 : Int) ≤ wr ((s 3 3) - 1) ∧ (wr ((s 3 3) - 1) : Int) < 40 ∧ ((0 : Int) ≤ wr ((s 3 3) - 1) ∧ (wr ((s 3 3) - 1) : Int) < 40 ∧ (zE x d 45 [.inr (.inl 2), .inl (s 18 (wr ((s 3 3) - 1)).toNat), .inl (s 19 (wr ((s 3 3) - 1)).toNat)] (zU s 3 3 (wr ((s 3 3) - 1))) (fun r s1 => zJ x d 16 42 [some (.inr (.inl 3)), some (.inr (.inl 2))] (zAp r []) s1 Q)))) : zJ x d 16 10 [some (.inr (.inl 3)), some (.inr (.inl 2))] [] s Q := zJ_of (b := b16_10) (by rw [kBlk, kb_16]; rfl) h
set_option maxRecDepth 100000 in
theorem B16_42 {x : List Int} {d : Nat} {s : zSt} {Q : zQ}   (h : Q (some (.inl (s 3 3))) s) : zJ x d 16 42 [some (.inr (.inl 3)), some (.inr (.inl 2))] [] s Q := zJ_of (b := b16_42) (by rw [kBlk, kb_16]; rfl) h
set_option maxRecDepth 100000 in
theorem N16 {x : List Int} {d : Nat} {s : zSt} {Q : zQ}  (h : zJ x d 16 0 [some (.inr (.inl 3)), some (.inr (.inl 2))] [] s Q) : zE x (d + 1) 16 [.inr (.inl 3), .inr (.inl 2)] s Q := zE_of (n := 2) rfl rfl rfl rfl (fun h => (zLok_some (h _ (List.mem_of_getElem? (i := 0) rfl)) (zLok_some (h _ (List.mem_of_getElem? (i := 1) rfl)) zLok_nil))) h
-- 17: PennyALap$Changes.redoOne
set_option maxRecDepth 100000 in
theorem kb_17 : kBls.getD 17 [] = c17 := rfl
set_option maxRecDepth 100000 in
theorem B17_0 {x : List Int} {d : Nat} {s : zSt} {Q : zQ}   (h : (s 3 4 ≤ s 3 3 → zJ x d 17 20 [some (.inr (.inl 3)), some (.inr (.inl 2))] [] s Q) ∧ (¬ (s 3 4 ≤ s 3 3) → (s 3 3 < 40 → zJ x d 17 23 [some (.inr (.inl 3)), some (.inr (.inl 2))] [] s Q) ∧ (¬ (s 3 3 < 40) → zJ x d 17 20 [some (.inr (.inl 3)), some (.inr (.inl 2))] [] s Q))) : zJ x d 17 0 [some (.inr (.inl 3)), some (.inr (.inl 2))] [] s Q := zJ_of (b := b17_0) (by rw [kBlk, kb_17]; rfl) h
set_option maxRecDepth 100000 in
theorem B17_20 {x : List Int} {d : Nat} {s : zSt} {Q : zQ}   (h : Q (some (.inl (-5))) s) : zJ x d 17 20 [some (.inr (.inl 3)), some (.inr (.inl 2))] [] s Q := zJ_of (b := b17_20) (by rw [kBlk, kb_17]; rfl) h
set_option maxRecDepth 100000 in
theorem B17_23 {x : List Int} {d : Nat} {s : zSt} {Q : zQ}   (h : (0 : Int) ≤ s 3 3 ∧ (s 3 3 : Int) < 40 ∧ ((0 : Int) ≤ s 3 3 ∧ (s 3 3 : Int) < 40 ∧ (zE x d 45 [.inr (.inl 2), .inl (s 18 (s 3 3).toNat), .inl (s 20 (s 3 3).toNat)] s (fun r s1 => zJ x d 17 45 [some (.inr (.inl 3)), some (.inr (.inl 2))] (zAp r []) s1 Q)))) : zJ x d 17 23 [some (.inr (.inl 3)), some (.inr (.inl 2))] [] s Q := zJ_of (b := b17_23) (by rw [kBlk, kb_17]; rfl) h
set_option maxRecDepth 100000 in
theorem B17_45 {x : List Int} {d : Nat} {s : zSt} {Q : zQ}   (h : Q (some (.inl (wr ((s 3 4) - (wr ((s 3 3) + 1)))))) (zU s 3 3 (wr ((s 3 3) + 1)))) : zJ x d 17 45 [some (.inr (.inl 3)), some (.inr (.inl 2))] [] s Q := zJ_of (b := b17_45) (by rw [kBlk, kb_17]; rfl) h
set_option maxRecDepth 100000 in
theorem N17 {x : List Int} {d : Nat} {s : zSt} {Q : zQ}  (h : zJ x d 17 0 [some (.inr (.inl 3)), some (.inr (.inl 2))] [] s Q) : zE x (d + 1) 17 [.inr (.inl 3), .inr (.inl 2)] s Q := zE_of (n := 2) rfl rfl rfl rfl (fun h => (zLok_some (h _ (List.mem_of_getElem? (i := 0) rfl)) (zLok_some (h _ (List.mem_of_getElem? (i := 1) rfl)) zLok_nil))) h
-- 18: PennyALap$Coming.begin
set_option maxRecDepth 100000 in
theorem kb_18 : kBls.getD 18 [] = c18 := rfl
set_option maxRecDepth 100000 in
theorem B18_0 {x : List Int} {d : Nat} {s : zSt} {Q : zQ}   (h : zJ x d 18 2 [some (.inr (.inl 6)), some (.inl 0)] [] s Q) : zJ x d 18 0 [some (.inr (.inl 6)), none] [] s Q := zJ_of (b := b18_0) (by rw [kBlk, kb_18]; rfl) h
set_option maxRecDepth 100000 in
theorem B18_2 {x : List Int} {d : Nat} {s : zSt} {Q : zQ} {x1 : Int}  (h : zE x d 39 [.inr (.inl 2)] s (fun r s1 => zJ x d 18 10 [some (.inr (.inl 6)), some (.inl x1)] (zAp r [.inl x1]) s1 Q)) : zJ x d 18 2 [some (.inr (.inl 6)), some (.inl x1)] [] s Q := zJ_of (b := b18_2) (by rw [kBlk, kb_18]; rfl) h
set_option maxRecDepth 100000 in
theorem B18_10 {x : List Int} {d : Nat} {s : zSt} {Q : zQ} {x1 : Int} {y0 : Int} {y1 : Int}  (h : (y0 ≤ y1 → zJ x d 18 48 [some (.inr (.inl 6)), some (.inl x1)] [] s Q) ∧ (¬ (y0 ≤ y1) → zE x d 42 [.inr (.inl 2), .inl x1] s (fun r s1 => zJ x d 18 35 [some (.inr (.inl 6)), some (.inl x1)] (zAp r [.inr (.inl 4), .inl x1, .inr (.inl 2), .inl x1, .inr (.inl 27)]) s1 Q))) : zJ x d 18 10 [some (.inr (.inl 6)), some (.inl x1)] [.inl y0, .inl y1] s Q := zJ_of (b := b18_10) (by rw [kBlk, kb_18]; rfl) h
set_option maxRecDepth 100000 in
theorem B18_35 {x : List Int} {d : Nat} {s : zSt} {Q : zQ} {x1 : Int} {y0 : Int} {y2 : Int} {y4 : Int}  (h : zE x d 104 [.inr (.inl 4), .inl y0] s (fun r s1 => zJ x d 18 38 [some (.inr (.inl 6)), some (.inl x1)] (zAp r [.inl y2, .inr (.inl 2), .inl y4, .inr (.inl 27)]) s1 Q)) : zJ x d 18 35 [some (.inr (.inl 6)), some (.inl x1)] [.inl y0, .inr (.inl 4), .inl y2, .inr (.inl 2), .inl y4, .inr (.inl 27)] s Q := zJ_of (b := b18_35) (by rw [kBlk, kb_18]; rfl) h
set_option maxRecDepth 100000 in
theorem B18_38 {x : List Int} {d : Nat} {s : zSt} {Q : zQ} {x1 : Int} {y0 : Int} {y1 : Int} {y3 : Int}  (h : zE x d 54 [.inr (.inl 2), .inl y1, .inl y0] s (fun r s1 => zJ x d 18 41 [some (.inr (.inl 6)), some (.inl x1)] (zAp r [.inl y3, .inr (.inl 27)]) s1 Q)) : zJ x d 18 38 [some (.inr (.inl 6)), some (.inl x1)] [.inl y0, .inl y1, .inr (.inl 2), .inl y3, .inr (.inl 27)] s Q := zJ_of (b := b18_38) (by rw [kBlk, kb_18]; rfl) h
set_option maxRecDepth 100000 in
theorem B18_41 {x : List Int} {d : Nat} {s : zSt} {Q : zQ} {x1 : Int} {y0 : Int} {y1 : Int}  (h : (0 : Int) ≤ y1 ∧ (y1 : Int) < 16 ∧ (zJ x d 18 2 [some (.inr (.inl 6)), some (.inl (wr (x1 + 1)))] [] (zU s 27 (y1).toNat y0) Q)) : zJ x d 18 41 [some (.inr (.inl 6)), some (.inl x1)] [.inl y0, .inl y1, .inr (.inl 27)] s Q := zJ_of (b := b18_41) (by rw [kBlk, kb_18]; rfl) h
set_option maxRecDepth 100000 in
theorem B18_48 {x : List Int} {d : Nat} {s : zSt} {Q : zQ} {x1 : Int}  (h : zJ x d 18 50 [some (.inr (.inl 6)), some (.inl 0)] [] s Q) : zJ x d 18 48 [some (.inr (.inl 6)), some (.inl x1)] [] s Q := zJ_of (b := b18_48) (by rw [kBlk, kb_18]; rfl) h
set_option maxRecDepth 100000 in
theorem B18_50 {x : List Int} {d : Nat} {s : zSt} {Q : zQ} {x1 : Int}  (h : (60 ≤ x1 → zJ x d 18 69 [some (.inr (.inl 6)), some (.inl x1)] [] s Q) ∧ (¬ (60 ≤ x1) → (0 : Int) ≤ x1 ∧ (x1 : Int) < 60 ∧ (zJ x d 18 50 [some (.inr (.inl 6)), some (.inl (wr (x1 + 1)))] [] (zU s 29 (x1).toNat (zBz 0)) Q))) : zJ x d 18 50 [some (.inr (.inl 6)), some (.inl x1)] [] s Q := zJ_of (b := b18_50) (by rw [kBlk, kb_18]; rfl) h
set_option maxRecDepth 100000 in
theorem B18_69 {x : List Int} {d : Nat} {s : zSt} {Q : zQ} {x1 : Int}  (h : Q none s) : zJ x d 18 69 [some (.inr (.inl 6)), some (.inl x1)] [] s Q := zJ_of (b := b18_69) (by rw [kBlk, kb_18]; rfl) h
set_option maxRecDepth 100000 in
theorem N18 {x : List Int} {d : Nat} {s : zSt} {Q : zQ}  (h : zJ x d 18 0 [some (.inr (.inl 6)), none] [] s Q) : zE x (d + 1) 18 [.inr (.inl 6)] s Q := zE_of (n := 2) rfl rfl rfl rfl (fun h => (zLok_some (h _ (List.mem_of_getElem? (i := 0) rfl)) (zLok_none zLok_nil))) h
-- 19: PennyALap$Coming.remindIn
set_option maxRecDepth 100000 in
theorem kb_19 : kBls.getD 19 [] = c19 := rfl
set_option maxRecDepth 100000 in
theorem B19_0 {x : List Int} {d : Nat} {s : zSt} {Q : zQ} {x1 : Int}  (h : (x1 < 0 → zJ x d 19 17 [some (.inr (.inl 6)), some (.inl x1)] [] s Q) ∧ (¬ (x1 < 0) → (60 ≤ x1 → zJ x d 19 17 [some (.inr (.inl 6)), some (.inl x1)] [] s Q) ∧ (¬ (60 ≤ x1) → (0 : Int) ≤ x1 ∧ (x1 : Int) < 60 ∧ (zJ x d 19 17 [some (.inr (.inl 6)), some (.inl x1)] [] (zU s 29 (x1).toNat (zBz 1)) Q)))) : zJ x d 19 0 [some (.inr (.inl 6)), some (.inl x1)] [] s Q := zJ_of (b := b19_0) (by rw [kBlk, kb_19]; rfl) h
set_option maxRecDepth 100000 in
theorem B19_17 {x : List Int} {d : Nat} {s : zSt} {Q : zQ} {x1 : Int}  (h : Q none s) : zJ x d 19 17 [some (.inr (.inl 6)), some (.inl x1)] [] s Q := zJ_of (b := b19_17) (by rw [kBlk, kb_19]; rfl) h
set_option maxRecDepth 100000 in
theorem N19 {x : List Int} {d : Nat} {s : zSt} {Q : zQ} {x1 : Int} (h : zJ x d 19 0 [some (.inr (.inl 6)), some (.inl x1)] [] s Q) : zE x (d + 1) 19 [.inr (.inl 6), .inl x1] s Q := zE_of (n := 2) rfl rfl rfl rfl (fun h => (zLok_some (h _ (List.mem_of_getElem? (i := 0) rfl)) (zLok_some (h _ (List.mem_of_getElem? (i := 1) rfl)) zLok_nil))) h
-- 20: PennyALap$Coming.cameBy
set_option maxRecDepth 100000 in
theorem kb_20 : kBls.getD 20 [] = c20 := rfl
set_option maxRecDepth 100000 in
theorem B20_0 {x : List Int} {d : Nat} {s : zSt} {Q : zQ} {x1 : Int} {x2 : Int}  (h : zE x d 21 [.inr (.inl 6)] s (fun r s1 => zJ x d 20 4 [some (.inr (.inl 6)), some (.inl x1), some (.inl x2), none, none] (zAp r []) s1 Q)) : zJ x d 20 0 [some (.inr (.inl 6)), some (.inl x1), some (.inl x2), none, none] [] s Q := zJ_of (b := b20_0) (by rw [kBlk, kb_20]; rfl) h
set_option maxRecDepth 100000 in
theorem B20_4 {x : List Int} {d : Nat} {s : zSt} {Q : zQ} {x1 : Int} {x2 : Int}  (h : zJ x d 20 9 [some (.inr (.inl 6)), some (.inl x1), some (.inl x2), some (.inl 0), some (.inl 0)] [] s Q) : zJ x d 20 4 [some (.inr (.inl 6)), some (.inl x1), some (.inl x2), none, none] [] s Q := zJ_of (b := b20_4) (by rw [kBlk, kb_20]; rfl) h
set_option maxRecDepth 100000 in
theorem B20_9 {x : List Int} {d : Nat} {s : zSt} {Q : zQ} {x1 : Int} {x2 : Int} {x3 : Int} {x4 : Int}  (h : (x1 ≤ x4 → zJ x d 20 56 [some (.inr (.inl 6)), some (.inl x1), some (.inl x2), some (.inl x3), some (.inl x4)] [] s Q) ∧ (¬ (x1 ≤ x4) → (60 ≤ x4 → zJ x d 20 56 [some (.inr (.inl 6)), some (.inl x1), some (.inl x2), some (.inl x3), some (.inl x4)] [] s Q) ∧ (¬ (60 ≤ x4) → (0 : Int) ≤ x4 ∧ (x4 : Int) < 60 ∧ ((¬ s 29 (x4).toNat = 0 → zJ x d 20 40 [some (.inr (.inl 6)), some (.inl x1), some (.inl x2), some (.inl x3), some (.inl x4)] [.inr (.inl 6), .inl x3] s Q) ∧ (¬ (¬ s 29 (x4).toNat = 0) → (¬ x4 = x2 → zJ x d 20 44 [some (.inr (.inl 6)), some (.inl x1), some (.inl x2), some (.inl x3), some (.inl x4)] [.inr (.inl 6), .inl x3] s Q) ∧ (¬ (¬ x4 = x2) → zJ x d 20 40 [some (.inr (.inl 6)), some (.inl x1), some (.inl x2), some (.inl x3), some (.inl x4)] [.inr (.inl 6), .inl x3] s Q)))))) : zJ x d 20 9 [some (.inr (.inl 6)), some (.inl x1), some (.inl x2), some (.inl x3), some (.inl x4)] [] s Q := zJ_of (b := b20_9) (by rw [kBlk, kb_20]; rfl) h
set_option maxRecDepth 100000 in
theorem B20_40 {x : List Int} {d : Nat} {s : zSt} {Q : zQ} {x1 : Int} {x2 : Int} {x3 : Int} {x4 : Int} {y1 : Int}  (h : zJ x d 20 45 [some (.inr (.inl 6)), some (.inl x1), some (.inl x2), some (.inl x3), some (.inl x4)] [.inl 1, .inr (.inl 6), .inl y1] s Q) : zJ x d 20 40 [some (.inr (.inl 6)), some (.inl x1), some (.inl x2), some (.inl x3), some (.inl x4)] [.inr (.inl 6), .inl y1] s Q := zJ_of (b := b20_40) (by rw [kBlk, kb_20]; rfl) h
set_option maxRecDepth 100000 in
theorem B20_44 {x : List Int} {d : Nat} {s : zSt} {Q : zQ} {x1 : Int} {x2 : Int} {x3 : Int} {x4 : Int} {y1 : Int}  (h : zJ x d 20 45 [some (.inr (.inl 6)), some (.inl x1), some (.inl x2), some (.inl x3), some (.inl x4)] [.inl 0, .inr (.inl 6), .inl y1] s Q) : zJ x d 20 44 [some (.inr (.inl 6)), some (.inl x1), some (.inl x2), some (.inl x3), some (.inl x4)] [.inr (.inl 6), .inl y1] s Q := zJ_of (b := b20_44) (by rw [kBlk, kb_20]; rfl) h
set_option maxRecDepth 100000 in
theorem B20_45 {x : List Int} {d : Nat} {s : zSt} {Q : zQ} {x1 : Int} {x2 : Int} {x3 : Int} {x4 : Int} {y0 : Int} {y2 : Int}  (h : zE x d 22 [.inr (.inl 6), .inl y0] s (fun r s1 => zJ x d 20 48 [some (.inr (.inl 6)), some (.inl x1), some (.inl x2), some (.inl x3), some (.inl x4)] (zAp r [.inl y2]) s1 Q)) : zJ x d 20 45 [some (.inr (.inl 6)), some (.inl x1), some (.inl x2), some (.inl x3), some (.inl x4)] [.inl y0, .inr (.inl 6), .inl y2] s Q := zJ_of (b := b20_45) (by rw [kBlk, kb_20]; rfl) h
set_option maxRecDepth 100000 in
theorem B20_48 {x : List Int} {d : Nat} {s : zSt} {Q : zQ} {x1 : Int} {x2 : Int} {x3 : Int} {x4 : Int} {y0 : Int} {y1 : Int}  (h : zJ x d 20 9 [some (.inr (.inl 6)), some (.inl x1), some (.inl x2), some (.inl (wr (y1 + y0))), some (.inl (wr (x4 + 1)))] [] s Q) : zJ x d 20 48 [some (.inr (.inl 6)), some (.inl x1), some (.inl x2), some (.inl x3), some (.inl x4)] [.inl y0, .inl y1] s Q := zJ_of (b := b20_48) (by rw [kBlk, kb_20]; rfl) h
set_option maxRecDepth 100000 in
theorem B20_56 {x : List Int} {d : Nat} {s : zSt} {Q : zQ} {x1 : Int} {x2 : Int} {x3 : Int} {x4 : Int}  (h : Q (some (.inl x3)) s) : zJ x d 20 56 [some (.inr (.inl 6)), some (.inl x1), some (.inl x2), some (.inl x3), some (.inl x4)] [] s Q := zJ_of (b := b20_56) (by rw [kBlk, kb_20]; rfl) h
set_option maxRecDepth 100000 in
theorem N20 {x : List Int} {d : Nat} {s : zSt} {Q : zQ} {x1 : Int} {x2 : Int} (h : zJ x d 20 0 [some (.inr (.inl 6)), some (.inl x1), some (.inl x2), none, none] [] s Q) : zE x (d + 1) 20 [.inr (.inl 6), .inl x1, .inl x2] s Q := zE_of (n := 5) rfl rfl rfl rfl (fun h => (zLok_some (h _ (List.mem_of_getElem? (i := 0) rfl)) (zLok_some (h _ (List.mem_of_getElem? (i := 1) rfl)) (zLok_some (h _ (List.mem_of_getElem? (i := 2) rfl)) (zLok_none (zLok_none zLok_nil)))))) h
-- 21: PennyALap$Coming.startWeeks
set_option maxRecDepth 100000 in
theorem kb_21 : kBls.getD 21 [] = c21 := rfl
set_option maxRecDepth 100000 in
theorem B21_0 {x : List Int} {d : Nat} {s : zSt} {Q : zQ}   (h : zJ x d 21 2 [some (.inr (.inl 6)), some (.inl 0)] [] s Q) : zJ x d 21 0 [some (.inr (.inl 6)), none] [] s Q := zJ_of (b := b21_0) (by rw [kBlk, kb_21]; rfl) h
set_option maxRecDepth 100000 in
theorem B21_2 {x : List Int} {d : Nat} {s : zSt} {Q : zQ} {x1 : Int}  (h : zE x d 39 [.inr (.inl 2)] s (fun r s1 => zJ x d 21 10 [some (.inr (.inl 6)), some (.inl x1)] (zAp r [.inl x1]) s1 Q)) : zJ x d 21 2 [some (.inr (.inl 6)), some (.inl x1)] [] s Q := zJ_of (b := b21_2) (by rw [kBlk, kb_21]; rfl) h
set_option maxRecDepth 100000 in
theorem B21_10 {x : List Int} {d : Nat} {s : zSt} {Q : zQ} {x1 : Int} {y0 : Int} {y1 : Int}  (h : (y0 ≤ y1 → zJ x d 21 31 [some (.inr (.inl 6)), some (.inl x1)] [] s Q) ∧ (¬ (y0 ≤ y1) → (0 : Int) ≤ x1 ∧ (x1 : Int) < 16 ∧ ((0 : Int) ≤ x1 ∧ (x1 : Int) < 16 ∧ (zJ x d 21 2 [some (.inr (.inl 6)), some (.inl (wr (x1 + 1)))] [] (zU s 28 (x1).toNat (s 27 (x1).toNat)) Q)))) : zJ x d 21 10 [some (.inr (.inl 6)), some (.inl x1)] [.inl y0, .inl y1] s Q := zJ_of (b := b21_10) (by rw [kBlk, kb_21]; rfl) h
set_option maxRecDepth 100000 in
theorem B21_31 {x : List Int} {d : Nat} {s : zSt} {Q : zQ} {x1 : Int}  (h : Q none s) : zJ x d 21 31 [some (.inr (.inl 6)), some (.inl x1)] [] s Q := zJ_of (b := b21_31) (by rw [kBlk, kb_21]; rfl) h
set_option maxRecDepth 100000 in
theorem N21 {x : List Int} {d : Nat} {s : zSt} {Q : zQ}  (h : zJ x d 21 0 [some (.inr (.inl 6)), none] [] s Q) : zE x (d + 1) 21 [.inr (.inl 6)] s Q := zE_of (n := 2) rfl rfl rfl rfl (fun h => (zLok_some (h _ (List.mem_of_getElem? (i := 0) rfl)) (zLok_none zLok_nil))) h
-- 22: PennyALap$Coming.comesIn
set_option maxRecDepth 100000 in
theorem kb_22 : kBls.getD 22 [] = c22 := rfl
set_option maxRecDepth 100000 in
theorem B22_0 {x : List Int} {d : Nat} {s : zSt} {Q : zQ} {x1 : Int}  (h : zE x d 46 [.inr (.inl 2), .inl 0, .inl 10] s (fun r s1 => zJ x d 22 10 [some (.inr (.inl 6)), some (.inl x1), none, none, none, none, none] (zAp r []) s1 Q)) : zJ x d 22 0 [some (.inr (.inl 6)), some (.inl x1), none, none, none, none, none] [] s Q := zJ_of (b := b22_0) (by rw [kBlk, kb_22]; rfl) h
set_option maxRecDepth 100000 in
theorem B22_10 {x : List Int} {d : Nat} {s : zSt} {Q : zQ} {x1 : Int} {y0 : Int}  (h : (x1 = 0 → zJ x d 22 28 [some (.inr (.inl 6)), some (.inl x1), some (.inl y0), none, none, none, none] [] s Q) ∧ (¬ (x1 = 0) → zE x d 46 [.inr (.inl 2), .inl 0, .inl 11] s (fun r s1 => zJ x d 22 25 [some (.inr (.inl 6)), some (.inl x1), some (.inl y0), none, none, none, none] (zAp r []) s1 Q))) : zJ x d 22 10 [some (.inr (.inl 6)), some (.inl x1), none, none, none, none, none] [.inl y0] s Q := zJ_of (b := b22_10) (by rw [kBlk, kb_22]; rfl) h
set_option maxRecDepth 100000 in
theorem B22_25 {x : List Int} {d : Nat} {s : zSt} {Q : zQ} {x1 : Int} {x2 : Int} {y0 : Int}  (h : zJ x d 22 29 [some (.inr (.inl 6)), some (.inl x1), some (.inl x2), none, none, none, none] [.inl y0] s Q) : zJ x d 22 25 [some (.inr (.inl 6)), some (.inl x1), some (.inl x2), none, none, none, none] [.inl y0] s Q := zJ_of (b := b22_25) (by rw [kBlk, kb_22]; rfl) h
set_option maxRecDepth 100000 in
theorem B22_28 {x : List Int} {d : Nat} {s : zSt} {Q : zQ} {x1 : Int} {x2 : Int}  (h : zJ x d 22 29 [some (.inr (.inl 6)), some (.inl x1), some (.inl x2), none, none, none, none] [.inl 1] s Q) : zJ x d 22 28 [some (.inr (.inl 6)), some (.inl x1), some (.inl x2), none, none, none, none] [] s Q := zJ_of (b := b22_28) (by rw [kBlk, kb_22]; rfl) h
set_option maxRecDepth 100000 in
theorem B22_29 {x : List Int} {d : Nat} {s : zSt} {Q : zQ} {x1 : Int} {x2 : Int} {y0 : Int}  (h : zJ x d 22 36 [some (.inr (.inl 6)), some (.inl x1), some (.inl x2), some (.inl y0), some (.inl 0), some (.inl 0), none] [] s Q) : zJ x d 22 29 [some (.inr (.inl 6)), some (.inl x1), some (.inl x2), none, none, none, none] [.inl y0] s Q := zJ_of (b := b22_29) (by rw [kBlk, kb_22]; rfl) h
set_option maxRecDepth 100000 in
theorem B22_36 {x : List Int} {d : Nat} {s : zSt} {Q : zQ} {x1 : Int} {x2 : Int} {x3 : Int} {x4 : Int} {x5 : Int} {o6 : Option zV}  (h : zE x d 39 [.inr (.inl 2)] s (fun r s1 => zJ x d 22 45 [some (.inr (.inl 6)), some (.inl x1), some (.inl x2), some (.inl x3), some (.inl x4), some (.inl x5), o6] (zAp r [.inl x5]) s1 Q)) : zJ x d 22 36 [some (.inr (.inl 6)), some (.inl x1), some (.inl x2), some (.inl x3), some (.inl x4), some (.inl x5), o6] [] s Q := zJ_of (b := b22_36) (by rw [kBlk, kb_22]; rfl) h
set_option maxRecDepth 100000 in
theorem B22_45 {x : List Int} {d : Nat} {s : zSt} {Q : zQ} {x1 : Int} {x2 : Int} {x3 : Int} {x4 : Int} {x5 : Int} {o6 : Option zV} {y0 : Int} {y1 : Int}  (h : (y0 ≤ y1 → zJ x d 22 103 [some (.inr (.inl 6)), some (.inl x1), some (.inl x2), some (.inl x3), some (.inl x4), some (.inl x5), o6] [] s Q) ∧ (¬ (y0 ≤ y1) → (0 : Int) ≤ x5 ∧ (x5 : Int) < 16 ∧ ((0 : Int) ≤ x5 ∧ (x5 : Int) < 16 ∧ ((0 : Int) ≤ x5 ∧ (x5 : Int) < 16 ∧ ((0 : Int) ≤ x5 ∧ (x5 : Int) < 16 ∧ (zJ x d 22 36 [some (.inr (.inl 6)), some (.inl x1), some (.inl x2), some (.inl x3), some (.inl (wr (x4 + (min (s 28 (x5).toNat) (wr (x3 * (max 1 (wr ((wr ((s 28 (x5).toNat) * x2)).tdiv 12))))))))), some (.inl (wr (x5 + 1))), some (.inl (min (s 28 (x5).toNat) (wr (x3 * (max 1 (wr ((wr ((s 28 (x5).toNat) * x2)).tdiv 12)))))))] [] (zU s 28 (x5).toNat (wr ((s 28 (x5).toNat) - (min (s 28 (x5).toNat) (wr (x3 * (max 1 (wr ((wr ((s 28 (x5).toNat) * x2)).tdiv 12))))))))) Q)))))) : zJ x d 22 45 [some (.inr (.inl 6)), some (.inl x1), some (.inl x2), some (.inl x3), some (.inl x4), some (.inl x5), o6] [.inl y0, .inl y1] s Q := zJ_of (b := b22_45) (by rw [kBlk, kb_22]; rfl) h
set_option maxRecDepth 100000 in
theorem B22_103 {x : List Int} {d : Nat} {s : zSt} {Q : zQ} {x1 : Int} {x2 : Int} {x3 : Int} {x4 : Int} {x5 : Int} {o6 : Option zV}  (h : Q (some (.inl x4)) s) : zJ x d 22 103 [some (.inr (.inl 6)), some (.inl x1), some (.inl x2), some (.inl x3), some (.inl x4), some (.inl x5), o6] [] s Q := zJ_of (b := b22_103) (by rw [kBlk, kb_22]; rfl) h
set_option maxRecDepth 100000 in
theorem N22 {x : List Int} {d : Nat} {s : zSt} {Q : zQ} {x1 : Int} (h : zJ x d 22 0 [some (.inr (.inl 6)), some (.inl x1), none, none, none, none, none] [] s Q) : zE x (d + 1) 22 [.inr (.inl 6), .inl x1] s Q := zE_of (n := 7) rfl rfl rfl rfl (fun h => (zLok_some (h _ (List.mem_of_getElem? (i := 0) rfl)) (zLok_some (h _ (List.mem_of_getElem? (i := 1) rfl)) (zLok_none (zLok_none (zLok_none (zLok_none (zLok_none zLok_nil)))))))) h
-- 23: PennyALap$Coming.weeksTill
set_option maxRecDepth 100000 in
theorem kb_23 : kBls.getD 23 [] = c23 := rfl
set_option maxRecDepth 100000 in
theorem B23_0 {x : List Int} {d : Nat} {s : zSt} {Q : zQ} {x1 : Int}  (h : zE x d 21 [.inr (.inl 6)] s (fun r s1 => zJ x d 23 4 [some (.inr (.inl 6)), some (.inl x1), none, none, none] (zAp r []) s1 Q)) : zJ x d 23 0 [some (.inr (.inl 6)), some (.inl x1), none, none, none] [] s Q := zJ_of (b := b23_0) (by rw [kBlk, kb_23]; rfl) h
set_option maxRecDepth 100000 in
theorem B23_4 {x : List Int} {d : Nat} {s : zSt} {Q : zQ} {x1 : Int}  (h : zJ x d 23 8 [some (.inr (.inl 6)), some (.inl x1), some (.inl 0), some (.inl 0), none] [] s Q) : zJ x d 23 4 [some (.inr (.inl 6)), some (.inl x1), none, none, none] [] s Q := zJ_of (b := b23_4) (by rw [kBlk, kb_23]; rfl) h
set_option maxRecDepth 100000 in
theorem B23_8 {x : List Int} {d : Nat} {s : zSt} {Q : zQ} {x1 : Int} {x2 : Int} {x3 : Int}  (h : zE x d 39 [.inr (.inl 2)] s (fun r s1 => zJ x d 23 16 [some (.inr (.inl 6)), some (.inl x1), some (.inl x2), some (.inl x3), none] (zAp r [.inl x3]) s1 Q)) : zJ x d 23 8 [some (.inr (.inl 6)), some (.inl x1), some (.inl x2), some (.inl x3), none] [] s Q := zJ_of (b := b23_8) (by rw [kBlk, kb_23]; rfl) h
set_option maxRecDepth 100000 in
theorem B23_16 {x : List Int} {d : Nat} {s : zSt} {Q : zQ} {x1 : Int} {x2 : Int} {x3 : Int} {y0 : Int} {y1 : Int}  (h : (y0 ≤ y1 → zJ x d 23 34 [some (.inr (.inl 6)), some (.inl x1), some (.inl x2), some (.inl x3), none] [] s Q) ∧ (¬ (y0 ≤ y1) → (0 : Int) ≤ x3 ∧ (x3 : Int) < 16 ∧ (zJ x d 23 8 [some (.inr (.inl 6)), some (.inl x1), some (.inl (wr (x2 + (s 27 (x3).toNat)))), some (.inl (wr (x3 + 1))), none] [] s Q))) : zJ x d 23 16 [some (.inr (.inl 6)), some (.inl x1), some (.inl x2), some (.inl x3), none] [.inl y0, .inl y1] s Q := zJ_of (b := b23_16) (by rw [kBlk, kb_23]; rfl) h
set_option maxRecDepth 100000 in
theorem B23_34 {x : List Int} {d : Nat} {s : zSt} {Q : zQ} {x1 : Int} {x2 : Int} {x3 : Int}  (h : zJ x d 23 39 [some (.inr (.inl 6)), some (.inl x1), some (.inl x2), some (.inl 0), some (.inl 0)] [] s Q) : zJ x d 23 34 [some (.inr (.inl 6)), some (.inl x1), some (.inl x2), some (.inl x3), none] [] s Q := zJ_of (b := b23_34) (by rw [kBlk, kb_23]; rfl) h
set_option maxRecDepth 100000 in
theorem B23_39 {x : List Int} {d : Nat} {s : zSt} {Q : zQ} {x1 : Int} {x2 : Int} {x3 : Int} {x4 : Int}  (h : (60 < x4 → zJ x d 23 90 [some (.inr (.inl 6)), some (.inl x1), some (.inl x2), some (.inl x3), some (.inl x4)] [] s Q) ∧ (¬ (60 < x4) → (wr (x3 * 12) < wr (x2 * x1) → zJ x d 23 59 [some (.inr (.inl 6)), some (.inl x1), some (.inl x2), some (.inl x3), some (.inl x4)] [] s Q) ∧ (¬ (wr (x3 * 12) < wr (x2 * x1)) → Q (some (.inl x4)) s))) : zJ x d 23 39 [some (.inr (.inl 6)), some (.inl x1), some (.inl x2), some (.inl x3), some (.inl x4)] [] s Q := zJ_of (b := b23_39) (by rw [kBlk, kb_23]; rfl) h
set_option maxRecDepth 100000 in
theorem B23_59 {x : List Int} {d : Nat} {s : zSt} {Q : zQ} {x1 : Int} {x2 : Int} {x3 : Int} {x4 : Int}  (h : (60 ≤ x4 → zJ x d 23 81 [some (.inr (.inl 6)), some (.inl x1), some (.inl x2), some (.inl x3), some (.inl x4)] [.inl x3] s Q) ∧ (¬ (60 ≤ x4) → (0 : Int) ≤ x4 ∧ (x4 : Int) < 60 ∧ (zE x d 22 [.inr (.inl 6), .inl (s 29 (x4).toNat)] s (fun r s1 => zJ x d 23 78 [some (.inr (.inl 6)), some (.inl x1), some (.inl x2), some (.inl x3), some (.inl x4)] (zAp r [.inl x3]) s1 Q)))) : zJ x d 23 59 [some (.inr (.inl 6)), some (.inl x1), some (.inl x2), some (.inl x3), some (.inl x4)] [] s Q := zJ_of (b := b23_59) (by rw [kBlk, kb_23]; rfl) h
set_option maxRecDepth 100000 in
theorem B23_78 {x : List Int} {d : Nat} {s : zSt} {Q : zQ} {x1 : Int} {x2 : Int} {x3 : Int} {x4 : Int} {y0 : Int} {y1 : Int}  (h : zJ x d 23 82 [some (.inr (.inl 6)), some (.inl x1), some (.inl x2), some (.inl x3), some (.inl x4)] [.inl y0, .inl y1] s Q) : zJ x d 23 78 [some (.inr (.inl 6)), some (.inl x1), some (.inl x2), some (.inl x3), some (.inl x4)] [.inl y0, .inl y1] s Q := zJ_of (b := b23_78) (by rw [kBlk, kb_23]; rfl) h
set_option maxRecDepth 100000 in
theorem B23_81 {x : List Int} {d : Nat} {s : zSt} {Q : zQ} {x1 : Int} {x2 : Int} {x3 : Int} {x4 : Int} {y0 : Int}  (h : zJ x d 23 82 [some (.inr (.inl 6)), some (.inl x1), some (.inl x2), some (.inl x3), some (.inl x4)] [.inl 0, .inl y0] s Q) : zJ x d 23 81 [some (.inr (.inl 6)), some (.inl x1), some (.inl x2), some (.inl x3), some (.inl x4)] [.inl y0] s Q := zJ_of (b := b23_81) (by rw [kBlk, kb_23]; rfl) h
set_option maxRecDepth 100000 in
theorem B23_82 {x : List Int} {d : Nat} {s : zSt} {Q : zQ} {x1 : Int} {x2 : Int} {x3 : Int} {x4 : Int} {y0 : Int} {y1 : Int}  (h : zJ x d 23 39 [some (.inr (.inl 6)), some (.inl x1), some (.inl x2), some (.inl (wr (y1 + y0))), some (.inl (wr (x4 + 1)))] [] s Q) : zJ x d 23 82 [some (.inr (.inl 6)), some (.inl x1), some (.inl x2), some (.inl x3), some (.inl x4)] [.inl y0, .inl y1] s Q := zJ_of (b := b23_82) (by rw [kBlk, kb_23]; rfl) h
set_option maxRecDepth 100000 in
theorem B23_90 {x : List Int} {d : Nat} {s : zSt} {Q : zQ} {x1 : Int} {x2 : Int} {x3 : Int} {x4 : Int}  (h : Q (some (.inl (-2))) s) : zJ x d 23 90 [some (.inr (.inl 6)), some (.inl x1), some (.inl x2), some (.inl x3), some (.inl x4)] [] s Q := zJ_of (b := b23_90) (by rw [kBlk, kb_23]; rfl) h
set_option maxRecDepth 100000 in
theorem N23 {x : List Int} {d : Nat} {s : zSt} {Q : zQ} {x1 : Int} (h : zJ x d 23 0 [some (.inr (.inl 6)), some (.inl x1), none, none, none] [] s Q) : zE x (d + 1) 23 [.inr (.inl 6), .inl x1] s Q := zE_of (n := 5) rfl rfl rfl rfl (fun h => (zLok_some (h _ (List.mem_of_getElem? (i := 0) rfl)) (zLok_some (h _ (List.mem_of_getElem? (i := 1) rfl)) (zLok_none (zLok_none (zLok_none zLok_nil)))))) h
-- 24: PennyALap$Coming.bestWeek
set_option maxRecDepth 100000 in
theorem kb_24 : kBls.getD 24 [] = c24 := rfl
set_option maxRecDepth 100000 in
theorem B24_0 {x : List Int} {d : Nat} {s : zSt} {Q : zQ} {x1 : Int}  (h : zJ x d 24 7 [some (.inr (.inl 6)), some (.inl x1), some (.inl 0), some (.inl (-1)), some (.inl 0), none] [] s Q) : zJ x d 24 0 [some (.inr (.inl 6)), some (.inl x1), none, none, none, none] [] s Q := zJ_of (b := b24_0) (by rw [kBlk, kb_24]; rfl) h
set_option maxRecDepth 100000 in
theorem B24_7 {x : List Int} {d : Nat} {s : zSt} {Q : zQ} {x1 : Int} {x2 : Int} {x3 : Int} {x4 : Int} {o5 : Option zV}  (h : (x1 ≤ x4 → zJ x d 24 40 [some (.inr (.inl 6)), some (.inl x1), some (.inl x2), some (.inl x3), some (.inl x4), o5] [] s Q) ∧ (¬ (x1 ≤ x4) → zE x d 20 [.inr (.inl 6), .inl x1, .inl x4] s (fun r s1 => zJ x d 24 20 [some (.inr (.inl 6)), some (.inl x1), some (.inl x2), some (.inl x3), some (.inl x4), o5] (zAp r []) s1 Q))) : zJ x d 24 7 [some (.inr (.inl 6)), some (.inl x1), some (.inl x2), some (.inl x3), some (.inl x4), o5] [] s Q := zJ_of (b := b24_7) (by rw [kBlk, kb_24]; rfl) h
set_option maxRecDepth 100000 in
theorem B24_20 {x : List Int} {d : Nat} {s : zSt} {Q : zQ} {x1 : Int} {x2 : Int} {x3 : Int} {x4 : Int} {o5 : Option zV} {y0 : Int}  (h : (y0 ≤ x3 → zJ x d 24 34 [some (.inr (.inl 6)), some (.inl x1), some (.inl x2), some (.inl x3), some (.inl x4), some (.inl y0)] [] s Q) ∧ (¬ (y0 ≤ x3) → zJ x d 24 34 [some (.inr (.inl 6)), some (.inl x1), some (.inl x4), some (.inl y0), some (.inl x4), some (.inl y0)] [] s Q)) : zJ x d 24 20 [some (.inr (.inl 6)), some (.inl x1), some (.inl x2), some (.inl x3), some (.inl x4), o5] [.inl y0] s Q := zJ_of (b := b24_20) (by rw [kBlk, kb_24]; rfl) h
set_option maxRecDepth 100000 in
theorem B24_34 {x : List Int} {d : Nat} {s : zSt} {Q : zQ} {x1 : Int} {x2 : Int} {x3 : Int} {x4 : Int} {x5 : Int}  (h : zJ x d 24 7 [some (.inr (.inl 6)), some (.inl x1), some (.inl x2), some (.inl x3), some (.inl (wr (x4 + 1))), some (.inl x5)] [] s Q) : zJ x d 24 34 [some (.inr (.inl 6)), some (.inl x1), some (.inl x2), some (.inl x3), some (.inl x4), some (.inl x5)] [] s Q := zJ_of (b := b24_34) (by rw [kBlk, kb_24]; rfl) h
set_option maxRecDepth 100000 in
theorem B24_40 {x : List Int} {d : Nat} {s : zSt} {Q : zQ} {x1 : Int} {x2 : Int} {x3 : Int} {x4 : Int} {o5 : Option zV}  (h : Q (some (.inl x2)) s) : zJ x d 24 40 [some (.inr (.inl 6)), some (.inl x1), some (.inl x2), some (.inl x3), some (.inl x4), o5] [] s Q := zJ_of (b := b24_40) (by rw [kBlk, kb_24]; rfl) h
set_option maxRecDepth 100000 in
theorem N24 {x : List Int} {d : Nat} {s : zSt} {Q : zQ} {x1 : Int} (h : zJ x d 24 0 [some (.inr (.inl 6)), some (.inl x1), none, none, none, none] [] s Q) : zE x (d + 1) 24 [.inr (.inl 6), .inl x1] s Q := zE_of (n := 6) rfl rfl rfl rfl (fun h => (zLok_some (h _ (List.mem_of_getElem? (i := 0) rfl)) (zLok_some (h _ (List.mem_of_getElem? (i := 1) rfl)) (zLok_none (zLok_none (zLok_none (zLok_none zLok_nil))))))) h
-- 25: PennyALap$Deed.lapsOf
set_option maxRecDepth 100000 in
theorem kb_25 : kBls.getD 25 [] = c25 := rfl
set_option maxRecDepth 100000 in
theorem B25_0 {x : List Int} {d : Nat} {s : zSt} {Q : zQ} {x1 : Int}  (h : (x1 < 0 → zJ x d 25 19 [some (.inr (.inl 7)), some (.inl x1)] [] s Q) ∧ (¬ (x1 < 0) → (6 ≤ x1 → zJ x d 25 19 [some (.inr (.inl 7)), some (.inl x1)] [] s Q) ∧ (¬ (6 ≤ x1) → (0 : Int) ≤ x1 ∧ (x1 : Int) < 6 ∧ (zJ x d 25 20 [some (.inr (.inl 7)), some (.inl x1)] [.inl (s 30 (x1).toNat)] s Q)))) : zJ x d 25 0 [some (.inr (.inl 7)), some (.inl x1)] [] s Q := zJ_of (b := b25_0) (by rw [kBlk, kb_25]; rfl) h
set_option maxRecDepth 100000 in
theorem B25_19 {x : List Int} {d : Nat} {s : zSt} {Q : zQ} {x1 : Int}  (h : zJ x d 25 20 [some (.inr (.inl 7)), some (.inl x1)] [.inl 0] s Q) : zJ x d 25 19 [some (.inr (.inl 7)), some (.inl x1)] [] s Q := zJ_of (b := b25_19) (by rw [kBlk, kb_25]; rfl) h
set_option maxRecDepth 100000 in
theorem B25_20 {x : List Int} {d : Nat} {s : zSt} {Q : zQ} {x1 : Int} {y0 : Int}  (h : Q (some (.inl y0)) s) : zJ x d 25 20 [some (.inr (.inl 7)), some (.inl x1)] [.inl y0] s Q := zJ_of (b := b25_20) (by rw [kBlk, kb_25]; rfl) h
set_option maxRecDepth 100000 in
theorem N25 {x : List Int} {d : Nat} {s : zSt} {Q : zQ} {x1 : Int} (h : zJ x d 25 0 [some (.inr (.inl 7)), some (.inl x1)] [] s Q) : zE x (d + 1) 25 [.inr (.inl 7), .inl x1] s Q := zE_of (n := 2) rfl rfl rfl rfl (fun h => (zLok_some (h _ (List.mem_of_getElem? (i := 0) rfl)) (zLok_some (h _ (List.mem_of_getElem? (i := 1) rfl)) zLok_nil))) h
-- 26: PennyALap$Deed.minutesOf
set_option maxRecDepth 100000 in
theorem kb_26 : kBls.getD 26 [] = c26 := rfl
set_option maxRecDepth 100000 in
theorem B26_0 {x : List Int} {d : Nat} {s : zSt} {Q : zQ} {x1 : Int}  (h : (x1 < 0 → zJ x d 26 19 [some (.inr (.inl 7)), some (.inl x1)] [] s Q) ∧ (¬ (x1 < 0) → (6 ≤ x1 → zJ x d 26 19 [some (.inr (.inl 7)), some (.inl x1)] [] s Q) ∧ (¬ (6 ≤ x1) → (0 : Int) ≤ x1 ∧ (x1 : Int) < 6 ∧ (zJ x d 26 20 [some (.inr (.inl 7)), some (.inl x1)] [.inl (s 31 (x1).toNat)] s Q)))) : zJ x d 26 0 [some (.inr (.inl 7)), some (.inl x1)] [] s Q := zJ_of (b := b26_0) (by rw [kBlk, kb_26]; rfl) h
set_option maxRecDepth 100000 in
theorem B26_19 {x : List Int} {d : Nat} {s : zSt} {Q : zQ} {x1 : Int}  (h : zJ x d 26 20 [some (.inr (.inl 7)), some (.inl x1)] [.inl 0] s Q) : zJ x d 26 19 [some (.inr (.inl 7)), some (.inl x1)] [] s Q := zJ_of (b := b26_19) (by rw [kBlk, kb_26]; rfl) h
set_option maxRecDepth 100000 in
theorem B26_20 {x : List Int} {d : Nat} {s : zSt} {Q : zQ} {x1 : Int} {y0 : Int}  (h : Q (some (.inl y0)) s) : zJ x d 26 20 [some (.inr (.inl 7)), some (.inl x1)] [.inl y0] s Q := zJ_of (b := b26_20) (by rw [kBlk, kb_26]; rfl) h
set_option maxRecDepth 100000 in
theorem N26 {x : List Int} {d : Nat} {s : zSt} {Q : zQ} {x1 : Int} (h : zJ x d 26 0 [some (.inr (.inl 7)), some (.inl x1)] [] s Q) : zE x (d + 1) 26 [.inr (.inl 7), .inl x1] s Q := zE_of (n := 2) rfl rfl rfl rfl (fun h => (zLok_some (h _ (List.mem_of_getElem? (i := 0) rfl)) (zLok_some (h _ (List.mem_of_getElem? (i := 1) rfl)) zLok_nil))) h
-- 27: PennyALap$Deed.paidBy
set_option maxRecDepth 100000 in
theorem kb_27 : kBls.getD 27 [] = c27 := rfl
set_option maxRecDepth 100000 in
theorem B27_0 {x : List Int} {d : Nat} {s : zSt} {Q : zQ} {x1 : Int}  (h : (x1 < 0 → zJ x d 27 19 [some (.inr (.inl 7)), some (.inl x1)] [] s Q) ∧ (¬ (x1 < 0) → (16 ≤ x1 → zJ x d 27 19 [some (.inr (.inl 7)), some (.inl x1)] [] s Q) ∧ (¬ (16 ≤ x1) → (0 : Int) ≤ x1 ∧ (x1 : Int) < 16 ∧ (zJ x d 27 20 [some (.inr (.inl 7)), some (.inl x1)] [.inl (s 32 (x1).toNat)] s Q)))) : zJ x d 27 0 [some (.inr (.inl 7)), some (.inl x1)] [] s Q := zJ_of (b := b27_0) (by rw [kBlk, kb_27]; rfl) h
set_option maxRecDepth 100000 in
theorem B27_19 {x : List Int} {d : Nat} {s : zSt} {Q : zQ} {x1 : Int}  (h : zJ x d 27 20 [some (.inr (.inl 7)), some (.inl x1)] [.inl 0] s Q) : zJ x d 27 19 [some (.inr (.inl 7)), some (.inl x1)] [] s Q := zJ_of (b := b27_19) (by rw [kBlk, kb_27]; rfl) h
set_option maxRecDepth 100000 in
theorem B27_20 {x : List Int} {d : Nat} {s : zSt} {Q : zQ} {x1 : Int} {y0 : Int}  (h : Q (some (.inl y0)) s) : zJ x d 27 20 [some (.inr (.inl 7)), some (.inl x1)] [.inl y0] s Q := zJ_of (b := b27_20) (by rw [kBlk, kb_27]; rfl) h
set_option maxRecDepth 100000 in
theorem N27 {x : List Int} {d : Nat} {s : zSt} {Q : zQ} {x1 : Int} (h : zJ x d 27 0 [some (.inr (.inl 7)), some (.inl x1)] [] s Q) : zE x (d + 1) 27 [.inr (.inl 7), .inl x1] s Q := zE_of (n := 2) rfl rfl rfl rfl (fun h => (zLok_some (h _ (List.mem_of_getElem? (i := 0) rfl)) (zLok_some (h _ (List.mem_of_getElem? (i := 1) rfl)) zLok_nil))) h
-- 28: PennyALap$Deed.ledLaps
set_option maxRecDepth 100000 in
theorem kb_28 : kBls.getD 28 [] = c28 := rfl
set_option maxRecDepth 100000 in
theorem B28_0 {x : List Int} {d : Nat} {s : zSt} {Q : zQ}   (h : Q (some (.inl (s 7 3))) s) : zJ x d 28 0 [some (.inr (.inl 7))] [] s Q := zJ_of (b := b28_0) (by rw [kBlk, kb_28]; rfl) h
set_option maxRecDepth 100000 in
theorem N28 {x : List Int} {d : Nat} {s : zSt} {Q : zQ}  (h : zJ x d 28 0 [some (.inr (.inl 7))] [] s Q) : zE x (d + 1) 28 [.inr (.inl 7)] s Q := zE_of (n := 1) rfl rfl rfl rfl (fun h => (zLok_some (h _ (List.mem_of_getElem? (i := 0) rfl)) zLok_nil)) h
-- 29: PennyALap$Deed.ledPence
set_option maxRecDepth 100000 in
theorem kb_29 : kBls.getD 29 [] = c29 := rfl
set_option maxRecDepth 100000 in
theorem B29_0 {x : List Int} {d : Nat} {s : zSt} {Q : zQ}   (h : Q (some (.inl (s 7 4))) s) : zJ x d 29 0 [some (.inr (.inl 7))] [] s Q := zJ_of (b := b29_0) (by rw [kBlk, kb_29]; rfl) h
set_option maxRecDepth 100000 in
theorem N29 {x : List Int} {d : Nat} {s : zSt} {Q : zQ}  (h : zJ x d 29 0 [some (.inr (.inl 7))] [] s Q) : zE x (d + 1) 29 [.inr (.inl 7)] s Q := zE_of (n := 1) rfl rfl rfl rfl (fun h => (zLok_some (h _ (List.mem_of_getElem? (i := 0) rfl)) zLok_nil)) h
-- 30: PennyALap$Deed.ledMinutes
set_option maxRecDepth 100000 in
theorem kb_30 : kBls.getD 30 [] = c30 := rfl
set_option maxRecDepth 100000 in
theorem B30_0 {x : List Int} {d : Nat} {s : zSt} {Q : zQ}   (h : Q (some (.inl (s 7 5))) s) : zJ x d 30 0 [some (.inr (.inl 7))] [] s Q := zJ_of (b := b30_0) (by rw [kBlk, kb_30]; rfl) h
set_option maxRecDepth 100000 in
theorem N30 {x : List Int} {d : Nat} {s : zSt} {Q : zQ}  (h : zJ x d 30 0 [some (.inr (.inl 7))] [] s Q) : zE x (d + 1) 30 [.inr (.inl 7)] s Q := zE_of (n := 1) rfl rfl rfl rfl (fun h => (zLok_some (h _ (List.mem_of_getElem? (i := 0) rfl)) zLok_nil)) h
-- 31: PennyALap$Deed.fields
set_option maxRecDepth 100000 in
theorem kb_31 : kBls.getD 31 [] = c31 := rfl
set_option maxRecDepth 100000 in
theorem B31_0 {x : List Int} {d : Nat} {s : zSt} {Q : zQ}   (h : Q (some (.inl (s 7 6))) s) : zJ x d 31 0 [some (.inr (.inl 7))] [] s Q := zJ_of (b := b31_0) (by rw [kBlk, kb_31]; rfl) h
set_option maxRecDepth 100000 in
theorem N31 {x : List Int} {d : Nat} {s : zSt} {Q : zQ}  (h : zJ x d 31 0 [some (.inr (.inl 7))] [] s Q) : zE x (d + 1) 31 [.inr (.inl 7)] s Q := zE_of (n := 1) rfl rfl rfl rfl (fun h => (zLok_some (h _ (List.mem_of_getElem? (i := 0) rfl)) zLok_nil)) h
-- 32: PennyALap$Deed.surprises
set_option maxRecDepth 100000 in
theorem kb_32 : kBls.getD 32 [] = c32 := rfl
set_option maxRecDepth 100000 in
theorem B32_0 {x : List Int} {d : Nat} {s : zSt} {Q : zQ}   (h : Q (some (.inl (s 7 7))) s) : zJ x d 32 0 [some (.inr (.inl 7))] [] s Q := zJ_of (b := b32_0) (by rw [kBlk, kb_32]; rfl) h
set_option maxRecDepth 100000 in
theorem N32 {x : List Int} {d : Nat} {s : zSt} {Q : zQ}  (h : zJ x d 32 0 [some (.inr (.inl 7))] [] s Q) : zE x (d + 1) 32 [.inr (.inl 7)] s Q := zE_of (n := 1) rfl rfl rfl rfl (fun h => (zLok_some (h _ (List.mem_of_getElem? (i := 0) rfl)) zLok_nil)) h
-- 33: PennyALap$Deed.lapsOfField
set_option maxRecDepth 100000 in
theorem kb_33 : kBls.getD 33 [] = c33 := rfl
set_option maxRecDepth 100000 in
theorem B33_0 {x : List Int} {d : Nat} {s : zSt} {Q : zQ}   (h : zJ x d 33 13 [some (.inr (.inl 7)), some (.inl 0), some (.inr (.inl 30)), some (.inl 6), some (.inl 0), none] [] s Q) : zJ x d 33 0 [some (.inr (.inl 7)), none, none, none, none, none] [] s Q := zJ_of (b := b33_0) (by rw [kBlk, kb_33]; rfl) h
set_option maxRecDepth 100000 in
theorem B33_13 {x : List Int} {d : Nat} {s : zSt} {Q : zQ} {x1 : Int} {x3 : Int} {x4 : Int} {o5 : Option zV}  (h : (x3 ≤ x4 → zJ x d 33 36 [some (.inr (.inl 7)), some (.inl x1), some (.inr (.inl 30)), some (.inl x3), some (.inl x4), o5] [] s Q) ∧ (¬ (x3 ≤ x4) → (0 : Int) ≤ x4 ∧ (x4 : Int) < 6 ∧ (zJ x d 33 13 [some (.inr (.inl 7)), some (.inl (wr (x1 + (s 30 (x4).toNat)))), some (.inr (.inl 30)), some (.inl x3), some (.inl (wr (x4 + 1))), some (.inl (s 30 (x4).toNat))] [] s Q))) : zJ x d 33 13 [some (.inr (.inl 7)), some (.inl x1), some (.inr (.inl 30)), some (.inl x3), some (.inl x4), o5] [] s Q := zJ_of (b := b33_13) (by rw [kBlk, kb_33]; rfl) h
set_option maxRecDepth 100000 in
theorem B33_36 {x : List Int} {d : Nat} {s : zSt} {Q : zQ} {x1 : Int} {x3 : Int} {x4 : Int} {o5 : Option zV}  (h : Q (some (.inl x1)) s) : zJ x d 33 36 [some (.inr (.inl 7)), some (.inl x1), some (.inr (.inl 30)), some (.inl x3), some (.inl x4), o5] [] s Q := zJ_of (b := b33_36) (by rw [kBlk, kb_33]; rfl) h
set_option maxRecDepth 100000 in
theorem N33 {x : List Int} {d : Nat} {s : zSt} {Q : zQ}  (h : zJ x d 33 0 [some (.inr (.inl 7)), none, none, none, none, none] [] s Q) : zE x (d + 1) 33 [.inr (.inl 7)] s Q := zE_of (n := 6) rfl rfl rfl rfl (fun h => (zLok_some (h _ (List.mem_of_getElem? (i := 0) rfl)) (zLok_none (zLok_none (zLok_none (zLok_none (zLok_none zLok_nil))))))) h
-- 34: PennyALap$Deed.lapRun
set_option maxRecDepth 100000 in
theorem kb_34 : kBls.getD 34 [] = c34 := rfl
set_option maxRecDepth 100000 in
theorem B34_0 {x : List Int} {d : Nat} {s : zSt} {Q : zQ} {x1 : Int} {x2 : Int}  (h : (x1 < 0 → zJ x d 34 54 [some (.inr (.inl 7)), some (.inl x1), some (.inl x2)] [] s Q) ∧ (¬ (x1 < 0) → (6 ≤ x1 → zJ x d 34 54 [some (.inr (.inl 7)), some (.inl x1), some (.inl x2)] [] s Q) ∧ (¬ (6 ≤ x1) → (0 : Int) ≤ x1 ∧ (x1 : Int) < 6 ∧ ((0 : Int) ≤ x1 ∧ (x1 : Int) < 6 ∧ ((0 : Int) ≤ x1 ∧ (x1 : Int) < 6 ∧ ((0 : Int) ≤ x1 ∧ (x1 : Int) < 6 ∧ (zJ x d 34 54 [some (.inr (.inl 7)), some (.inl x1), some (.inl x2)] [] (zU (zU (zU (zU s 7 3 (wr ((s 7 3) + 1))) 7 5 (wr ((s 7 5) + (wr (x2 - (s 31 (x1).toNat)))))) 30 (x1).toNat (wr ((s 30 (x1).toNat) + 1))) 31 (x1).toNat x2) Q))))))) : zJ x d 34 0 [some (.inr (.inl 7)), some (.inl x1), some (.inl x2)] [] s Q := zJ_of (b := b34_0) (by rw [kBlk, kb_34]; rfl) h
set_option maxRecDepth 100000 in
theorem B34_54 {x : List Int} {d : Nat} {s : zSt} {Q : zQ} {x1 : Int} {x2 : Int}  (h : Q none s) : zJ x d 34 54 [some (.inr (.inl 7)), some (.inl x1), some (.inl x2)] [] s Q := zJ_of (b := b34_54) (by rw [kBlk, kb_34]; rfl) h
set_option maxRecDepth 100000 in
theorem N34 {x : List Int} {d : Nat} {s : zSt} {Q : zQ} {x1 : Int} {x2 : Int} (h : zJ x d 34 0 [some (.inr (.inl 7)), some (.inl x1), some (.inl x2)] [] s Q) : zE x (d + 1) 34 [.inr (.inl 7), .inl x1, .inl x2] s Q := zE_of (n := 3) rfl rfl rfl rfl (fun h => (zLok_some (h _ (List.mem_of_getElem? (i := 0) rfl)) (zLok_some (h _ (List.mem_of_getElem? (i := 1) rfl)) (zLok_some (h _ (List.mem_of_getElem? (i := 2) rfl)) zLok_nil)))) h
-- 35: PennyALap$Deed.asked
set_option maxRecDepth 100000 in
theorem kb_35 : kBls.getD 35 [] = c35 := rfl
set_option maxRecDepth 100000 in
theorem B35_0 {x : List Int} {d : Nat} {s : zSt} {Q : zQ} {x1 : Int} {x2 : Int} {x3 : Int}  (h : (x1 < 0 → zJ x d 35 48 [some (.inr (.inl 7)), some (.inl x1), some (.inl x2), some (.inl x3)] [] s Q) ∧ (¬ (x1 < 0) → (16 ≤ x1 → zJ x d 35 48 [some (.inr (.inl 7)), some (.inl x1), some (.inl x2), some (.inl x3)] [] s Q) ∧ (¬ (16 ≤ x1) → (0 : Int) ≤ x1 ∧ (x1 : Int) < 16 ∧ ((0 : Int) ≤ x1 ∧ (x1 : Int) < 16 ∧ ((x3 = 0 → zJ x d 35 43 [some (.inr (.inl 7)), some (.inl x1), some (.inl x2), some (.inl x3)] [.inl (s 7 7), .inr (.inl 7)] (zU (zU s 32 (x1).toNat (wr ((s 32 (x1).toNat) + x2))) 7 4 (wr ((s 7 4) + x2))) Q) ∧ (¬ (x3 = 0) → zJ x d 35 44 [some (.inr (.inl 7)), some (.inl x1), some (.inl x2), some (.inl x3)] [.inl 1, .inl (s 7 7), .inr (.inl 7)] (zU (zU s 32 (x1).toNat (wr ((s 32 (x1).toNat) + x2))) 7 4 (wr ((s 7 4) + x2))) Q)))))) : zJ x d 35 0 [some (.inr (.inl 7)), some (.inl x1), some (.inl x2), some (.inl x3)] [] s Q := zJ_of (b := b35_0) (by rw [kBlk, kb_35]; rfl) h
set_option maxRecDepth 100000 in
theorem B35_43 {x : List Int} {d : Nat} {s : zSt} {Q : zQ} {x1 : Int} {x2 : Int} {x3 : Int} {y0 : Int}  (h : zJ x d 35 44 [some (.inr (.inl 7)), some (.inl x1), some (.inl x2), some (.inl x3)] [.inl 0, .inl y0, .inr (.inl 7)] s Q) : zJ x d 35 43 [some (.inr (.inl 7)), some (.inl x1), some (.inl x2), some (.inl x3)] [.inl y0, .inr (.inl 7)] s Q := zJ_of (b := b35_43) (by rw [kBlk, kb_35]; rfl) h
set_option maxRecDepth 100000 in
theorem B35_44 {x : List Int} {d : Nat} {s : zSt} {Q : zQ} {x1 : Int} {x2 : Int} {x3 : Int} {y0 : Int} {y1 : Int}  (h : zJ x d 35 48 [some (.inr (.inl 7)), some (.inl x1), some (.inl x2), some (.inl x3)] [] (zU s 7 7 (wr (y1 + y0))) Q) : zJ x d 35 44 [some (.inr (.inl 7)), some (.inl x1), some (.inl x2), some (.inl x3)] [.inl y0, .inl y1, .inr (.inl 7)] s Q := zJ_of (b := b35_44) (by rw [kBlk, kb_35]; rfl) h
set_option maxRecDepth 100000 in
theorem B35_48 {x : List Int} {d : Nat} {s : zSt} {Q : zQ} {x1 : Int} {x2 : Int} {x3 : Int}  (h : Q none s) : zJ x d 35 48 [some (.inr (.inl 7)), some (.inl x1), some (.inl x2), some (.inl x3)] [] s Q := zJ_of (b := b35_48) (by rw [kBlk, kb_35]; rfl) h
set_option maxRecDepth 100000 in
theorem N35 {x : List Int} {d : Nat} {s : zSt} {Q : zQ} {x1 : Int} {x2 : Int} {x3 : Int} (h : zJ x d 35 0 [some (.inr (.inl 7)), some (.inl x1), some (.inl x2), some (.inl x3)] [] s Q) : zE x (d + 1) 35 [.inr (.inl 7), .inl x1, .inl x2, .inl x3] s Q := zE_of (n := 4) rfl rfl rfl rfl (fun h => (zLok_some (h _ (List.mem_of_getElem? (i := 0) rfl)) (zLok_some (h _ (List.mem_of_getElem? (i := 1) rfl)) (zLok_some (h _ (List.mem_of_getElem? (i := 2) rfl)) (zLok_some (h _ (List.mem_of_getElem? (i := 3) rfl)) zLok_nil))))) h
-- 36: PennyALap$Deed.newField
set_option maxRecDepth 100000 in
theorem kb_36 : kBls.getD 36 [] = c36 := rfl
set_option maxRecDepth 100000 in
theorem B36_0 {x : List Int} {d : Nat} {s : zSt} {Q : zQ}   (h : zJ x d 36 2 [some (.inr (.inl 7)), some (.inl 0)] [] s Q) : zJ x d 36 0 [some (.inr (.inl 7)), none] [] s Q := zJ_of (b := b36_0) (by rw [kBlk, kb_36]; rfl) h
set_option maxRecDepth 100000 in
theorem B36_2 {x : List Int} {d : Nat} {s : zSt} {Q : zQ} {x1 : Int}  (h : (6 ≤ x1 → zJ x d 36 28 [some (.inr (.inl 7)), some (.inl x1)] [] s Q) ∧ (¬ (6 ≤ x1) → (0 : Int) ≤ x1 ∧ (x1 : Int) < 6 ∧ ((0 : Int) ≤ x1 ∧ (x1 : Int) < 6 ∧ (zJ x d 36 2 [some (.inr (.inl 7)), some (.inl (wr (x1 + 1)))] [] (zU (zU s 30 (x1).toNat 0) 31 (x1).toNat 0) Q)))) : zJ x d 36 2 [some (.inr (.inl 7)), some (.inl x1)] [] s Q := zJ_of (b := b36_2) (by rw [kBlk, kb_36]; rfl) h
set_option maxRecDepth 100000 in
theorem B36_28 {x : List Int} {d : Nat} {s : zSt} {Q : zQ} {x1 : Int}  (h : zJ x d 36 30 [some (.inr (.inl 7)), some (.inl 0)] [] s Q) : zJ x d 36 28 [some (.inr (.inl 7)), some (.inl x1)] [] s Q := zJ_of (b := b36_28) (by rw [kBlk, kb_36]; rfl) h
set_option maxRecDepth 100000 in
theorem B36_30 {x : List Int} {d : Nat} {s : zSt} {Q : zQ} {x1 : Int}  (h : (16 ≤ x1 → zJ x d 36 49 [some (.inr (.inl 7)), some (.inl x1)] [] s Q) ∧ (¬ (16 ≤ x1) → (0 : Int) ≤ x1 ∧ (x1 : Int) < 16 ∧ (zJ x d 36 30 [some (.inr (.inl 7)), some (.inl (wr (x1 + 1)))] [] (zU s 32 (x1).toNat 0) Q))) : zJ x d 36 30 [some (.inr (.inl 7)), some (.inl x1)] [] s Q := zJ_of (b := b36_30) (by rw [kBlk, kb_36]; rfl) h
set_option maxRecDepth 100000 in
theorem B36_49 {x : List Int} {d : Nat} {s : zSt} {Q : zQ} {x1 : Int}  (h : Q none (zU s 7 6 (wr ((s 7 6) + 1)))) : zJ x d 36 49 [some (.inr (.inl 7)), some (.inl x1)] [] s Q := zJ_of (b := b36_49) (by rw [kBlk, kb_36]; rfl) h
set_option maxRecDepth 100000 in
theorem N36 {x : List Int} {d : Nat} {s : zSt} {Q : zQ}  (h : zJ x d 36 0 [some (.inr (.inl 7)), none] [] s Q) : zE x (d + 1) 36 [.inr (.inl 7)] s Q := zE_of (n := 2) rfl rfl rfl rfl (fun h => (zLok_some (h _ (List.mem_of_getElem? (i := 0) rfl)) (zLok_none zLok_nil))) h
-- 37a: PennyALap$Deed.becomeLike
set_option maxRecDepth 100000 in
theorem kb_37 : kBls.getD 37 [] = c37 := rfl
set_option maxRecDepth 100000 in
theorem B37a_0 {x : List Int} {d : Nat} {s : zSt} {Q : zQ}   (h : (0 : Int) ≤ 0 ∧ (0 : Int) ≤ 0 ∧ (0 : Int) ≤ 6 ∧ (0 + 6 : Int) ≤ 6 ∧ (0 + 6 : Int) ≤ 6 ∧ ((0 : Int) ≤ 0 ∧ (0 : Int) ≤ 0 ∧ (0 : Int) ≤ 6 ∧ (0 + 6 : Int) ≤ 6 ∧ (0 + 6 : Int) ≤ 6 ∧ ((0 : Int) ≤ 0 ∧ (0 : Int) ≤ 0 ∧ (0 : Int) ≤ 16 ∧ (0 + 16 : Int) ≤ 16 ∧ (0 + 16 : Int) ≤ 16 ∧ (Q none (zU (zU (zU (zU (zU (zF (zF (zF s 30 (zCpF (s 33) (s 30) 0 0 6)) 31 (zCpF (s 34) (s 31) 0 0 6)) 32 (zCpF (s 35) (s 32) 0 0 16)) 7 3 (s 8 3)) 7 4 (s 8 4)) 7 5 (s 8 5)) 7 6 (s 8 6)) 7 7 (s 8 7)))))) : zJ x d 37 0 [some (.inr (.inl 7)), some (.inr (.inl 8))] [] s Q := zJ_of (b := b37_0) (by rw [kBlk, kb_37]; rfl) h
set_option maxRecDepth 100000 in
theorem N37a {x : List Int} {d : Nat} {s : zSt} {Q : zQ}  (h : zJ x d 37 0 [some (.inr (.inl 7)), some (.inr (.inl 8))] [] s Q) : zE x (d + 1) 37 [.inr (.inl 7), .inr (.inl 8)] s Q := zE_of (n := 2) rfl rfl rfl rfl (fun h => (zLok_some (h _ (List.mem_of_getElem? (i := 0) rfl)) (zLok_some (h _ (List.mem_of_getElem? (i := 1) rfl)) zLok_nil))) h
-- 37b: PennyALap$Deed.becomeLike
set_option maxRecDepth 100000 in
theorem B37b_0 {x : List Int} {d : Nat} {s : zSt} {Q : zQ}   (h : (0 : Int) ≤ 0 ∧ (0 : Int) ≤ 0 ∧ (0 : Int) ≤ 6 ∧ (0 + 6 : Int) ≤ 6 ∧ (0 + 6 : Int) ≤ 6 ∧ ((0 : Int) ≤ 0 ∧ (0 : Int) ≤ 0 ∧ (0 : Int) ≤ 6 ∧ (0 + 6 : Int) ≤ 6 ∧ (0 + 6 : Int) ≤ 6 ∧ ((0 : Int) ≤ 0 ∧ (0 : Int) ≤ 0 ∧ (0 : Int) ≤ 16 ∧ (0 + 16 : Int) ≤ 16 ∧ (0 + 16 : Int) ≤ 16 ∧ (Q none (zU (zU (zU (zU (zU (zF (zF (zF s 33 (zCpF (s 30) (s 33) 0 0 6)) 34 (zCpF (s 31) (s 34) 0 0 6)) 35 (zCpF (s 32) (s 35) 0 0 16)) 8 3 (s 7 3)) 8 4 (s 7 4)) 8 5 (s 7 5)) 8 6 (s 7 6)) 8 7 (s 7 7)))))) : zJ x d 37 0 [some (.inr (.inl 8)), some (.inr (.inl 7))] [] s Q := zJ_of (b := b37_0) (by rw [kBlk, kb_37]; rfl) h
set_option maxRecDepth 100000 in
theorem N37b {x : List Int} {d : Nat} {s : zSt} {Q : zQ}  (h : zJ x d 37 0 [some (.inr (.inl 8)), some (.inr (.inl 7))] [] s Q) : zE x (d + 1) 37 [.inr (.inl 8), .inr (.inl 7)] s Q := zE_of (n := 2) rfl rfl rfl rfl (fun h => (zLok_some (h _ (List.mem_of_getElem? (i := 0) rfl)) (zLok_some (h _ (List.mem_of_getElem? (i := 1) rfl)) zLok_nil))) h
-- 38: PennyALap$Folk.childCount
set_option maxRecDepth 100000 in
theorem kb_38 : kBls.getD 38 [] = c38 := rfl
set_option maxRecDepth 100000 in
theorem B38_0 {x : List Int} {d : Nat} {s : zSt} {Q : zQ}   (h : Q (some (.inl (s 2 3))) s) : zJ x d 38 0 [some (.inr (.inl 2))] [] s Q := zJ_of (b := b38_0) (by rw [kBlk, kb_38]; rfl) h
set_option maxRecDepth 100000 in
theorem N38 {x : List Int} {d : Nat} {s : zSt} {Q : zQ}  (h : zJ x d 38 0 [some (.inr (.inl 2))] [] s Q) : zE x (d + 1) 38 [.inr (.inl 2)] s Q := zE_of (n := 1) rfl rfl rfl rfl (fun h => (zLok_some (h _ (List.mem_of_getElem? (i := 0) rfl)) zLok_nil)) h
-- 39: PennyALap$Folk.sponsorCount
set_option maxRecDepth 100000 in
theorem kb_39 : kBls.getD 39 [] = c39 := rfl
set_option maxRecDepth 100000 in
theorem B39_0 {x : List Int} {d : Nat} {s : zSt} {Q : zQ}   (h : Q (some (.inl (s 2 4))) s) : zJ x d 39 0 [some (.inr (.inl 2))] [] s Q := zJ_of (b := b39_0) (by rw [kBlk, kb_39]; rfl) h
set_option maxRecDepth 100000 in
theorem N39 {x : List Int} {d : Nat} {s : zSt} {Q : zQ}  (h : zJ x d 39 0 [some (.inr (.inl 2))] [] s Q) : zE x (d + 1) 39 [.inr (.inl 2)] s Q := zE_of (n := 1) rfl rfl rfl rfl (fun h => (zLok_some (h _ (List.mem_of_getElem? (i := 0) rfl)) zLok_nil)) h
-- 40: PennyALap$Folk.isChild
set_option maxRecDepth 100000 in
theorem kb_40 : kBls.getD 40 [] = c40 := rfl
set_option maxRecDepth 100000 in
theorem B40_0 {x : List Int} {d : Nat} {s : zSt} {Q : zQ} {x1 : Int}  (h : (x1 < 0 → zJ x d 40 16 [some (.inr (.inl 2)), some (.inl x1)] [] s Q) ∧ (¬ (x1 < 0) → (s 2 3 ≤ x1 → zJ x d 40 16 [some (.inr (.inl 2)), some (.inl x1)] [] s Q) ∧ (¬ (s 2 3 ≤ x1) → zJ x d 40 17 [some (.inr (.inl 2)), some (.inl x1)] [.inl 1] s Q))) : zJ x d 40 0 [some (.inr (.inl 2)), some (.inl x1)] [] s Q := zJ_of (b := b40_0) (by rw [kBlk, kb_40]; rfl) h
set_option maxRecDepth 100000 in
theorem B40_16 {x : List Int} {d : Nat} {s : zSt} {Q : zQ} {x1 : Int}  (h : zJ x d 40 17 [some (.inr (.inl 2)), some (.inl x1)] [.inl 0] s Q) : zJ x d 40 16 [some (.inr (.inl 2)), some (.inl x1)] [] s Q := zJ_of (b := b40_16) (by rw [kBlk, kb_40]; rfl) h
set_option maxRecDepth 100000 in
theorem B40_17 {x : List Int} {d : Nat} {s : zSt} {Q : zQ} {x1 : Int} {y0 : Int}  (h : ((y0 : Int) = 0 ∨ (y0 : Int) = 1) ∧ Q (some (.inl y0)) s) : zJ x d 40 17 [some (.inr (.inl 2)), some (.inl x1)] [.inl y0] s Q := zJ_of (b := b40_17) (by rw [kBlk, kb_40]; rfl) h
set_option maxRecDepth 100000 in
theorem N40 {x : List Int} {d : Nat} {s : zSt} {Q : zQ} {x1 : Int} (h : zJ x d 40 0 [some (.inr (.inl 2)), some (.inl x1)] [] s Q) : zE x (d + 1) 40 [.inr (.inl 2), .inl x1] s Q := zE_of (n := 2) rfl rfl rfl rfl (fun h => (zLok_some (h _ (List.mem_of_getElem? (i := 0) rfl)) (zLok_some (h _ (List.mem_of_getElem? (i := 1) rfl)) zLok_nil))) h
-- 41: PennyALap$Folk.isSponsor
set_option maxRecDepth 100000 in
theorem kb_41 : kBls.getD 41 [] = c41 := rfl
set_option maxRecDepth 100000 in
theorem B41_0 {x : List Int} {d : Nat} {s : zSt} {Q : zQ} {x1 : Int}  (h : (x1 < 0 → zJ x d 41 16 [some (.inr (.inl 2)), some (.inl x1)] [] s Q) ∧ (¬ (x1 < 0) → (s 2 4 ≤ x1 → zJ x d 41 16 [some (.inr (.inl 2)), some (.inl x1)] [] s Q) ∧ (¬ (s 2 4 ≤ x1) → zJ x d 41 17 [some (.inr (.inl 2)), some (.inl x1)] [.inl 1] s Q))) : zJ x d 41 0 [some (.inr (.inl 2)), some (.inl x1)] [] s Q := zJ_of (b := b41_0) (by rw [kBlk, kb_41]; rfl) h
set_option maxRecDepth 100000 in
theorem B41_16 {x : List Int} {d : Nat} {s : zSt} {Q : zQ} {x1 : Int}  (h : zJ x d 41 17 [some (.inr (.inl 2)), some (.inl x1)] [.inl 0] s Q) : zJ x d 41 16 [some (.inr (.inl 2)), some (.inl x1)] [] s Q := zJ_of (b := b41_16) (by rw [kBlk, kb_41]; rfl) h
set_option maxRecDepth 100000 in
theorem B41_17 {x : List Int} {d : Nat} {s : zSt} {Q : zQ} {x1 : Int} {y0 : Int}  (h : ((y0 : Int) = 0 ∨ (y0 : Int) = 1) ∧ Q (some (.inl y0)) s) : zJ x d 41 17 [some (.inr (.inl 2)), some (.inl x1)] [.inl y0] s Q := zJ_of (b := b41_17) (by rw [kBlk, kb_41]; rfl) h
set_option maxRecDepth 100000 in
theorem N41 {x : List Int} {d : Nat} {s : zSt} {Q : zQ} {x1 : Int} (h : zJ x d 41 0 [some (.inr (.inl 2)), some (.inl x1)] [] s Q) : zE x (d + 1) 41 [.inr (.inl 2), .inl x1] s Q := zE_of (n := 2) rfl rfl rfl rfl (fun h => (zLok_some (h _ (List.mem_of_getElem? (i := 0) rfl)) (zLok_some (h _ (List.mem_of_getElem? (i := 1) rfl)) zLok_nil))) h
-- 42: PennyALap$Folk.childOf
set_option maxRecDepth 100000 in
theorem kb_42 : kBls.getD 42 [] = c42 := rfl
set_option maxRecDepth 100000 in
theorem B42_0 {x : List Int} {d : Nat} {s : zSt} {Q : zQ} {x1 : Int}  (h : zE x d 41 [.inr (.inl 2), .inl x1] s (fun r s1 => zJ x d 42 5 [some (.inr (.inl 2)), some (.inl x1)] (zAp r []) s1 Q)) : zJ x d 42 0 [some (.inr (.inl 2)), some (.inl x1)] [] s Q := zJ_of (b := b42_0) (by rw [kBlk, kb_42]; rfl) h
set_option maxRecDepth 100000 in
theorem B42_5 {x : List Int} {d : Nat} {s : zSt} {Q : zQ} {x1 : Int} {y0 : Int}  (h : (y0 = 0 → zJ x d 42 17 [some (.inr (.inl 2)), some (.inl x1)] [] s Q) ∧ (¬ (y0 = 0) → (0 : Int) ≤ x1 ∧ (x1 : Int) < 16 ∧ (zJ x d 42 18 [some (.inr (.inl 2)), some (.inl x1)] [.inl (s 17 (x1).toNat)] s Q))) : zJ x d 42 5 [some (.inr (.inl 2)), some (.inl x1)] [.inl y0] s Q := zJ_of (b := b42_5) (by rw [kBlk, kb_42]; rfl) h
set_option maxRecDepth 100000 in
theorem B42_17 {x : List Int} {d : Nat} {s : zSt} {Q : zQ} {x1 : Int}  (h : zJ x d 42 18 [some (.inr (.inl 2)), some (.inl x1)] [.inl (-1)] s Q) : zJ x d 42 17 [some (.inr (.inl 2)), some (.inl x1)] [] s Q := zJ_of (b := b42_17) (by rw [kBlk, kb_42]; rfl) h
set_option maxRecDepth 100000 in
theorem B42_18 {x : List Int} {d : Nat} {s : zSt} {Q : zQ} {x1 : Int} {y0 : Int}  (h : Q (some (.inl y0)) s) : zJ x d 42 18 [some (.inr (.inl 2)), some (.inl x1)] [.inl y0] s Q := zJ_of (b := b42_18) (by rw [kBlk, kb_42]; rfl) h
set_option maxRecDepth 100000 in
theorem N42 {x : List Int} {d : Nat} {s : zSt} {Q : zQ} {x1 : Int} (h : zJ x d 42 0 [some (.inr (.inl 2)), some (.inl x1)] [] s Q) : zE x (d + 1) 42 [.inr (.inl 2), .inl x1] s Q := zE_of (n := 2) rfl rfl rfl rfl (fun h => (zLok_some (h _ (List.mem_of_getElem? (i := 0) rfl)) (zLok_some (h _ (List.mem_of_getElem? (i := 1) rfl)) zLok_nil))) h
-- 43: PennyALap$Folk.place
set_option maxRecDepth 100000 in
theorem kb_43 : kBls.getD 43 [] = c43 := rfl
set_option maxRecDepth 100000 in
theorem B43_0 {x : List Int} {d : Nat} {s : zSt} {Q : zQ} {x1 : Int} {x2 : Int}  (h : (x1 < 0 → zJ x d 43 14 [some (.inr (.inl 2)), some (.inl x1), some (.inl x2)] [] s Q) ∧ (¬ (x1 < 0) → (x2 < 0 → zJ x d 43 14 [some (.inr (.inl 2)), some (.inl x1), some (.inl x2)] [] s Q) ∧ (¬ (x2 < 0) → (x2 ≤ 12 → zJ x d 43 16 [some (.inr (.inl 2)), some (.inl x1), some (.inl x2)] [] s Q) ∧ (¬ (x2 ≤ 12) → zJ x d 43 14 [some (.inr (.inl 2)), some (.inl x1), some (.inl x2)] [] s Q)))) : zJ x d 43 0 [some (.inr (.inl 2)), some (.inl x1), some (.inl x2)] [] s Q := zJ_of (b := b43_0) (by rw [kBlk, kb_43]; rfl) h
set_option maxRecDepth 100000 in
theorem B43_14 {x : List Int} {d : Nat} {s : zSt} {Q : zQ} {x1 : Int} {x2 : Int}  (h : Q (some (.inl (-1))) s) : zJ x d 43 14 [some (.inr (.inl 2)), some (.inl x1), some (.inl x2)] [] s Q := zJ_of (b := b43_14) (by rw [kBlk, kb_43]; rfl) h
set_option maxRecDepth 100000 in
theorem B43_16 {x : List Int} {d : Nat} {s : zSt} {Q : zQ} {x1 : Int} {x2 : Int}  (h : (3 < x2 → zJ x d 43 39 [some (.inr (.inl 2)), some (.inl x1), some (.inl x2)] [] s Q) ∧ (¬ (3 < x2) → (s 2 3 ≤ x1 → zJ x d 43 37 [some (.inr (.inl 2)), some (.inl x1), some (.inl x2)] [] s Q) ∧ (¬ (s 2 3 ≤ x1) → zJ x d 43 38 [some (.inr (.inl 2)), some (.inl x1), some (.inl x2)] [.inl (wr ((wr (x1 * 4)) + x2))] s Q))) : zJ x d 43 16 [some (.inr (.inl 2)), some (.inl x1), some (.inl x2)] [] s Q := zJ_of (b := b43_16) (by rw [kBlk, kb_43]; rfl) h
set_option maxRecDepth 100000 in
theorem B43_37 {x : List Int} {d : Nat} {s : zSt} {Q : zQ} {x1 : Int} {x2 : Int}  (h : zJ x d 43 38 [some (.inr (.inl 2)), some (.inl x1), some (.inl x2)] [.inl (-1)] s Q) : zJ x d 43 37 [some (.inr (.inl 2)), some (.inl x1), some (.inl x2)] [] s Q := zJ_of (b := b43_37) (by rw [kBlk, kb_43]; rfl) h
set_option maxRecDepth 100000 in
theorem B43_38 {x : List Int} {d : Nat} {s : zSt} {Q : zQ} {x1 : Int} {x2 : Int} {y0 : Int}  (h : Q (some (.inl y0)) s) : zJ x d 43 38 [some (.inr (.inl 2)), some (.inl x1), some (.inl x2)] [.inl y0] s Q := zJ_of (b := b43_38) (by rw [kBlk, kb_43]; rfl) h
set_option maxRecDepth 100000 in
theorem B43_39 {x : List Int} {d : Nat} {s : zSt} {Q : zQ} {x1 : Int} {x2 : Int}  (h : (8 < x2 → zJ x d 43 68 [some (.inr (.inl 2)), some (.inl x1), some (.inl x2)] [] s Q) ∧ (¬ (8 < x2) → (s 2 4 ≤ x1 → zJ x d 43 66 [some (.inr (.inl 2)), some (.inl x1), some (.inl x2)] [] s Q) ∧ (¬ (s 2 4 ≤ x1) → zJ x d 43 67 [some (.inr (.inl 2)), some (.inl x1), some (.inl x2)] [.inl (wr ((wr ((wr (24 + (wr (x1 * 5)))) + x2)) - 4))] s Q))) : zJ x d 43 39 [some (.inr (.inl 2)), some (.inl x1), some (.inl x2)] [] s Q := zJ_of (b := b43_39) (by rw [kBlk, kb_43]; rfl) h
set_option maxRecDepth 100000 in
theorem B43_66 {x : List Int} {d : Nat} {s : zSt} {Q : zQ} {x1 : Int} {x2 : Int}  (h : zJ x d 43 67 [some (.inr (.inl 2)), some (.inl x1), some (.inl x2)] [.inl (-1)] s Q) : zJ x d 43 66 [some (.inr (.inl 2)), some (.inl x1), some (.inl x2)] [] s Q := zJ_of (b := b43_66) (by rw [kBlk, kb_43]; rfl) h
set_option maxRecDepth 100000 in
theorem B43_67 {x : List Int} {d : Nat} {s : zSt} {Q : zQ} {x1 : Int} {x2 : Int} {y0 : Int}  (h : Q (some (.inl y0)) s) : zJ x d 43 67 [some (.inr (.inl 2)), some (.inl x1), some (.inl x2)] [.inl y0] s Q := zJ_of (b := b43_67) (by rw [kBlk, kb_43]; rfl) h
set_option maxRecDepth 100000 in
theorem B43_68 {x : List Int} {d : Nat} {s : zSt} {Q : zQ} {x1 : Int} {x2 : Int}  (h : (¬ x1 = 0 → zJ x d 43 82 [some (.inr (.inl 2)), some (.inl x1), some (.inl x2)] [] s Q) ∧ (¬ (¬ x1 = 0) → zJ x d 43 83 [some (.inr (.inl 2)), some (.inl x1), some (.inl x2)] [.inl (wr ((wr (104 + x2)) - 9))] s Q)) : zJ x d 43 68 [some (.inr (.inl 2)), some (.inl x1), some (.inl x2)] [] s Q := zJ_of (b := b43_68) (by rw [kBlk, kb_43]; rfl) h
set_option maxRecDepth 100000 in
theorem B43_82 {x : List Int} {d : Nat} {s : zSt} {Q : zQ} {x1 : Int} {x2 : Int}  (h : zJ x d 43 83 [some (.inr (.inl 2)), some (.inl x1), some (.inl x2)] [.inl (-1)] s Q) : zJ x d 43 82 [some (.inr (.inl 2)), some (.inl x1), some (.inl x2)] [] s Q := zJ_of (b := b43_82) (by rw [kBlk, kb_43]; rfl) h
set_option maxRecDepth 100000 in
theorem B43_83 {x : List Int} {d : Nat} {s : zSt} {Q : zQ} {x1 : Int} {x2 : Int} {y0 : Int}  (h : Q (some (.inl y0)) s) : zJ x d 43 83 [some (.inr (.inl 2)), some (.inl x1), some (.inl x2)] [.inl y0] s Q := zJ_of (b := b43_83) (by rw [kBlk, kb_43]; rfl) h
set_option maxRecDepth 100000 in
theorem N43 {x : List Int} {d : Nat} {s : zSt} {Q : zQ} {x1 : Int} {x2 : Int} (h : zJ x d 43 0 [some (.inr (.inl 2)), some (.inl x1), some (.inl x2)] [] s Q) : zE x (d + 1) 43 [.inr (.inl 2), .inl x1, .inl x2] s Q := zE_of (n := 3) rfl rfl rfl rfl (fun h => (zLok_some (h _ (List.mem_of_getElem? (i := 0) rfl)) (zLok_some (h _ (List.mem_of_getElem? (i := 1) rfl)) (zLok_some (h _ (List.mem_of_getElem? (i := 2) rfl)) zLok_nil)))) h
-- 44: PennyALap$Folk.at
set_option maxRecDepth 100000 in
theorem kb_44 : kBls.getD 44 [] = c44 := rfl
set_option maxRecDepth 100000 in
theorem B44_0 {x : List Int} {d : Nat} {s : zSt} {Q : zQ} {x1 : Int}  (h : (x1 < 0 → zJ x d 44 22 [some (.inr (.inl 2)), some (.inl x1)] [] s Q) ∧ (¬ (x1 < 0) → (108 ≤ x1 → zJ x d 44 22 [some (.inr (.inl 2)), some (.inl x1)] [] s Q) ∧ (¬ (108 ≤ x1) → (0 : Int) ≤ x1 ∧ (x1 : Int) < 108 ∧ (zJ x d 44 23 [some (.inr (.inl 2)), some (.inl x1)] [.inl (s 16 (x1).toNat)] s Q)))) : zJ x d 44 0 [some (.inr (.inl 2)), some (.inl x1)] [] s Q := zJ_of (b := b44_0) (by rw [kBlk, kb_44]; rfl) h
set_option maxRecDepth 100000 in
theorem B44_22 {x : List Int} {d : Nat} {s : zSt} {Q : zQ} {x1 : Int}  (h : zJ x d 44 23 [some (.inr (.inl 2)), some (.inl x1)] [.inl 0] s Q) : zJ x d 44 22 [some (.inr (.inl 2)), some (.inl x1)] [] s Q := zJ_of (b := b44_22) (by rw [kBlk, kb_44]; rfl) h
set_option maxRecDepth 100000 in
theorem B44_23 {x : List Int} {d : Nat} {s : zSt} {Q : zQ} {x1 : Int} {y0 : Int}  (h : Q (some (.inl y0)) s) : zJ x d 44 23 [some (.inr (.inl 2)), some (.inl x1)] [.inl y0] s Q := zJ_of (b := b44_23) (by rw [kBlk, kb_44]; rfl) h
set_option maxRecDepth 100000 in
theorem N44 {x : List Int} {d : Nat} {s : zSt} {Q : zQ} {x1 : Int} (h : zJ x d 44 0 [some (.inr (.inl 2)), some (.inl x1)] [] s Q) : zE x (d + 1) 44 [.inr (.inl 2), .inl x1] s Q := zE_of (n := 2) rfl rfl rfl rfl (fun h => (zLok_some (h _ (List.mem_of_getElem? (i := 0) rfl)) (zLok_some (h _ (List.mem_of_getElem? (i := 1) rfl)) zLok_nil))) h
-- 45: PennyALap$Folk.become
set_option maxRecDepth 100000 in
theorem kb_45 : kBls.getD 45 [] = c45 := rfl
set_option maxRecDepth 100000 in
theorem B45_0 {x : List Int} {d : Nat} {s : zSt} {Q : zQ} {x1 : Int} {x2 : Int}  (h : (x1 < 0 → zJ x d 45 20 [some (.inr (.inl 2)), some (.inl x1), some (.inl x2)] [] s Q) ∧ (¬ (x1 < 0) → (108 ≤ x1 → zJ x d 45 20 [some (.inr (.inl 2)), some (.inl x1), some (.inl x2)] [] s Q) ∧ (¬ (108 ≤ x1) → (0 : Int) ≤ x1 ∧ (x1 : Int) < 108 ∧ (zJ x d 45 20 [some (.inr (.inl 2)), some (.inl x1), some (.inl x2)] [] (zU s 16 (x1).toNat x2) Q)))) : zJ x d 45 0 [some (.inr (.inl 2)), some (.inl x1), some (.inl x2)] [] s Q := zJ_of (b := b45_0) (by rw [kBlk, kb_45]; rfl) h
set_option maxRecDepth 100000 in
theorem B45_20 {x : List Int} {d : Nat} {s : zSt} {Q : zQ} {x1 : Int} {x2 : Int}  (h : Q none s) : zJ x d 45 20 [some (.inr (.inl 2)), some (.inl x1), some (.inl x2)] [] s Q := zJ_of (b := b45_20) (by rw [kBlk, kb_45]; rfl) h
set_option maxRecDepth 100000 in
theorem N45 {x : List Int} {d : Nat} {s : zSt} {Q : zQ} {x1 : Int} {x2 : Int} (h : zJ x d 45 0 [some (.inr (.inl 2)), some (.inl x1), some (.inl x2)] [] s Q) : zE x (d + 1) 45 [.inr (.inl 2), .inl x1, .inl x2] s Q := zE_of (n := 3) rfl rfl rfl rfl (fun h => (zLok_some (h _ (List.mem_of_getElem? (i := 0) rfl)) (zLok_some (h _ (List.mem_of_getElem? (i := 1) rfl)) (zLok_some (h _ (List.mem_of_getElem? (i := 2) rfl)) zLok_nil)))) h
-- 46: PennyALap$Folk.told
set_option maxRecDepth 100000 in
theorem kb_46 : kBls.getD 46 [] = c46 := rfl
set_option maxRecDepth 100000 in
theorem B46_0 {x : List Int} {d : Nat} {s : zSt} {Q : zQ} {x1 : Int} {x2 : Int}  (h : zE x d 43 [.inr (.inl 2), .inl x1, .inl x2] s (fun r s1 => zJ x d 46 7 [some (.inr (.inl 2)), some (.inl x1), some (.inl x2)] (zAp r [.inr (.inl 2)]) s1 Q)) : zJ x d 46 0 [some (.inr (.inl 2)), some (.inl x1), some (.inl x2)] [] s Q := zJ_of (b := b46_0) (by rw [kBlk, kb_46]; rfl) h
set_option maxRecDepth 100000 in
theorem B46_7 {x : List Int} {d : Nat} {s : zSt} {Q : zQ} {x1 : Int} {x2 : Int} {y0 : Int}  (h : zE x d 44 [.inr (.inl 2), .inl y0] s (fun r s1 => zJ x d 46 10 [some (.inr (.inl 2)), some (.inl x1), some (.inl x2)] (zAp r []) s1 Q)) : zJ x d 46 7 [some (.inr (.inl 2)), some (.inl x1), some (.inl x2)] [.inl y0, .inr (.inl 2)] s Q := zJ_of (b := b46_7) (by rw [kBlk, kb_46]; rfl) h
set_option maxRecDepth 100000 in
theorem B46_10 {x : List Int} {d : Nat} {s : zSt} {Q : zQ} {x1 : Int} {x2 : Int} {y0 : Int}  (h : Q (some (.inl y0)) s) : zJ x d 46 10 [some (.inr (.inl 2)), some (.inl x1), some (.inl x2)] [.inl y0] s Q := zJ_of (b := b46_10) (by rw [kBlk, kb_46]; rfl) h
set_option maxRecDepth 100000 in
theorem N46 {x : List Int} {d : Nat} {s : zSt} {Q : zQ} {x1 : Int} {x2 : Int} (h : zJ x d 46 0 [some (.inr (.inl 2)), some (.inl x1), some (.inl x2)] [] s Q) : zE x (d + 1) 46 [.inr (.inl 2), .inl x1, .inl x2] s Q := zE_of (n := 3) rfl rfl rfl rfl (fun h => (zLok_some (h _ (List.mem_of_getElem? (i := 0) rfl)) (zLok_some (h _ (List.mem_of_getElem? (i := 1) rfl)) (zLok_some (h _ (List.mem_of_getElem? (i := 2) rfl)) zLok_nil)))) h
-- 47: PennyALap$Folk.childComes
set_option maxRecDepth 100000 in
theorem kb_47 : kBls.getD 47 [] = c47 := rfl
set_option maxRecDepth 100000 in
theorem B47_0 {x : List Int} {d : Nat} {s : zSt} {Q : zQ} {x1 : Int}  (h : (s 2 3 < 6 → zJ x d 47 12 [some (.inr (.inl 2)), some (.inl x1), none, none] [] s Q) ∧ (¬ (s 2 3 < 6) → Q (some (.inl (-3))) s)) : zJ x d 47 0 [some (.inr (.inl 2)), some (.inl x1), none, none] [] s Q := zJ_of (b := b47_0) (by rw [kBlk, kb_47]; rfl) h
set_option maxRecDepth 100000 in
theorem B47_12 {x : List Int} {d : Nat} {s : zSt} {Q : zQ} {x1 : Int}  (h : zJ x d 47 29 [some (.inr (.inl 2)), some (.inl x1), some (.inl (s 2 3)), some (.inl 0)] [] (zU s 2 3 (wr ((s 2 3) + 1))) Q) : zJ x d 47 12 [some (.inr (.inl 2)), some (.inl x1), none, none] [] s Q := zJ_of (b := b47_12) (by rw [kBlk, kb_47]; rfl) h
set_option maxRecDepth 100000 in
theorem B47_29 {x : List Int} {d : Nat} {s : zSt} {Q : zQ} {x1 : Int} {x2 : Int} {x3 : Int}  (h : (3 < x3 → zJ x d 47 63 [some (.inr (.inl 2)), some (.inl x1), some (.inl x2), some (.inl x3)] [] s Q) ∧ (¬ (3 < x3) → zE x d 43 [.inr (.inl 2), .inl x2, .inl x3] s (fun r s1 => zJ x d 47 41 [some (.inr (.inl 2)), some (.inl x1), some (.inl x2), some (.inl x3)] (zAp r [.inr (.inl 2)]) s1 Q))) : zJ x d 47 29 [some (.inr (.inl 2)), some (.inl x1), some (.inl x2), some (.inl x3)] [] s Q := zJ_of (b := b47_29) (by rw [kBlk, kb_47]; rfl) h
set_option maxRecDepth 100000 in
theorem B47_41 {x : List Int} {d : Nat} {s : zSt} {Q : zQ} {x1 : Int} {x2 : Int} {x3 : Int} {y0 : Int}  (h : (¬ x3 = 0 → zJ x d 47 49 [some (.inr (.inl 2)), some (.inl x1), some (.inl x2), some (.inl x3)] [.inl y0, .inr (.inl 2)] s Q) ∧ (¬ (¬ x3 = 0) → zJ x d 47 54 [some (.inr (.inl 2)), some (.inl x1), some (.inl x2), some (.inl x3)] [.inl x1, .inl y0, .inr (.inl 2)] s Q)) : zJ x d 47 41 [some (.inr (.inl 2)), some (.inl x1), some (.inl x2), some (.inl x3)] [.inl y0, .inr (.inl 2)] s Q := zJ_of (b := b47_41) (by rw [kBlk, kb_47]; rfl) h
set_option maxRecDepth 100000 in
theorem B47_49 {x : List Int} {d : Nat} {s : zSt} {Q : zQ} {x1 : Int} {x2 : Int} {x3 : Int} {y0 : Int}  (h : (0 : Int) ≤ x3 ∧ (x3 : Int) < 13 ∧ (zJ x d 47 54 [some (.inr (.inl 2)), some (.inl x1), some (.inl x2), some (.inl x3)] [.inl (zFIRST.getD (x3).toNat 0), .inl y0, .inr (.inl 2)] s Q)) : zJ x d 47 49 [some (.inr (.inl 2)), some (.inl x1), some (.inl x2), some (.inl x3)] [.inl y0, .inr (.inl 2)] s Q := zJ_of (b := b47_49) (by rw [kBlk, kb_47]; rfl) h
set_option maxRecDepth 100000 in
theorem B47_54 {x : List Int} {d : Nat} {s : zSt} {Q : zQ} {x1 : Int} {x2 : Int} {x3 : Int} {y0 : Int} {y1 : Int}  (h : zE x d 45 [.inr (.inl 2), .inl y1, .inl y0] s (fun r s1 => zJ x d 47 57 [some (.inr (.inl 2)), some (.inl x1), some (.inl x2), some (.inl x3)] (zAp r []) s1 Q)) : zJ x d 47 54 [some (.inr (.inl 2)), some (.inl x1), some (.inl x2), some (.inl x3)] [.inl y0, .inl y1, .inr (.inl 2)] s Q := zJ_of (b := b47_54) (by rw [kBlk, kb_47]; rfl) h
set_option maxRecDepth 100000 in
theorem B47_57 {x : List Int} {d : Nat} {s : zSt} {Q : zQ} {x1 : Int} {x2 : Int} {x3 : Int}  (h : zJ x d 47 29 [some (.inr (.inl 2)), some (.inl x1), some (.inl x2), some (.inl (wr (x3 + 1)))] [] s Q) : zJ x d 47 57 [some (.inr (.inl 2)), some (.inl x1), some (.inl x2), some (.inl x3)] [] s Q := zJ_of (b := b47_57) (by rw [kBlk, kb_47]; rfl) h
set_option maxRecDepth 100000 in
theorem B47_63 {x : List Int} {d : Nat} {s : zSt} {Q : zQ} {x1 : Int} {x2 : Int} {x3 : Int}  (h : Q (some (.inl x2)) s) : zJ x d 47 63 [some (.inr (.inl 2)), some (.inl x1), some (.inl x2), some (.inl x3)] [] s Q := zJ_of (b := b47_63) (by rw [kBlk, kb_47]; rfl) h
set_option maxRecDepth 100000 in
theorem N47 {x : List Int} {d : Nat} {s : zSt} {Q : zQ} {x1 : Int} (h : zJ x d 47 0 [some (.inr (.inl 2)), some (.inl x1), none, none] [] s Q) : zE x (d + 1) 47 [.inr (.inl 2), .inl x1] s Q := zE_of (n := 4) rfl rfl rfl rfl (fun h => (zLok_some (h _ (List.mem_of_getElem? (i := 0) rfl)) (zLok_some (h _ (List.mem_of_getElem? (i := 1) rfl)) (zLok_none (zLok_none zLok_nil))))) h
-- 48: PennyALap$Folk.maySponsor
set_option maxRecDepth 100000 in
theorem kb_48 : kBls.getD 48 [] = c48 := rfl
set_option maxRecDepth 100000 in
theorem B48_0 {x : List Int} {d : Nat} {s : zSt} {Q : zQ} {x1 : Int} {x2 : Int} {x3 : Int}  (h : zE x d 40 [.inr (.inl 2), .inl x1] s (fun r s1 => zJ x d 48 5 [some (.inr (.inl 2)), some (.inl x1), some (.inl x2), some (.inl x3)] (zAp r []) s1 Q)) : zJ x d 48 0 [some (.inr (.inl 2)), some (.inl x1), some (.inl x2), some (.inl x3)] [] s Q := zJ_of (b := b48_0) (by rw [kBlk, kb_48]; rfl) h
set_option maxRecDepth 100000 in
theorem B48_5 {x : List Int} {d : Nat} {s : zSt} {Q : zQ} {x1 : Int} {x2 : Int} {x3 : Int} {y0 : Int}  (h : (y0 = 0 → zJ x d 48 46 [some (.inr (.inl 2)), some (.inl x1), some (.inl x2), some (.inl x3)] [] s Q) ∧ (¬ (y0 = 0) → (0 : Int) ≤ 4 ∧ (4 : Int) < 13 ∧ ((0 : Int) ≤ 4 ∧ (4 : Int) < 13 ∧ (zE x d 118 [.inl x2, .inl 0, .inl 200] s (fun r s1 => zJ x d 48 22 [some (.inr (.inl 2)), some (.inl x1), some (.inl x2), some (.inl x3)] (zAp r []) s1 Q))))) : zJ x d 48 5 [some (.inr (.inl 2)), some (.inl x1), some (.inl x2), some (.inl x3)] [.inl y0] s Q := zJ_of (b := b48_5) (by rw [kBlk, kb_48]; rfl) h
set_option maxRecDepth 100000 in
theorem B48_22 {x : List Int} {d : Nat} {s : zSt} {Q : zQ} {x1 : Int} {x2 : Int} {x3 : Int} {y0 : Int}  (h : (y0 = 0 → zJ x d 48 46 [some (.inr (.inl 2)), some (.inl x1), some (.inl x2), some (.inl x3)] [] s Q) ∧ (¬ (y0 = 0) → (0 : Int) ≤ 5 ∧ (5 : Int) < 13 ∧ ((0 : Int) ≤ 5 ∧ (5 : Int) < 13 ∧ (zE x d 118 [.inl x3, .inl 0, .inl 999] s (fun r s1 => zJ x d 48 39 [some (.inr (.inl 2)), some (.inl x1), some (.inl x2), some (.inl x3)] (zAp r []) s1 Q))))) : zJ x d 48 22 [some (.inr (.inl 2)), some (.inl x1), some (.inl x2), some (.inl x3)] [.inl y0] s Q := zJ_of (b := b48_22) (by rw [kBlk, kb_48]; rfl) h
set_option maxRecDepth 100000 in
theorem B48_39 {x : List Int} {d : Nat} {s : zSt} {Q : zQ} {x1 : Int} {x2 : Int} {x3 : Int} {y0 : Int}  (h : (y0 = 0 → zJ x d 48 46 [some (.inr (.inl 2)), some (.inl x1), some (.inl x2), some (.inl x3)] [] s Q) ∧ (¬ (y0 = 0) → zJ x d 48 47 [some (.inr (.inl 2)), some (.inl x1), some (.inl x2), some (.inl x3)] [.inl 1] s Q)) : zJ x d 48 39 [some (.inr (.inl 2)), some (.inl x1), some (.inl x2), some (.inl x3)] [.inl y0] s Q := zJ_of (b := b48_39) (by rw [kBlk, kb_48]; rfl) h
set_option maxRecDepth 100000 in
theorem B48_46 {x : List Int} {d : Nat} {s : zSt} {Q : zQ} {x1 : Int} {x2 : Int} {x3 : Int}  (h : zJ x d 48 47 [some (.inr (.inl 2)), some (.inl x1), some (.inl x2), some (.inl x3)] [.inl 0] s Q) : zJ x d 48 46 [some (.inr (.inl 2)), some (.inl x1), some (.inl x2), some (.inl x3)] [] s Q := zJ_of (b := b48_46) (by rw [kBlk, kb_48]; rfl) h
set_option maxRecDepth 100000 in
theorem B48_47 {x : List Int} {d : Nat} {s : zSt} {Q : zQ} {x1 : Int} {x2 : Int} {x3 : Int} {y0 : Int}  (h : ((y0 : Int) = 0 ∨ (y0 : Int) = 1) ∧ Q (some (.inl y0)) s) : zJ x d 48 47 [some (.inr (.inl 2)), some (.inl x1), some (.inl x2), some (.inl x3)] [.inl y0] s Q := zJ_of (b := b48_47) (by rw [kBlk, kb_48]; rfl) h
set_option maxRecDepth 100000 in
theorem N48 {x : List Int} {d : Nat} {s : zSt} {Q : zQ} {x1 : Int} {x2 : Int} {x3 : Int} (h : zJ x d 48 0 [some (.inr (.inl 2)), some (.inl x1), some (.inl x2), some (.inl x3)] [] s Q) : zE x (d + 1) 48 [.inr (.inl 2), .inl x1, .inl x2, .inl x3] s Q := zE_of (n := 4) rfl rfl rfl rfl (fun h => (zLok_some (h _ (List.mem_of_getElem? (i := 0) rfl)) (zLok_some (h _ (List.mem_of_getElem? (i := 1) rfl)) (zLok_some (h _ (List.mem_of_getElem? (i := 2) rfl)) (zLok_some (h _ (List.mem_of_getElem? (i := 3) rfl)) zLok_nil))))) h
-- 49: PennyALap$Folk.sponsorComes
set_option maxRecDepth 100000 in
theorem kb_49 : kBls.getD 49 [] = c49 := rfl
set_option maxRecDepth 100000 in
theorem B49_0 {x : List Int} {d : Nat} {s : zSt} {Q : zQ} {x1 : Int} {x2 : Int} {x3 : Int}  (h : (s 2 4 < 16 → zJ x d 49 12 [some (.inr (.inl 2)), some (.inl x1), some (.inl x2), some (.inl x3), none, none] [] s Q) ∧ (¬ (s 2 4 < 16) → Q (some (.inl (-3))) s)) : zJ x d 49 0 [some (.inr (.inl 2)), some (.inl x1), some (.inl x2), some (.inl x3), none, none] [] s Q := zJ_of (b := b49_0) (by rw [kBlk, kb_49]; rfl) h
set_option maxRecDepth 100000 in
theorem B49_12 {x : List Int} {d : Nat} {s : zSt} {Q : zQ} {x1 : Int} {x2 : Int} {x3 : Int}  (h : (0 : Int) ≤ s 2 4 ∧ (s 2 4 : Int) < 16 ∧ (zJ x d 49 39 [some (.inr (.inl 2)), some (.inl x1), some (.inl x2), some (.inl x3), some (.inl (s 2 4)), some (.inl 4)] [] (zU (zU s 2 4 (wr ((s 2 4) + 1))) 17 (s 2 4).toNat x1) Q)) : zJ x d 49 12 [some (.inr (.inl 2)), some (.inl x1), some (.inl x2), some (.inl x3), none, none] [] s Q := zJ_of (b := b49_12) (by rw [kBlk, kb_49]; rfl) h
set_option maxRecDepth 100000 in
theorem B49_39 {x : List Int} {d : Nat} {s : zSt} {Q : zQ} {x1 : Int} {x2 : Int} {x3 : Int} {x4 : Int} {x5 : Int}  (h : (8 < x5 → zJ x d 49 90 [some (.inr (.inl 2)), some (.inl x1), some (.inl x2), some (.inl x3), some (.inl x4), some (.inl x5)] [] s Q) ∧ (¬ (8 < x5) → zE x d 43 [.inr (.inl 2), .inl x4, .inl x5] s (fun r s1 => zJ x d 49 55 [some (.inr (.inl 2)), some (.inl x1), some (.inl x2), some (.inl x3), some (.inl x4), some (.inl x5)] (zAp r [.inr (.inl 2)]) s1 Q))) : zJ x d 49 39 [some (.inr (.inl 2)), some (.inl x1), some (.inl x2), some (.inl x3), some (.inl x4), some (.inl x5)] [] s Q := zJ_of (b := b49_39) (by rw [kBlk, kb_49]; rfl) h
set_option maxRecDepth 100000 in
theorem B49_55 {x : List Int} {d : Nat} {s : zSt} {Q : zQ} {x1 : Int} {x2 : Int} {x3 : Int} {x4 : Int} {x5 : Int} {y0 : Int}  (h : (¬ x5 = 4 → zJ x d 49 65 [some (.inr (.inl 2)), some (.inl x1), some (.inl x2), some (.inl x3), some (.inl x4), some (.inl x5)] [.inl y0, .inr (.inl 2)] s Q) ∧ (¬ (¬ x5 = 4) → zJ x d 49 81 [some (.inr (.inl 2)), some (.inl x1), some (.inl x2), some (.inl x3), some (.inl x4), some (.inl x5)] [.inl x2, .inl y0, .inr (.inl 2)] s Q)) : zJ x d 49 55 [some (.inr (.inl 2)), some (.inl x1), some (.inl x2), some (.inl x3), some (.inl x4), some (.inl x5)] [.inl y0, .inr (.inl 2)] s Q := zJ_of (b := b49_55) (by rw [kBlk, kb_49]; rfl) h
set_option maxRecDepth 100000 in
theorem B49_65 {x : List Int} {d : Nat} {s : zSt} {Q : zQ} {x1 : Int} {x2 : Int} {x3 : Int} {x4 : Int} {x5 : Int} {y0 : Int}  (h : (¬ x5 = 5 → zJ x d 49 75 [some (.inr (.inl 2)), some (.inl x1), some (.inl x2), some (.inl x3), some (.inl x4), some (.inl x5)] [.inl y0, .inr (.inl 2)] s Q) ∧ (¬ (¬ x5 = 5) → zJ x d 49 81 [some (.inr (.inl 2)), some (.inl x1), some (.inl x2), some (.inl x3), some (.inl x4), some (.inl x5)] [.inl x3, .inl y0, .inr (.inl 2)] s Q)) : zJ x d 49 65 [some (.inr (.inl 2)), some (.inl x1), some (.inl x2), some (.inl x3), some (.inl x4), some (.inl x5)] [.inl y0, .inr (.inl 2)] s Q := zJ_of (b := b49_65) (by rw [kBlk, kb_49]; rfl) h
set_option maxRecDepth 100000 in
theorem B49_75 {x : List Int} {d : Nat} {s : zSt} {Q : zQ} {x1 : Int} {x2 : Int} {x3 : Int} {x4 : Int} {x5 : Int} {y0 : Int}  (h : (0 : Int) ≤ x5 ∧ (x5 : Int) < 13 ∧ (zJ x d 49 81 [some (.inr (.inl 2)), some (.inl x1), some (.inl x2), some (.inl x3), some (.inl x4), some (.inl x5)] [.inl (zFIRST.getD (x5).toNat 0), .inl y0, .inr (.inl 2)] s Q)) : zJ x d 49 75 [some (.inr (.inl 2)), some (.inl x1), some (.inl x2), some (.inl x3), some (.inl x4), some (.inl x5)] [.inl y0, .inr (.inl 2)] s Q := zJ_of (b := b49_75) (by rw [kBlk, kb_49]; rfl) h
set_option maxRecDepth 100000 in
theorem B49_81 {x : List Int} {d : Nat} {s : zSt} {Q : zQ} {x1 : Int} {x2 : Int} {x3 : Int} {x4 : Int} {x5 : Int} {y0 : Int} {y1 : Int}  (h : zE x d 45 [.inr (.inl 2), .inl y1, .inl y0] s (fun r s1 => zJ x d 49 84 [some (.inr (.inl 2)), some (.inl x1), some (.inl x2), some (.inl x3), some (.inl x4), some (.inl x5)] (zAp r []) s1 Q)) : zJ x d 49 81 [some (.inr (.inl 2)), some (.inl x1), some (.inl x2), some (.inl x3), some (.inl x4), some (.inl x5)] [.inl y0, .inl y1, .inr (.inl 2)] s Q := zJ_of (b := b49_81) (by rw [kBlk, kb_49]; rfl) h
set_option maxRecDepth 100000 in
theorem B49_84 {x : List Int} {d : Nat} {s : zSt} {Q : zQ} {x1 : Int} {x2 : Int} {x3 : Int} {x4 : Int} {x5 : Int}  (h : zJ x d 49 39 [some (.inr (.inl 2)), some (.inl x1), some (.inl x2), some (.inl x3), some (.inl x4), some (.inl (wr (x5 + 1)))] [] s Q) : zJ x d 49 84 [some (.inr (.inl 2)), some (.inl x1), some (.inl x2), some (.inl x3), some (.inl x4), some (.inl x5)] [] s Q := zJ_of (b := b49_84) (by rw [kBlk, kb_49]; rfl) h
set_option maxRecDepth 100000 in
theorem B49_90 {x : List Int} {d : Nat} {s : zSt} {Q : zQ} {x1 : Int} {x2 : Int} {x3 : Int} {x4 : Int} {x5 : Int}  (h : Q (some (.inl x4)) s) : zJ x d 49 90 [some (.inr (.inl 2)), some (.inl x1), some (.inl x2), some (.inl x3), some (.inl x4), some (.inl x5)] [] s Q := zJ_of (b := b49_90) (by rw [kBlk, kb_49]; rfl) h
set_option maxRecDepth 100000 in
theorem N49 {x : List Int} {d : Nat} {s : zSt} {Q : zQ} {x1 : Int} {x2 : Int} {x3 : Int} (h : zJ x d 49 0 [some (.inr (.inl 2)), some (.inl x1), some (.inl x2), some (.inl x3), none, none] [] s Q) : zE x (d + 1) 49 [.inr (.inl 2), .inl x1, .inl x2, .inl x3] s Q := zE_of (n := 6) rfl rfl rfl rfl (fun h => (zLok_some (h _ (List.mem_of_getElem? (i := 0) rfl)) (zLok_some (h _ (List.mem_of_getElem? (i := 1) rfl)) (zLok_some (h _ (List.mem_of_getElem? (i := 2) rfl)) (zLok_some (h _ (List.mem_of_getElem? (i := 3) rfl)) (zLok_none (zLok_none zLok_nil))))))) h
-- 50: PennyALap$Folk.lapTakes
set_option maxRecDepth 100000 in
theorem kb_50 : kBls.getD 50 [] = c50 := rfl
set_option maxRecDepth 100000 in
theorem B50_0 {x : List Int} {d : Nat} {s : zSt} {Q : zQ} {x1 : Int} {x2 : Int} {x3 : Int}  (h : zE x d 46 [.inr (.inl 2), .inl x1, .inl 0] s (fun r s1 => zJ x d 50 6 [some (.inr (.inl 2)), some (.inl x1), some (.inl x2), some (.inl x3), none, none, none, none] (zAp r []) s1 Q)) : zJ x d 50 0 [some (.inr (.inl 2)), some (.inl x1), some (.inl x2), some (.inl x3), none, none, none, none] [] s Q := zJ_of (b := b50_0) (by rw [kBlk, kb_50]; rfl) h
set_option maxRecDepth 100000 in
theorem B50_6 {x : List Int} {d : Nat} {s : zSt} {Q : zQ} {x1 : Int} {x2 : Int} {x3 : Int} {y0 : Int}  (h : zE x d 46 [.inr (.inl 2), .inl x1, .inl 1] s (fun r s1 => zJ x d 50 14 [some (.inr (.inl 2)), some (.inl x1), some (.inl x2), some (.inl x3), some (.inl y0), none, none, none] (zAp r []) s1 Q)) : zJ x d 50 6 [some (.inr (.inl 2)), some (.inl x1), some (.inl x2), some (.inl x3), none, none, none, none] [.inl y0] s Q := zJ_of (b := b50_6) (by rw [kBlk, kb_50]; rfl) h
set_option maxRecDepth 100000 in
theorem B50_14 {x : List Int} {d : Nat} {s : zSt} {Q : zQ} {x1 : Int} {x2 : Int} {x3 : Int} {x4 : Int} {y0 : Int}  (h : zE x d 46 [.inr (.inl 2), .inl 0, .inl 9] s (fun r s1 => zJ x d 50 23 [some (.inr (.inl 2)), some (.inl x1), some (.inl x2), some (.inl x3), some (.inl x4), some (.inl y0), none, none] (zAp r []) s1 Q)) : zJ x d 50 14 [some (.inr (.inl 2)), some (.inl x1), some (.inl x2), some (.inl x3), some (.inl x4), none, none, none] [.inl y0] s Q := zJ_of (b := b50_14) (by rw [kBlk, kb_50]; rfl) h
set_option maxRecDepth 100000 in
theorem B50_23 {x : List Int} {d : Nat} {s : zSt} {Q : zQ} {x1 : Int} {x2 : Int} {x3 : Int} {x4 : Int} {x5 : Int} {y0 : Int}  (h : zE x d 72 [.inr (.inl 1)] s (fun r s1 => zJ x d 50 46 [some (.inr (.inl 2)), some (.inl x1), some (.inl x2), some (.inl x3), some (.inl x4), some (.inl x5), some (.inl y0), some (.inl (wr ((wr (x4 + (wr ((wr (x5 * x2)).tdiv 4)))) + y0)))] (zAp r []) s1 Q)) : zJ x d 50 23 [some (.inr (.inl 2)), some (.inl x1), some (.inl x2), some (.inl x3), some (.inl x4), some (.inl x5), none, none] [.inl y0] s Q := zJ_of (b := b50_23) (by rw [kBlk, kb_50]; rfl) h
set_option maxRecDepth 100000 in
theorem B50_46 {x : List Int} {d : Nat} {s : zSt} {Q : zQ} {x1 : Int} {x2 : Int} {x3 : Int} {x4 : Int} {x5 : Int} {x6 : Int} {x7 : Int} {y0 : Int}  (h : (y0 = 0 → zJ x d 50 74 [some (.inr (.inl 2)), some (.inl x1), some (.inl x2), some (.inl x3), some (.inl x4), some (.inl x5), some (.inl x6), some (.inl x7)] [] s Q) ∧ (¬ (y0 = 0) → zE x d 73 [.inr (.inl 1), .inl x1, .inl x4, .inl x5, .inl x6] s (fun r s1 => zJ x d 50 63 [some (.inr (.inl 2)), some (.inl x1), some (.inl x2), some (.inl x3), some (.inl x4), some (.inl x5), some (.inl x6), some (.inl x7)] (zAp r []) s1 Q))) : zJ x d 50 46 [some (.inr (.inl 2)), some (.inl x1), some (.inl x2), some (.inl x3), some (.inl x4), some (.inl x5), some (.inl x6), some (.inl x7)] [.inl y0] s Q := zJ_of (b := b50_46) (by rw [kBlk, kb_50]; rfl) h
set_option maxRecDepth 100000 in
theorem B50_63 {x : List Int} {d : Nat} {s : zSt} {Q : zQ} {x1 : Int} {x2 : Int} {x3 : Int} {x4 : Int} {x5 : Int} {x6 : Int} {x7 : Int}  (h : zE x d 74 [.inr (.inl 1), .inl x2, .inl x3] s (fun r s1 => zJ x d 50 72 [some (.inr (.inl 2)), some (.inl x1), some (.inl x2), some (.inl x3), some (.inl x4), some (.inl x5), some (.inl x6), some (.inl x7)] (zAp r []) s1 Q)) : zJ x d 50 63 [some (.inr (.inl 2)), some (.inl x1), some (.inl x2), some (.inl x3), some (.inl x4), some (.inl x5), some (.inl x6), some (.inl x7)] [] s Q := zJ_of (b := b50_63) (by rw [kBlk, kb_50]; rfl) h
set_option maxRecDepth 100000 in
theorem B50_72 {x : List Int} {d : Nat} {s : zSt} {Q : zQ} {x1 : Int} {x2 : Int} {x3 : Int} {x4 : Int} {x5 : Int} {x6 : Int} {x7 : Int} {y0 : Int}  (h : zJ x d 50 74 [some (.inr (.inl 2)), some (.inl x1), some (.inl x2), some (.inl x3), some (.inl x4), some (.inl x5), some (.inl x6), some (.inl y0)] [] s Q) : zJ x d 50 72 [some (.inr (.inl 2)), some (.inl x1), some (.inl x2), some (.inl x3), some (.inl x4), some (.inl x5), some (.inl x6), some (.inl x7)] [.inl y0] s Q := zJ_of (b := b50_72) (by rw [kBlk, kb_50]; rfl) h
set_option maxRecDepth 100000 in
theorem B50_74 {x : List Int} {d : Nat} {s : zSt} {Q : zQ} {x1 : Int} {x2 : Int} {x3 : Int} {x4 : Int} {x5 : Int} {x6 : Int} {x7 : Int}  (h : Q (some (.inl (max 1 (min 99 x7)))) s) : zJ x d 50 74 [some (.inr (.inl 2)), some (.inl x1), some (.inl x2), some (.inl x3), some (.inl x4), some (.inl x5), some (.inl x6), some (.inl x7)] [] s Q := zJ_of (b := b50_74) (by rw [kBlk, kb_50]; rfl) h
set_option maxRecDepth 100000 in
theorem N50 {x : List Int} {d : Nat} {s : zSt} {Q : zQ} {x1 : Int} {x2 : Int} {x3 : Int} (h : zJ x d 50 0 [some (.inr (.inl 2)), some (.inl x1), some (.inl x2), some (.inl x3), none, none, none, none] [] s Q) : zE x (d + 1) 50 [.inr (.inl 2), .inl x1, .inl x2, .inl x3] s Q := zE_of (n := 8) rfl rfl rfl rfl (fun h => (zLok_some (h _ (List.mem_of_getElem? (i := 0) rfl)) (zLok_some (h _ (List.mem_of_getElem? (i := 1) rfl)) (zLok_some (h _ (List.mem_of_getElem? (i := 2) rfl)) (zLok_some (h _ (List.mem_of_getElem? (i := 3) rfl)) (zLok_none (zLok_none (zLok_none (zLok_none zLok_nil))))))))) h
-- 51: PennyALap$Folk.minutesOfLaps
set_option maxRecDepth 100000 in
theorem kb_51 : kBls.getD 51 [] = c51 := rfl
set_option maxRecDepth 100000 in
theorem B51_0 {x : List Int} {d : Nat} {s : zSt} {Q : zQ} {x1 : Int} {x2 : Int}  (h : zJ x d 51 5 [some (.inr (.inl 2)), some (.inl x1), some (.inl x2), some (.inl 0), some (.inl 0)] [] s Q) : zJ x d 51 0 [some (.inr (.inl 2)), some (.inl x1), some (.inl x2), none, none] [] s Q := zJ_of (b := b51_0) (by rw [kBlk, kb_51]; rfl) h
set_option maxRecDepth 100000 in
theorem B51_5 {x : List Int} {d : Nat} {s : zSt} {Q : zQ} {x1 : Int} {x2 : Int} {x3 : Int} {x4 : Int}  (h : (x2 ≤ x4 → zJ x d 51 28 [some (.inr (.inl 2)), some (.inl x1), some (.inl x2), some (.inl x3), some (.inl x4)] [] s Q) ∧ (¬ (x2 ≤ x4) → zE x d 50 [.inr (.inl 2), .inl x1, .inl x4, .inl x3] s (fun r s1 => zJ x d 51 20 [some (.inr (.inl 2)), some (.inl x1), some (.inl x2), some (.inl x3), some (.inl x4)] (zAp r [.inl x3]) s1 Q))) : zJ x d 51 5 [some (.inr (.inl 2)), some (.inl x1), some (.inl x2), some (.inl x3), some (.inl x4)] [] s Q := zJ_of (b := b51_5) (by rw [kBlk, kb_51]; rfl) h
set_option maxRecDepth 100000 in
theorem B51_20 {x : List Int} {d : Nat} {s : zSt} {Q : zQ} {x1 : Int} {x2 : Int} {x3 : Int} {x4 : Int} {y0 : Int} {y1 : Int}  (h : zJ x d 51 5 [some (.inr (.inl 2)), some (.inl x1), some (.inl x2), some (.inl (wr (y1 + y0))), some (.inl (wr (x4 + 1)))] [] s Q) : zJ x d 51 20 [some (.inr (.inl 2)), some (.inl x1), some (.inl x2), some (.inl x3), some (.inl x4)] [.inl y0, .inl y1] s Q := zJ_of (b := b51_20) (by rw [kBlk, kb_51]; rfl) h
set_option maxRecDepth 100000 in
theorem B51_28 {x : List Int} {d : Nat} {s : zSt} {Q : zQ} {x1 : Int} {x2 : Int} {x3 : Int} {x4 : Int}  (h : Q (some (.inl x3)) s) : zJ x d 51 28 [some (.inr (.inl 2)), some (.inl x1), some (.inl x2), some (.inl x3), some (.inl x4)] [] s Q := zJ_of (b := b51_28) (by rw [kBlk, kb_51]; rfl) h
set_option maxRecDepth 100000 in
theorem N51 {x : List Int} {d : Nat} {s : zSt} {Q : zQ} {x1 : Int} {x2 : Int} (h : zJ x d 51 0 [some (.inr (.inl 2)), some (.inl x1), some (.inl x2), none, none] [] s Q) : zE x (d + 1) 51 [.inr (.inl 2), .inl x1, .inl x2] s Q := zE_of (n := 5) rfl rfl rfl rfl (fun h => (zLok_some (h _ (List.mem_of_getElem? (i := 0) rfl)) (zLok_some (h _ (List.mem_of_getElem? (i := 1) rfl)) (zLok_some (h _ (List.mem_of_getElem? (i := 2) rfl)) (zLok_none (zLok_none zLok_nil)))))) h
-- 52: PennyALap$Folk.owedWithoutTop
set_option maxRecDepth 100000 in
theorem kb_52 : kBls.getD 52 [] = c52 := rfl
set_option maxRecDepth 100000 in
theorem B52_0 {x : List Int} {d : Nat} {s : zSt} {Q : zQ} {x1 : Int} {x2 : Int}  (h : zE x d 43 [.inr (.inl 2), .inl x1, .inl 4] s (fun r s1 => zJ x d 52 6 [some (.inr (.inl 2)), some (.inl x1), some (.inl x2), none, none] (zAp r []) s1 Q)) : zJ x d 52 0 [some (.inr (.inl 2)), some (.inl x1), some (.inl x2), none, none] [] s Q := zJ_of (b := b52_0) (by rw [kBlk, kb_52]; rfl) h
set_option maxRecDepth 100000 in
theorem B52_6 {x : List Int} {d : Nat} {s : zSt} {Q : zQ} {x1 : Int} {x2 : Int} {y0 : Int}  (h : (0 ≤ y0 → zJ x d 52 13 [some (.inr (.inl 2)), some (.inl x1), some (.inl x2), some (.inl y0), none] [] s Q) ∧ (¬ (0 ≤ y0) → Q (some (.inl 0)) s)) : zJ x d 52 6 [some (.inr (.inl 2)), some (.inl x1), some (.inl x2), none, none] [.inl y0] s Q := zJ_of (b := b52_6) (by rw [kBlk, kb_52]; rfl) h
set_option maxRecDepth 100000 in
theorem B52_13 {x : List Int} {d : Nat} {s : zSt} {Q : zQ} {x1 : Int} {x2 : Int} {x3 : Int}  (h : (0 : Int) ≤ wr ((wr (x3 + 6)) - 4) ∧ (wr ((wr (x3 + 6)) - 4) : Int) < 108 ∧ ((x2 < s 16 (wr ((wr (x3 + 6)) - 4)).toNat → zJ x d 52 41 [some (.inr (.inl 2)), some (.inl x1), some (.inl x2), some (.inl x3), none] [] s Q) ∧ (¬ (x2 < s 16 (wr ((wr (x3 + 6)) - 4)).toNat) → (0 : Int) ≤ wr ((wr (x3 + 5)) - 4) ∧ (wr ((wr (x3 + 5)) - 4) : Int) < 108 ∧ (zJ x d 52 42 [some (.inr (.inl 2)), some (.inl x1), some (.inl x2), some (.inl x3), none] [.inl (s 16 (wr ((wr (x3 + 5)) - 4)).toNat)] s Q)))) : zJ x d 52 13 [some (.inr (.inl 2)), some (.inl x1), some (.inl x2), some (.inl x3), none] [] s Q := zJ_of (b := b52_13) (by rw [kBlk, kb_52]; rfl) h
set_option maxRecDepth 100000 in
theorem B52_41 {x : List Int} {d : Nat} {s : zSt} {Q : zQ} {x1 : Int} {x2 : Int} {x3 : Int}  (h : zJ x d 52 42 [some (.inr (.inl 2)), some (.inl x1), some (.inl x2), some (.inl x3), none] [.inl 0] s Q) : zJ x d 52 41 [some (.inr (.inl 2)), some (.inl x1), some (.inl x2), some (.inl x3), none] [] s Q := zJ_of (b := b52_41) (by rw [kBlk, kb_52]; rfl) h
set_option maxRecDepth 100000 in
theorem B52_42 {x : List Int} {d : Nat} {s : zSt} {Q : zQ} {x1 : Int} {x2 : Int} {x3 : Int} {y0 : Int}  (h : (0 : Int) ≤ x3 ∧ (x3 : Int) < 108 ∧ (Q (some (.inl (wr ((wr ((s 16 (x3).toNat) * x2)) + y0)))) s)) : zJ x d 52 42 [some (.inr (.inl 2)), some (.inl x1), some (.inl x2), some (.inl x3), none] [.inl y0] s Q := zJ_of (b := b52_42) (by rw [kBlk, kb_52]; rfl) h
set_option maxRecDepth 100000 in
theorem N52 {x : List Int} {d : Nat} {s : zSt} {Q : zQ} {x1 : Int} {x2 : Int} (h : zJ x d 52 0 [some (.inr (.inl 2)), some (.inl x1), some (.inl x2), none, none] [] s Q) : zE x (d + 1) 52 [.inr (.inl 2), .inl x1, .inl x2] s Q := zE_of (n := 5) rfl rfl rfl rfl (fun h => (zLok_some (h _ (List.mem_of_getElem? (i := 0) rfl)) (zLok_some (h _ (List.mem_of_getElem? (i := 1) rfl)) (zLok_some (h _ (List.mem_of_getElem? (i := 2) rfl)) (zLok_none (zLok_none zLok_nil)))))) h
-- 53: PennyALap$Folk.owedBy
set_option maxRecDepth 100000 in
theorem kb_53 : kBls.getD 53 [] = c53 := rfl
set_option maxRecDepth 100000 in
theorem B53_0 {x : List Int} {d : Nat} {s : zSt} {Q : zQ} {x1 : Int} {x2 : Int}  (h : zE x d 52 [.inr (.inl 2), .inl x1, .inl x2] s (fun r s1 => zJ x d 53 6 [some (.inr (.inl 2)), some (.inl x1), some (.inl x2), none, none] (zAp r []) s1 Q)) : zJ x d 53 0 [some (.inr (.inl 2)), some (.inl x1), some (.inl x2), none, none] [] s Q := zJ_of (b := b53_0) (by rw [kBlk, kb_53]; rfl) h
set_option maxRecDepth 100000 in
theorem B53_6 {x : List Int} {d : Nat} {s : zSt} {Q : zQ} {x1 : Int} {x2 : Int} {y0 : Int}  (h : zE x d 46 [.inr (.inl 2), .inl x1, .inl 7] s (fun r s1 => zJ x d 53 14 [some (.inr (.inl 2)), some (.inl x1), some (.inl x2), some (.inl y0), none] (zAp r []) s1 Q)) : zJ x d 53 6 [some (.inr (.inl 2)), some (.inl x1), some (.inl x2), none, none] [.inl y0] s Q := zJ_of (b := b53_6) (by rw [kBlk, kb_53]; rfl) h
set_option maxRecDepth 100000 in
theorem B53_14 {x : List Int} {d : Nat} {s : zSt} {Q : zQ} {x1 : Int} {x2 : Int} {x3 : Int} {y0 : Int}  (h : (y0 ≤ 0 → zJ x d 53 30 [some (.inr (.inl 2)), some (.inl x1), some (.inl x2), some (.inl x3), some (.inl y0)] [] s Q) ∧ (¬ (y0 ≤ 0) → zJ x d 53 31 [some (.inr (.inl 2)), some (.inl x1), some (.inl x2), some (.inl x3), some (.inl y0)] [.inl (min x3 y0)] s Q)) : zJ x d 53 14 [some (.inr (.inl 2)), some (.inl x1), some (.inl x2), some (.inl x3), none] [.inl y0] s Q := zJ_of (b := b53_14) (by rw [kBlk, kb_53]; rfl) h
set_option maxRecDepth 100000 in
theorem B53_30 {x : List Int} {d : Nat} {s : zSt} {Q : zQ} {x1 : Int} {x2 : Int} {x3 : Int} {x4 : Int}  (h : zJ x d 53 31 [some (.inr (.inl 2)), some (.inl x1), some (.inl x2), some (.inl x3), some (.inl x4)] [.inl x3] s Q) : zJ x d 53 30 [some (.inr (.inl 2)), some (.inl x1), some (.inl x2), some (.inl x3), some (.inl x4)] [] s Q := zJ_of (b := b53_30) (by rw [kBlk, kb_53]; rfl) h
set_option maxRecDepth 100000 in
theorem B53_31 {x : List Int} {d : Nat} {s : zSt} {Q : zQ} {x1 : Int} {x2 : Int} {x3 : Int} {x4 : Int} {y0 : Int}  (h : Q (some (.inl y0)) s) : zJ x d 53 31 [some (.inr (.inl 2)), some (.inl x1), some (.inl x2), some (.inl x3), some (.inl x4)] [.inl y0] s Q := zJ_of (b := b53_31) (by rw [kBlk, kb_53]; rfl) h
set_option maxRecDepth 100000 in
theorem N53 {x : List Int} {d : Nat} {s : zSt} {Q : zQ} {x1 : Int} {x2 : Int} (h : zJ x d 53 0 [some (.inr (.inl 2)), some (.inl x1), some (.inl x2), none, none] [] s Q) : zE x (d + 1) 53 [.inr (.inl 2), .inl x1, .inl x2] s Q := zE_of (n := 5) rfl rfl rfl rfl (fun h => (zLok_some (h _ (List.mem_of_getElem? (i := 0) rfl)) (zLok_some (h _ (List.mem_of_getElem? (i := 1) rfl)) (zLok_some (h _ (List.mem_of_getElem? (i := 2) rfl)) (zLok_none (zLok_none zLok_nil)))))) h
-- 54: PennyALap$Folk.paidBy
set_option maxRecDepth 100000 in
theorem kb_54 : kBls.getD 54 [] = c54 := rfl
set_option maxRecDepth 100000 in
theorem B54_0 {x : List Int} {d : Nat} {s : zSt} {Q : zQ} {x1 : Int} {x2 : Int}  (h : zE x d 53 [.inr (.inl 2), .inl x1, .inl x2] s (fun r s1 => zJ x d 54 6 [some (.inr (.inl 2)), some (.inl x1), some (.inl x2)] (zAp r []) s1 Q)) : zJ x d 54 0 [some (.inr (.inl 2)), some (.inl x1), some (.inl x2)] [] s Q := zJ_of (b := b54_0) (by rw [kBlk, kb_54]; rfl) h
set_option maxRecDepth 100000 in
theorem B54_6 {x : List Int} {d : Nat} {s : zSt} {Q : zQ} {x1 : Int} {x2 : Int} {y0 : Int}  (h : zE x d 46 [.inr (.inl 2), .inl x1, .inl 8] s (fun r s1 => zJ x d 54 13 [some (.inr (.inl 2)), some (.inl x1), some (.inl x2)] (zAp r [.inl y0]) s1 Q)) : zJ x d 54 6 [some (.inr (.inl 2)), some (.inl x1), some (.inl x2)] [.inl y0] s Q := zJ_of (b := b54_6) (by rw [kBlk, kb_54]; rfl) h
set_option maxRecDepth 100000 in
theorem B54_13 {x : List Int} {d : Nat} {s : zSt} {Q : zQ} {x1 : Int} {x2 : Int} {y0 : Int} {y1 : Int}  (h : Q (some (.inl (min y1 y0))) s) : zJ x d 54 13 [some (.inr (.inl 2)), some (.inl x1), some (.inl x2)] [.inl y0, .inl y1] s Q := zJ_of (b := b54_13) (by rw [kBlk, kb_54]; rfl) h
set_option maxRecDepth 100000 in
theorem N54 {x : List Int} {d : Nat} {s : zSt} {Q : zQ} {x1 : Int} {x2 : Int} (h : zJ x d 54 0 [some (.inr (.inl 2)), some (.inl x1), some (.inl x2)] [] s Q) : zE x (d + 1) 54 [.inr (.inl 2), .inl x1, .inl x2] s Q := zE_of (n := 3) rfl rfl rfl rfl (fun h => (zLok_some (h _ (List.mem_of_getElem? (i := 0) rfl)) (zLok_some (h _ (List.mem_of_getElem? (i := 1) rfl)) (zLok_some (h _ (List.mem_of_getElem? (i := 2) rfl)) zLok_nil)))) h
-- 55: PennyALap$Folk.isSurprised
set_option maxRecDepth 100000 in
theorem kb_55 : kBls.getD 55 [] = c55 := rfl
set_option maxRecDepth 100000 in
theorem B55_0 {x : List Int} {d : Nat} {s : zSt} {Q : zQ} {x1 : Int} {x2 : Int}  (h : zE x d 53 [.inr (.inl 2), .inl x1, .inl x2] s (fun r s1 => zJ x d 55 6 [some (.inr (.inl 2)), some (.inl x1), some (.inl x2)] (zAp r []) s1 Q)) : zJ x d 55 0 [some (.inr (.inl 2)), some (.inl x1), some (.inl x2)] [] s Q := zJ_of (b := b55_0) (by rw [kBlk, kb_55]; rfl) h
set_option maxRecDepth 100000 in
theorem B55_6 {x : List Int} {d : Nat} {s : zSt} {Q : zQ} {x1 : Int} {x2 : Int} {y0 : Int}  (h : zE x d 46 [.inr (.inl 2), .inl x1, .inl 8] s (fun r s1 => zJ x d 55 13 [some (.inr (.inl 2)), some (.inl x1), some (.inl x2)] (zAp r [.inl y0]) s1 Q)) : zJ x d 55 6 [some (.inr (.inl 2)), some (.inl x1), some (.inl x2)] [.inl y0] s Q := zJ_of (b := b55_6) (by rw [kBlk, kb_55]; rfl) h
set_option maxRecDepth 100000 in
theorem B55_13 {x : List Int} {d : Nat} {s : zSt} {Q : zQ} {x1 : Int} {x2 : Int} {y0 : Int} {y1 : Int}  (h : (y1 ≤ y0 → zJ x d 55 20 [some (.inr (.inl 2)), some (.inl x1), some (.inl x2)] [] s Q) ∧ (¬ (y1 ≤ y0) → zJ x d 55 21 [some (.inr (.inl 2)), some (.inl x1), some (.inl x2)] [.inl 1] s Q)) : zJ x d 55 13 [some (.inr (.inl 2)), some (.inl x1), some (.inl x2)] [.inl y0, .inl y1] s Q := zJ_of (b := b55_13) (by rw [kBlk, kb_55]; rfl) h
set_option maxRecDepth 100000 in
theorem B55_20 {x : List Int} {d : Nat} {s : zSt} {Q : zQ} {x1 : Int} {x2 : Int}  (h : zJ x d 55 21 [some (.inr (.inl 2)), some (.inl x1), some (.inl x2)] [.inl 0] s Q) : zJ x d 55 20 [some (.inr (.inl 2)), some (.inl x1), some (.inl x2)] [] s Q := zJ_of (b := b55_20) (by rw [kBlk, kb_55]; rfl) h
set_option maxRecDepth 100000 in
theorem B55_21 {x : List Int} {d : Nat} {s : zSt} {Q : zQ} {x1 : Int} {x2 : Int} {y0 : Int}  (h : ((y0 : Int) = 0 ∨ (y0 : Int) = 1) ∧ Q (some (.inl y0)) s) : zJ x d 55 21 [some (.inr (.inl 2)), some (.inl x1), some (.inl x2)] [.inl y0] s Q := zJ_of (b := b55_21) (by rw [kBlk, kb_55]; rfl) h
set_option maxRecDepth 100000 in
theorem N55 {x : List Int} {d : Nat} {s : zSt} {Q : zQ} {x1 : Int} {x2 : Int} (h : zJ x d 55 0 [some (.inr (.inl 2)), some (.inl x1), some (.inl x2)] [] s Q) : zE x (d + 1) 55 [.inr (.inl 2), .inl x1, .inl x2] s Q := zE_of (n := 3) rfl rfl rfl rfl (fun h => (zLok_some (h _ (List.mem_of_getElem? (i := 0) rfl)) (zLok_some (h _ (List.mem_of_getElem? (i := 1) rfl)) (zLok_some (h _ (List.mem_of_getElem? (i := 2) rfl)) zLok_nil)))) h
-- 56: PennyALap$Folk.owedTo
set_option maxRecDepth 100000 in
theorem kb_56 : kBls.getD 56 [] = c56 := rfl
set_option maxRecDepth 100000 in
theorem B56_0 {x : List Int} {d : Nat} {s : zSt} {Q : zQ} {x1 : Int} {x2 : Int}  (h : zJ x d 56 5 [some (.inr (.inl 2)), some (.inl x1), some (.inl x2), some (.inl 0), some (.inl 0)] [] s Q) : zJ x d 56 0 [some (.inr (.inl 2)), some (.inl x1), some (.inl x2), none, none] [] s Q := zJ_of (b := b56_0) (by rw [kBlk, kb_56]; rfl) h
set_option maxRecDepth 100000 in
theorem B56_5 {x : List Int} {d : Nat} {s : zSt} {Q : zQ} {x1 : Int} {x2 : Int} {x3 : Int} {x4 : Int}  (h : (s 2 4 ≤ x4 → zJ x d 56 45 [some (.inr (.inl 2)), some (.inl x1), some (.inl x2), some (.inl x3), some (.inl x4)] [] s Q) ∧ (¬ (s 2 4 ≤ x4) → (0 : Int) ≤ x4 ∧ (x4 : Int) < 16 ∧ ((¬ s 17 (x4).toNat = x1 → zJ x d 56 36 [some (.inr (.inl 2)), some (.inl x1), some (.inl x2), some (.inl x3), some (.inl x4)] [.inl x3] s Q) ∧ (¬ (¬ s 17 (x4).toNat = x1) → zE x d 53 [.inr (.inl 2), .inl x4, .inl x2] s (fun r s1 => zJ x d 56 33 [some (.inr (.inl 2)), some (.inl x1), some (.inl x2), some (.inl x3), some (.inl x4)] (zAp r [.inl x3]) s1 Q))))) : zJ x d 56 5 [some (.inr (.inl 2)), some (.inl x1), some (.inl x2), some (.inl x3), some (.inl x4)] [] s Q := zJ_of (b := b56_5) (by rw [kBlk, kb_56]; rfl) h
set_option maxRecDepth 100000 in
theorem B56_33 {x : List Int} {d : Nat} {s : zSt} {Q : zQ} {x1 : Int} {x2 : Int} {x3 : Int} {x4 : Int} {y0 : Int} {y1 : Int}  (h : zJ x d 56 37 [some (.inr (.inl 2)), some (.inl x1), some (.inl x2), some (.inl x3), some (.inl x4)] [.inl y0, .inl y1] s Q) : zJ x d 56 33 [some (.inr (.inl 2)), some (.inl x1), some (.inl x2), some (.inl x3), some (.inl x4)] [.inl y0, .inl y1] s Q := zJ_of (b := b56_33) (by rw [kBlk, kb_56]; rfl) h
set_option maxRecDepth 100000 in
theorem B56_36 {x : List Int} {d : Nat} {s : zSt} {Q : zQ} {x1 : Int} {x2 : Int} {x3 : Int} {x4 : Int} {y0 : Int}  (h : zJ x d 56 37 [some (.inr (.inl 2)), some (.inl x1), some (.inl x2), some (.inl x3), some (.inl x4)] [.inl 0, .inl y0] s Q) : zJ x d 56 36 [some (.inr (.inl 2)), some (.inl x1), some (.inl x2), some (.inl x3), some (.inl x4)] [.inl y0] s Q := zJ_of (b := b56_36) (by rw [kBlk, kb_56]; rfl) h
set_option maxRecDepth 100000 in
theorem B56_37 {x : List Int} {d : Nat} {s : zSt} {Q : zQ} {x1 : Int} {x2 : Int} {x3 : Int} {x4 : Int} {y0 : Int} {y1 : Int}  (h : zJ x d 56 5 [some (.inr (.inl 2)), some (.inl x1), some (.inl x2), some (.inl (wr (y1 + y0))), some (.inl (wr (x4 + 1)))] [] s Q) : zJ x d 56 37 [some (.inr (.inl 2)), some (.inl x1), some (.inl x2), some (.inl x3), some (.inl x4)] [.inl y0, .inl y1] s Q := zJ_of (b := b56_37) (by rw [kBlk, kb_56]; rfl) h
set_option maxRecDepth 100000 in
theorem B56_45 {x : List Int} {d : Nat} {s : zSt} {Q : zQ} {x1 : Int} {x2 : Int} {x3 : Int} {x4 : Int}  (h : Q (some (.inl x3)) s) : zJ x d 56 45 [some (.inr (.inl 2)), some (.inl x1), some (.inl x2), some (.inl x3), some (.inl x4)] [] s Q := zJ_of (b := b56_45) (by rw [kBlk, kb_56]; rfl) h
set_option maxRecDepth 100000 in
theorem N56 {x : List Int} {d : Nat} {s : zSt} {Q : zQ} {x1 : Int} {x2 : Int} (h : zJ x d 56 0 [some (.inr (.inl 2)), some (.inl x1), some (.inl x2), none, none] [] s Q) : zE x (d + 1) 56 [.inr (.inl 2), .inl x1, .inl x2] s Q := zE_of (n := 5) rfl rfl rfl rfl (fun h => (zLok_some (h _ (List.mem_of_getElem? (i := 0) rfl)) (zLok_some (h _ (List.mem_of_getElem? (i := 1) rfl)) (zLok_some (h _ (List.mem_of_getElem? (i := 2) rfl)) (zLok_none (zLok_none zLok_nil)))))) h
-- 57: PennyALap$Folk.paidTo
set_option maxRecDepth 100000 in
theorem kb_57 : kBls.getD 57 [] = c57 := rfl
set_option maxRecDepth 100000 in
theorem B57_0 {x : List Int} {d : Nat} {s : zSt} {Q : zQ} {x1 : Int} {x2 : Int}  (h : zJ x d 57 5 [some (.inr (.inl 2)), some (.inl x1), some (.inl x2), some (.inl 0), some (.inl 0)] [] s Q) : zJ x d 57 0 [some (.inr (.inl 2)), some (.inl x1), some (.inl x2), none, none] [] s Q := zJ_of (b := b57_0) (by rw [kBlk, kb_57]; rfl) h
set_option maxRecDepth 100000 in
theorem B57_5 {x : List Int} {d : Nat} {s : zSt} {Q : zQ} {x1 : Int} {x2 : Int} {x3 : Int} {x4 : Int}  (h : (s 2 4 ≤ x4 → zJ x d 57 45 [some (.inr (.inl 2)), some (.inl x1), some (.inl x2), some (.inl x3), some (.inl x4)] [] s Q) ∧ (¬ (s 2 4 ≤ x4) → (0 : Int) ≤ x4 ∧ (x4 : Int) < 16 ∧ ((¬ s 17 (x4).toNat = x1 → zJ x d 57 36 [some (.inr (.inl 2)), some (.inl x1), some (.inl x2), some (.inl x3), some (.inl x4)] [.inl x3] s Q) ∧ (¬ (¬ s 17 (x4).toNat = x1) → zE x d 54 [.inr (.inl 2), .inl x4, .inl x2] s (fun r s1 => zJ x d 57 33 [some (.inr (.inl 2)), some (.inl x1), some (.inl x2), some (.inl x3), some (.inl x4)] (zAp r [.inl x3]) s1 Q))))) : zJ x d 57 5 [some (.inr (.inl 2)), some (.inl x1), some (.inl x2), some (.inl x3), some (.inl x4)] [] s Q := zJ_of (b := b57_5) (by rw [kBlk, kb_57]; rfl) h
set_option maxRecDepth 100000 in
theorem B57_33 {x : List Int} {d : Nat} {s : zSt} {Q : zQ} {x1 : Int} {x2 : Int} {x3 : Int} {x4 : Int} {y0 : Int} {y1 : Int}  (h : zJ x d 57 37 [some (.inr (.inl 2)), some (.inl x1), some (.inl x2), some (.inl x3), some (.inl x4)] [.inl y0, .inl y1] s Q) : zJ x d 57 33 [some (.inr (.inl 2)), some (.inl x1), some (.inl x2), some (.inl x3), some (.inl x4)] [.inl y0, .inl y1] s Q := zJ_of (b := b57_33) (by rw [kBlk, kb_57]; rfl) h
set_option maxRecDepth 100000 in
theorem B57_36 {x : List Int} {d : Nat} {s : zSt} {Q : zQ} {x1 : Int} {x2 : Int} {x3 : Int} {x4 : Int} {y0 : Int}  (h : zJ x d 57 37 [some (.inr (.inl 2)), some (.inl x1), some (.inl x2), some (.inl x3), some (.inl x4)] [.inl 0, .inl y0] s Q) : zJ x d 57 36 [some (.inr (.inl 2)), some (.inl x1), some (.inl x2), some (.inl x3), some (.inl x4)] [.inl y0] s Q := zJ_of (b := b57_36) (by rw [kBlk, kb_57]; rfl) h
set_option maxRecDepth 100000 in
theorem B57_37 {x : List Int} {d : Nat} {s : zSt} {Q : zQ} {x1 : Int} {x2 : Int} {x3 : Int} {x4 : Int} {y0 : Int} {y1 : Int}  (h : zJ x d 57 5 [some (.inr (.inl 2)), some (.inl x1), some (.inl x2), some (.inl (wr (y1 + y0))), some (.inl (wr (x4 + 1)))] [] s Q) : zJ x d 57 37 [some (.inr (.inl 2)), some (.inl x1), some (.inl x2), some (.inl x3), some (.inl x4)] [.inl y0, .inl y1] s Q := zJ_of (b := b57_37) (by rw [kBlk, kb_57]; rfl) h
set_option maxRecDepth 100000 in
theorem B57_45 {x : List Int} {d : Nat} {s : zSt} {Q : zQ} {x1 : Int} {x2 : Int} {x3 : Int} {x4 : Int}  (h : Q (some (.inl x3)) s) : zJ x d 57 45 [some (.inr (.inl 2)), some (.inl x1), some (.inl x2), some (.inl x3), some (.inl x4)] [] s Q := zJ_of (b := b57_45) (by rw [kBlk, kb_57]; rfl) h
set_option maxRecDepth 100000 in
theorem N57 {x : List Int} {d : Nat} {s : zSt} {Q : zQ} {x1 : Int} {x2 : Int} (h : zJ x d 57 0 [some (.inr (.inl 2)), some (.inl x1), some (.inl x2), none, none] [] s Q) : zE x (d + 1) 57 [.inr (.inl 2), .inl x1, .inl x2] s Q := zE_of (n := 5) rfl rfl rfl rfl (fun h => (zLok_some (h _ (List.mem_of_getElem? (i := 0) rfl)) (zLok_some (h _ (List.mem_of_getElem? (i := 1) rfl)) (zLok_some (h _ (List.mem_of_getElem? (i := 2) rfl)) (zLok_none (zLok_none zLok_nil)))))) h
-- 58: PennyALap$Law.fed
set_option maxRecDepth 100000 in
theorem kb_58 : kBls.getD 58 [] = c58 := rfl
set_option maxRecDepth 100000 in
theorem B58_0 {x : List Int} {d : Nat} {s : zSt} {Q : zQ}   (h : Q (some (.inl (s 1 1))) s) : zJ x d 58 0 [some (.inr (.inl 1))] [] s Q := zJ_of (b := b58_0) (by rw [kBlk, kb_58]; rfl) h
set_option maxRecDepth 100000 in
theorem N58 {x : List Int} {d : Nat} {s : zSt} {Q : zQ}  (h : zJ x d 58 0 [some (.inr (.inl 1))] [] s Q) : zE x (d + 1) 58 [.inr (.inl 1)] s Q := zE_of (n := 1) rfl rfl rfl rfl (fun h => (zLok_some (h _ (List.mem_of_getElem? (i := 0) rfl)) zLok_nil)) h
-- 59: PennyALap$Law.takeByte
set_option maxRecDepth 100000 in
theorem kb_59 : kBls.getD 59 [] = c59 := rfl
set_option maxRecDepth 100000 in
theorem B59_0 {x : List Int} {d : Nat} {s : zSt} {Q : zQ} {x1 : Int}  (h : (s 1 1 < 120 → zJ x d 59 12 [some (.inr (.inl 1)), some (.inl x1)] [] s Q) ∧ (¬ (s 1 1 < 120) → Q (some (.inl (-3))) s)) : zJ x d 59 0 [some (.inr (.inl 1)), some (.inl x1)] [] s Q := zJ_of (b := b59_0) (by rw [kBlk, kb_59]; rfl) h
set_option maxRecDepth 100000 in
theorem B59_12 {x : List Int} {d : Nat} {s : zSt} {Q : zQ} {x1 : Int}  (h : (0 : Int) ≤ s 1 1 ∧ (s 1 1 : Int) < 120 ∧ (Q (some (.inl (wr ((s 1 1) + 1)))) (zU (zU s 11 (s 1 1).toNat x1) 1 1 (wr ((s 1 1) + 1))))) : zJ x d 59 12 [some (.inr (.inl 1)), some (.inl x1)] [] s Q := zJ_of (b := b59_12) (by rw [kBlk, kb_59]; rfl) h
set_option maxRecDepth 100000 in
theorem N59 {x : List Int} {d : Nat} {s : zSt} {Q : zQ} {x1 : Int} (h : zJ x d 59 0 [some (.inr (.inl 1)), some (.inl x1)] [] s Q) : zE x (d + 1) 59 [.inr (.inl 1), .inl x1] s Q := zE_of (n := 2) rfl rfl rfl rfl (fun h => (zLok_some (h _ (List.mem_of_getElem? (i := 0) rfl)) (zLok_some (h _ (List.mem_of_getElem? (i := 1) rfl)) zLok_nil))) h
