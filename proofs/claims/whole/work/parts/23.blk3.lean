-- laid by wip/whole/blk.py
-- 180: PennyALapModel.undo
set_option maxRecDepth 100000 in
theorem kb_180 : kBls.getD 180 [] = c180 := rfl
set_option maxRecDepth 100000 in
theorem B180_0 {x : List Int} {d : Nat} {s : zSt} {Q : zQ}   (h : (¬ s 42 17 = 0 → zJ x d 180 10 [some (.inr (.inl 42))] [] s Q) ∧ (¬ (¬ s 42 17 = 0) → Q (some (.inl (-5))) s)) : zJ x d 180 0 [some (.inr (.inl 42))] [] s Q := zJ_of (b := b180_0) (by rw [kBlk, kb_180]; rfl) h
set_option maxRecDepth 100000 in
theorem B180_10 {x : List Int} {d : Nat} {s : zSt} {Q : zQ}   (h : (0 : Int) ≤ wr ((s 42 17) - 1) ∧ (wr ((s 42 17) - 1) : Int) < 40 ∧ ((0 : Int) ≤ wr ((s 42 17) - 1) ∧ (wr ((s 42 17) - 1) : Int) < 40 ∧ ((0 : Int) ≤ wr ((s 42 17) - 1) ∧ (wr ((s 42 17) - 1) : Int) < 40 ∧ (zE x d 178 [.inr (.inl 42), .inl (s 53 (wr ((s 42 17) - 1)).toNat), .inl (s 54 (wr ((s 42 17) - 1)).toNat), .inl (s 55 (wr ((s 42 17) - 1)).toNat)] (zU (zU s 42 17 (wr ((s 42 17) - 1))) 42 18 (wr ((s 42 18) + 1))) (fun r s1 => zJ x d 180 61 [some (.inr (.inl 42))] (zAp r []) s1 Q))))) : zJ x d 180 10 [some (.inr (.inl 42))] [] s Q := zJ_of (b := b180_10) (by rw [kBlk, kb_180]; rfl) h
set_option maxRecDepth 100000 in
theorem B180_61 {x : List Int} {d : Nat} {s : zSt} {Q : zQ}   (h : Q (some (.inl (s 42 17))) s) : zJ x d 180 61 [some (.inr (.inl 42))] [] s Q := zJ_of (b := b180_61) (by rw [kBlk, kb_180]; rfl) h
set_option maxRecDepth 100000 in
theorem N180 {x : List Int} {d : Nat} {s : zSt} {Q : zQ}  (h : zJ x d 180 0 [some (.inr (.inl 42))] [] s Q) : zE x (d + 1) 180 [.inr (.inl 42)] s Q := zE_of (n := 1) rfl rfl rfl rfl (fun h => (zLok_some (h _ (List.mem_of_getElem? (i := 0) rfl)) zLok_nil)) h
-- 181: PennyALapModel.redo
set_option maxRecDepth 100000 in
theorem kb_181 : kBls.getD 181 [] = c181 := rfl
set_option maxRecDepth 100000 in
theorem B181_0 {x : List Int} {d : Nat} {s : zSt} {Q : zQ}   (h : (¬ s 42 18 = 0 → zJ x d 181 10 [some (.inr (.inl 42))] [] s Q) ∧ (¬ (¬ s 42 18 = 0) → Q (some (.inl (-5))) s)) : zJ x d 181 0 [some (.inr (.inl 42))] [] s Q := zJ_of (b := b181_0) (by rw [kBlk, kb_181]; rfl) h
set_option maxRecDepth 100000 in
theorem B181_10 {x : List Int} {d : Nat} {s : zSt} {Q : zQ}   (h : (0 : Int) ≤ s 42 17 ∧ (s 42 17 : Int) < 40 ∧ ((0 : Int) ≤ s 42 17 ∧ (s 42 17 : Int) < 40 ∧ ((0 : Int) ≤ s 42 17 ∧ (s 42 17 : Int) < 40 ∧ (zE x d 178 [.inr (.inl 42), .inl (s 53 (s 42 17).toNat), .inl (s 54 (s 42 17).toNat), .inl (s 56 (s 42 17).toNat)] s (fun r s1 => zJ x d 181 41 [some (.inr (.inl 42))] (zAp r []) s1 Q))))) : zJ x d 181 10 [some (.inr (.inl 42))] [] s Q := zJ_of (b := b181_10) (by rw [kBlk, kb_181]; rfl) h
set_option maxRecDepth 100000 in
theorem B181_41 {x : List Int} {d : Nat} {s : zSt} {Q : zQ}   (h : Q (some (.inl (wr ((s 42 18) - 1)))) (zU (zU s 42 17 (wr ((s 42 17) + 1))) 42 18 (wr ((s 42 18) - 1)))) : zJ x d 181 41 [some (.inr (.inl 42))] [] s Q := zJ_of (b := b181_41) (by rw [kBlk, kb_181]; rfl) h
set_option maxRecDepth 100000 in
theorem N181 {x : List Int} {d : Nat} {s : zSt} {Q : zQ}  (h : zJ x d 181 0 [some (.inr (.inl 42))] [] s Q) : zE x (d + 1) 181 [.inr (.inl 42)] s Q := zE_of (n := 1) rfl rfl rfl rfl (fun h => (zLok_some (h _ (List.mem_of_getElem? (i := 0) rfl)) zLok_nil)) h
-- 182: PennyALapModel.isOne
set_option maxRecDepth 100000 in
theorem kb_182 : kBls.getD 182 [] = c182 := rfl
set_option maxRecDepth 100000 in
theorem B182_0 {x : List Int} {d : Nat} {s : zSt} {Q : zQ} {x1 : Int} {x2 : Int}  (h : zE x d 170 [.inl x2, .inl 0, .inl 3] s (fun r s1 => zJ x d 182 6 [some (.inr (.inl 42)), some (.inl x1), some (.inl x2)] (zAp r []) s1 Q)) : zJ x d 182 0 [some (.inr (.inl 42)), some (.inl x1), some (.inl x2)] [] s Q := zJ_of (b := b182_0) (by rw [kBlk, kb_182]; rfl) h
set_option maxRecDepth 100000 in
theorem B182_6 {x : List Int} {d : Nat} {s : zSt} {Q : zQ} {x1 : Int} {x2 : Int} {y0 : Int}  (h : (y0 = 0 → zJ x d 182 17 [some (.inr (.inl 42)), some (.inl x1), some (.inl x2)] [] s Q) ∧ (¬ (y0 = 0) → zE x d 171 [.inr (.inl 42), .inl x1] s (fun r s1 => zJ x d 182 14 [some (.inr (.inl 42)), some (.inl x1), some (.inl x2)] (zAp r []) s1 Q))) : zJ x d 182 6 [some (.inr (.inl 42)), some (.inl x1), some (.inl x2)] [.inl y0] s Q := zJ_of (b := b182_6) (by rw [kBlk, kb_182]; rfl) h
set_option maxRecDepth 100000 in
theorem B182_14 {x : List Int} {d : Nat} {s : zSt} {Q : zQ} {x1 : Int} {x2 : Int} {y0 : Int}  (h : zJ x d 182 55 [some (.inr (.inl 42)), some (.inl x1), some (.inl x2)] [.inl y0] s Q) : zJ x d 182 14 [some (.inr (.inl 42)), some (.inl x1), some (.inl x2)] [.inl y0] s Q := zJ_of (b := b182_14) (by rw [kBlk, kb_182]; rfl) h
set_option maxRecDepth 100000 in
theorem B182_17 {x : List Int} {d : Nat} {s : zSt} {Q : zQ} {x1 : Int} {x2 : Int}  (h : zE x d 170 [.inl x2, .inl 4, .inl 8] s (fun r s1 => zJ x d 182 24 [some (.inr (.inl 42)), some (.inl x1), some (.inl x2)] (zAp r []) s1 Q)) : zJ x d 182 17 [some (.inr (.inl 42)), some (.inl x1), some (.inl x2)] [] s Q := zJ_of (b := b182_17) (by rw [kBlk, kb_182]; rfl) h
set_option maxRecDepth 100000 in
theorem B182_24 {x : List Int} {d : Nat} {s : zSt} {Q : zQ} {x1 : Int} {x2 : Int} {y0 : Int}  (h : (y0 = 0 → zJ x d 182 35 [some (.inr (.inl 42)), some (.inl x1), some (.inl x2)] [] s Q) ∧ (¬ (y0 = 0) → zE x d 172 [.inr (.inl 42), .inl x1] s (fun r s1 => zJ x d 182 32 [some (.inr (.inl 42)), some (.inl x1), some (.inl x2)] (zAp r []) s1 Q))) : zJ x d 182 24 [some (.inr (.inl 42)), some (.inl x1), some (.inl x2)] [.inl y0] s Q := zJ_of (b := b182_24) (by rw [kBlk, kb_182]; rfl) h
set_option maxRecDepth 100000 in
theorem B182_32 {x : List Int} {d : Nat} {s : zSt} {Q : zQ} {x1 : Int} {x2 : Int} {y0 : Int}  (h : zJ x d 182 55 [some (.inr (.inl 42)), some (.inl x1), some (.inl x2)] [.inl y0] s Q) : zJ x d 182 32 [some (.inr (.inl 42)), some (.inl x1), some (.inl x2)] [.inl y0] s Q := zJ_of (b := b182_32) (by rw [kBlk, kb_182]; rfl) h
set_option maxRecDepth 100000 in
theorem B182_35 {x : List Int} {d : Nat} {s : zSt} {Q : zQ} {x1 : Int} {x2 : Int}  (h : zE x d 170 [.inl x2, .inl 9, .inl 12] s (fun r s1 => zJ x d 182 43 [some (.inr (.inl 42)), some (.inl x1), some (.inl x2)] (zAp r []) s1 Q)) : zJ x d 182 35 [some (.inr (.inl 42)), some (.inl x1), some (.inl x2)] [] s Q := zJ_of (b := b182_35) (by rw [kBlk, kb_182]; rfl) h
set_option maxRecDepth 100000 in
theorem B182_43 {x : List Int} {d : Nat} {s : zSt} {Q : zQ} {x1 : Int} {x2 : Int} {y0 : Int}  (h : (y0 = 0 → zJ x d 182 54 [some (.inr (.inl 42)), some (.inl x1), some (.inl x2)] [] s Q) ∧ (¬ (y0 = 0) → (¬ x1 = 0 → zJ x d 182 54 [some (.inr (.inl 42)), some (.inl x1), some (.inl x2)] [] s Q) ∧ (¬ (¬ x1 = 0) → zJ x d 182 55 [some (.inr (.inl 42)), some (.inl x1), some (.inl x2)] [.inl 1] s Q))) : zJ x d 182 43 [some (.inr (.inl 42)), some (.inl x1), some (.inl x2)] [.inl y0] s Q := zJ_of (b := b182_43) (by rw [kBlk, kb_182]; rfl) h
set_option maxRecDepth 100000 in
theorem B182_54 {x : List Int} {d : Nat} {s : zSt} {Q : zQ} {x1 : Int} {x2 : Int}  (h : zJ x d 182 55 [some (.inr (.inl 42)), some (.inl x1), some (.inl x2)] [.inl 0] s Q) : zJ x d 182 54 [some (.inr (.inl 42)), some (.inl x1), some (.inl x2)] [] s Q := zJ_of (b := b182_54) (by rw [kBlk, kb_182]; rfl) h
set_option maxRecDepth 100000 in
theorem B182_55 {x : List Int} {d : Nat} {s : zSt} {Q : zQ} {x1 : Int} {x2 : Int} {y0 : Int}  (h : ((y0 : Int) = 0 ∨ (y0 : Int) = 1) ∧ Q (some (.inl y0)) s) : zJ x d 182 55 [some (.inr (.inl 42)), some (.inl x1), some (.inl x2)] [.inl y0] s Q := zJ_of (b := b182_55) (by rw [kBlk, kb_182]; rfl) h
set_option maxRecDepth 100000 in
theorem N182 {x : List Int} {d : Nat} {s : zSt} {Q : zQ} {x1 : Int} {x2 : Int} (h : zJ x d 182 0 [some (.inr (.inl 42)), some (.inl x1), some (.inl x2)] [] s Q) : zE x (d + 1) 182 [.inr (.inl 42), .inl x1, .inl x2] s Q := zE_of (n := 3) rfl rfl rfl rfl (fun h => (zLok_some (h _ (List.mem_of_getElem? (i := 0) rfl)) (zLok_some (h _ (List.mem_of_getElem? (i := 1) rfl)) (zLok_some (h _ (List.mem_of_getElem? (i := 2) rfl)) zLok_nil)))) h
-- 183: PennyALapModel.mayBe
set_option maxRecDepth 100000 in
theorem kb_183 : kBls.getD 183 [] = c183 := rfl
set_option maxRecDepth 100000 in
theorem B183_0 {x : List Int} {d : Nat} {s : zSt} {Q : zQ} {x0 : Int} {x1 : Int}  (h : (x0 = 0 → zJ x d 183 68 [some (.inl x0), some (.inl x1)] [] s Q) ∧ (¬ x0 = 0 → (x0 = 1 → zJ x d 183 76 [some (.inl x0), some (.inl x1)] [] s Q) ∧ (¬ x0 = 1 → (x0 = 2 → zJ x d 183 84 [some (.inl x0), some (.inl x1)] [] s Q) ∧ (¬ x0 = 2 → (x0 = 3 → zJ x d 183 92 [some (.inl x0), some (.inl x1)] [] s Q) ∧ (¬ x0 = 3 → (x0 = 4 → zJ x d 183 100 [some (.inl x0), some (.inl x1)] [] s Q) ∧ (¬ x0 = 4 → (x0 = 5 → zJ x d 183 109 [some (.inl x0), some (.inl x1)] [] s Q) ∧ (¬ x0 = 5 → (x0 = 6 → zJ x d 183 118 [some (.inl x0), some (.inl x1)] [] s Q) ∧ (¬ x0 = 6 → (x0 = 7 → zJ x d 183 158 [some (.inl x0), some (.inl x1)] [] s Q) ∧ (¬ x0 = 7 → (x0 = 8 → zJ x d 183 158 [some (.inl x0), some (.inl x1)] [] s Q) ∧ (¬ x0 = 8 → (x0 = 9 → zJ x d 183 126 [some (.inl x0), some (.inl x1)] [] s Q) ∧ (¬ x0 = 9 → (x0 = 10 → zJ x d 183 134 [some (.inl x0), some (.inl x1)] [] s Q) ∧ (¬ x0 = 10 → (x0 = 11 → zJ x d 183 142 [some (.inl x0), some (.inl x1)] [] s Q) ∧ (¬ x0 = 11 → (x0 = 12 → zJ x d 183 149 [some (.inl x0), some (.inl x1)] [] s Q) ∧ (¬ x0 = 12 → zJ x d 183 158 [some (.inl x0), some (.inl x1)] [] s Q)))))))))))))) : zJ x d 183 0 [some (.inl x0), some (.inl x1)] [] s Q := zJ_of (b := b183_0) (by rw [kBlk, kb_183]; rfl) h
set_option maxRecDepth 100000 in
theorem B183_68 {x : List Int} {d : Nat} {s : zSt} {Q : zQ} {x0 : Int} {x1 : Int}  (h : zE x d 170 [.inl x1, .inl 1, .inl 30] s (fun r s1 => zJ x d 183 75 [some (.inl x0), some (.inl x1)] (zAp r []) s1 Q)) : zJ x d 183 68 [some (.inl x0), some (.inl x1)] [] s Q := zJ_of (b := b183_68) (by rw [kBlk, kb_183]; rfl) h
set_option maxRecDepth 100000 in
theorem B183_75 {x : List Int} {d : Nat} {s : zSt} {Q : zQ} {x0 : Int} {x1 : Int} {y0 : Int}  (h : ((y0 : Int) = 0 ∨ (y0 : Int) = 1) ∧ Q (some (.inl y0)) s) : zJ x d 183 75 [some (.inl x0), some (.inl x1)] [.inl y0] s Q := zJ_of (b := b183_75) (by rw [kBlk, kb_183]; rfl) h
set_option maxRecDepth 100000 in
theorem B183_76 {x : List Int} {d : Nat} {s : zSt} {Q : zQ} {x0 : Int} {x1 : Int}  (h : zE x d 170 [.inl x1, .inl 0, .inl 9] s (fun r s1 => zJ x d 183 83 [some (.inl x0), some (.inl x1)] (zAp r []) s1 Q)) : zJ x d 183 76 [some (.inl x0), some (.inl x1)] [] s Q := zJ_of (b := b183_76) (by rw [kBlk, kb_183]; rfl) h
set_option maxRecDepth 100000 in
theorem B183_83 {x : List Int} {d : Nat} {s : zSt} {Q : zQ} {x0 : Int} {x1 : Int} {y0 : Int}  (h : ((y0 : Int) = 0 ∨ (y0 : Int) = 1) ∧ Q (some (.inl y0)) s) : zJ x d 183 83 [some (.inl x0), some (.inl x1)] [.inl y0] s Q := zJ_of (b := b183_83) (by rw [kBlk, kb_183]; rfl) h
set_option maxRecDepth 100000 in
theorem B183_84 {x : List Int} {d : Nat} {s : zSt} {Q : zQ} {x0 : Int} {x1 : Int}  (h : zE x d 170 [.inl x1, .inl 0, .inl 99] s (fun r s1 => zJ x d 183 91 [some (.inl x0), some (.inl x1)] (zAp r []) s1 Q)) : zJ x d 183 84 [some (.inl x0), some (.inl x1)] [] s Q := zJ_of (b := b183_84) (by rw [kBlk, kb_183]; rfl) h
set_option maxRecDepth 100000 in
theorem B183_91 {x : List Int} {d : Nat} {s : zSt} {Q : zQ} {x0 : Int} {x1 : Int} {y0 : Int}  (h : ((y0 : Int) = 0 ∨ (y0 : Int) = 1) ∧ Q (some (.inl y0)) s) : zJ x d 183 91 [some (.inl x0), some (.inl x1)] [.inl y0] s Q := zJ_of (b := b183_91) (by rw [kBlk, kb_183]; rfl) h
set_option maxRecDepth 100000 in
theorem B183_92 {x : List Int} {d : Nat} {s : zSt} {Q : zQ} {x0 : Int} {x1 : Int}  (h : zE x d 170 [.inl x1, .inl 0, .inl 12] s (fun r s1 => zJ x d 183 99 [some (.inl x0), some (.inl x1)] (zAp r []) s1 Q)) : zJ x d 183 92 [some (.inl x0), some (.inl x1)] [] s Q := zJ_of (b := b183_92) (by rw [kBlk, kb_183]; rfl) h
set_option maxRecDepth 100000 in
theorem B183_99 {x : List Int} {d : Nat} {s : zSt} {Q : zQ} {x0 : Int} {x1 : Int} {y0 : Int}  (h : ((y0 : Int) = 0 ∨ (y0 : Int) = 1) ∧ Q (some (.inl y0)) s) : zJ x d 183 99 [some (.inl x0), some (.inl x1)] [.inl y0] s Q := zJ_of (b := b183_99) (by rw [kBlk, kb_183]; rfl) h
set_option maxRecDepth 100000 in
theorem B183_100 {x : List Int} {d : Nat} {s : zSt} {Q : zQ} {x0 : Int} {x1 : Int}  (h : zE x d 170 [.inl x1, .inl 0, .inl 200] s (fun r s1 => zJ x d 183 108 [some (.inl x0), some (.inl x1)] (zAp r []) s1 Q)) : zJ x d 183 100 [some (.inl x0), some (.inl x1)] [] s Q := zJ_of (b := b183_100) (by rw [kBlk, kb_183]; rfl) h
set_option maxRecDepth 100000 in
theorem B183_108 {x : List Int} {d : Nat} {s : zSt} {Q : zQ} {x0 : Int} {x1 : Int} {y0 : Int}  (h : ((y0 : Int) = 0 ∨ (y0 : Int) = 1) ∧ Q (some (.inl y0)) s) : zJ x d 183 108 [some (.inl x0), some (.inl x1)] [.inl y0] s Q := zJ_of (b := b183_108) (by rw [kBlk, kb_183]; rfl) h
set_option maxRecDepth 100000 in
theorem B183_109 {x : List Int} {d : Nat} {s : zSt} {Q : zQ} {x0 : Int} {x1 : Int}  (h : zE x d 170 [.inl x1, .inl 0, .inl 999] s (fun r s1 => zJ x d 183 117 [some (.inl x0), some (.inl x1)] (zAp r []) s1 Q)) : zJ x d 183 109 [some (.inl x0), some (.inl x1)] [] s Q := zJ_of (b := b183_109) (by rw [kBlk, kb_183]; rfl) h
set_option maxRecDepth 100000 in
theorem B183_117 {x : List Int} {d : Nat} {s : zSt} {Q : zQ} {x0 : Int} {x1 : Int} {y0 : Int}  (h : ((y0 : Int) = 0 ∨ (y0 : Int) = 1) ∧ Q (some (.inl y0)) s) : zJ x d 183 117 [some (.inl x0), some (.inl x1)] [.inl y0] s Q := zJ_of (b := b183_117) (by rw [kBlk, kb_183]; rfl) h
set_option maxRecDepth 100000 in
theorem B183_118 {x : List Int} {d : Nat} {s : zSt} {Q : zQ} {x0 : Int} {x1 : Int}  (h : zE x d 170 [.inl x1, .inl 0, .inl 99] s (fun r s1 => zJ x d 183 125 [some (.inl x0), some (.inl x1)] (zAp r []) s1 Q)) : zJ x d 183 118 [some (.inl x0), some (.inl x1)] [] s Q := zJ_of (b := b183_118) (by rw [kBlk, kb_183]; rfl) h
set_option maxRecDepth 100000 in
theorem B183_125 {x : List Int} {d : Nat} {s : zSt} {Q : zQ} {x0 : Int} {x1 : Int} {y0 : Int}  (h : ((y0 : Int) = 0 ∨ (y0 : Int) = 1) ∧ Q (some (.inl y0)) s) : zJ x d 183 125 [some (.inl x0), some (.inl x1)] [.inl y0] s Q := zJ_of (b := b183_125) (by rw [kBlk, kb_183]; rfl) h
set_option maxRecDepth 100000 in
theorem B183_126 {x : List Int} {d : Nat} {s : zSt} {Q : zQ} {x0 : Int} {x1 : Int}  (h : zE x d 170 [.inl x1, .inl 0, .inl 9] s (fun r s1 => zJ x d 183 133 [some (.inl x0), some (.inl x1)] (zAp r []) s1 Q)) : zJ x d 183 126 [some (.inl x0), some (.inl x1)] [] s Q := zJ_of (b := b183_126) (by rw [kBlk, kb_183]; rfl) h
set_option maxRecDepth 100000 in
theorem B183_133 {x : List Int} {d : Nat} {s : zSt} {Q : zQ} {x0 : Int} {x1 : Int} {y0 : Int}  (h : ((y0 : Int) = 0 ∨ (y0 : Int) = 1) ∧ Q (some (.inl y0)) s) : zJ x d 183 133 [some (.inl x0), some (.inl x1)] [.inl y0] s Q := zJ_of (b := b183_133) (by rw [kBlk, kb_183]; rfl) h
set_option maxRecDepth 100000 in
theorem B183_134 {x : List Int} {d : Nat} {s : zSt} {Q : zQ} {x0 : Int} {x1 : Int}  (h : zE x d 170 [.inl x1, .inl 0, .inl 12] s (fun r s1 => zJ x d 183 141 [some (.inl x0), some (.inl x1)] (zAp r []) s1 Q)) : zJ x d 183 134 [some (.inl x0), some (.inl x1)] [] s Q := zJ_of (b := b183_134) (by rw [kBlk, kb_183]; rfl) h
set_option maxRecDepth 100000 in
theorem B183_141 {x : List Int} {d : Nat} {s : zSt} {Q : zQ} {x0 : Int} {x1 : Int} {y0 : Int}  (h : ((y0 : Int) = 0 ∨ (y0 : Int) = 1) ∧ Q (some (.inl y0)) s) : zJ x d 183 141 [some (.inl x0), some (.inl x1)] [.inl y0] s Q := zJ_of (b := b183_141) (by rw [kBlk, kb_183]; rfl) h
set_option maxRecDepth 100000 in
theorem B183_142 {x : List Int} {d : Nat} {s : zSt} {Q : zQ} {x0 : Int} {x1 : Int}  (h : zE x d 170 [.inl x1, .inl 1, .inl 4] s (fun r s1 => zJ x d 183 148 [some (.inl x0), some (.inl x1)] (zAp r []) s1 Q)) : zJ x d 183 142 [some (.inl x0), some (.inl x1)] [] s Q := zJ_of (b := b183_142) (by rw [kBlk, kb_183]; rfl) h
set_option maxRecDepth 100000 in
theorem B183_148 {x : List Int} {d : Nat} {s : zSt} {Q : zQ} {x0 : Int} {x1 : Int} {y0 : Int}  (h : ((y0 : Int) = 0 ∨ (y0 : Int) = 1) ∧ Q (some (.inl y0)) s) : zJ x d 183 148 [some (.inl x0), some (.inl x1)] [.inl y0] s Q := zJ_of (b := b183_148) (by rw [kBlk, kb_183]; rfl) h
set_option maxRecDepth 100000 in
theorem B183_149 {x : List Int} {d : Nat} {s : zSt} {Q : zQ} {x0 : Int} {x1 : Int}  (h : zE x d 170 [.inl x1, .inl 0, .inl 999] s (fun r s1 => zJ x d 183 157 [some (.inl x0), some (.inl x1)] (zAp r []) s1 Q)) : zJ x d 183 149 [some (.inl x0), some (.inl x1)] [] s Q := zJ_of (b := b183_149) (by rw [kBlk, kb_183]; rfl) h
set_option maxRecDepth 100000 in
theorem B183_157 {x : List Int} {d : Nat} {s : zSt} {Q : zQ} {x0 : Int} {x1 : Int} {y0 : Int}  (h : ((y0 : Int) = 0 ∨ (y0 : Int) = 1) ∧ Q (some (.inl y0)) s) : zJ x d 183 157 [some (.inl x0), some (.inl x1)] [.inl y0] s Q := zJ_of (b := b183_157) (by rw [kBlk, kb_183]; rfl) h
set_option maxRecDepth 100000 in
theorem B183_158 {x : List Int} {d : Nat} {s : zSt} {Q : zQ} {x0 : Int} {x1 : Int}  (h : zE x d 170 [.inl x1, .inl 0, .inl 9999] s (fun r s1 => zJ x d 183 166 [some (.inl x0), some (.inl x1)] (zAp r []) s1 Q)) : zJ x d 183 158 [some (.inl x0), some (.inl x1)] [] s Q := zJ_of (b := b183_158) (by rw [kBlk, kb_183]; rfl) h
set_option maxRecDepth 100000 in
theorem B183_166 {x : List Int} {d : Nat} {s : zSt} {Q : zQ} {x0 : Int} {x1 : Int} {y0 : Int}  (h : ((y0 : Int) = 0 ∨ (y0 : Int) = 1) ∧ Q (some (.inl y0)) s) : zJ x d 183 166 [some (.inl x0), some (.inl x1)] [.inl y0] s Q := zJ_of (b := b183_166) (by rw [kBlk, kb_183]; rfl) h
set_option maxRecDepth 100000 in
theorem N183 {x : List Int} {d : Nat} {s : zSt} {Q : zQ} {x0 : Int} {x1 : Int} (h : zJ x d 183 0 [some (.inl x0), some (.inl x1)] [] s Q) : zE x (d + 1) 183 [.inl x0, .inl x1] s Q := zE_of (n := 2) rfl rfl rfl rfl (fun h => (zLok_some (h _ (List.mem_of_getElem? (i := 0) rfl)) (zLok_some (h _ (List.mem_of_getElem? (i := 1) rfl)) zLok_nil))) h
-- 184: PennyALapModel.mend
set_option maxRecDepth 100000 in
theorem kb_184 : kBls.getD 184 [] = c184 := rfl
set_option maxRecDepth 100000 in
theorem B184_0 {x : List Int} {d : Nat} {s : zSt} {Q : zQ} {x1 : Int} {x2 : Int} {x3 : Int}  (h : zE x d 182 [.inr (.inl 42), .inl x1, .inl x2] s (fun r s1 => zJ x d 184 6 [some (.inr (.inl 42)), some (.inl x1), some (.inl x2), some (.inl x3)] (zAp r []) s1 Q)) : zJ x d 184 0 [some (.inr (.inl 42)), some (.inl x1), some (.inl x2), some (.inl x3)] [] s Q := zJ_of (b := b184_0) (by rw [kBlk, kb_184]; rfl) h
set_option maxRecDepth 100000 in
theorem B184_6 {x : List Int} {d : Nat} {s : zSt} {Q : zQ} {x1 : Int} {x2 : Int} {x3 : Int} {y0 : Int}  (h : (y0 = 0 → zJ x d 184 27 [some (.inr (.inl 42)), some (.inl x1), some (.inl x2), some (.inl x3)] [] s Q) ∧ (¬ (y0 = 0) → zE x d 183 [.inl x2, .inl x3] s (fun r s1 => zJ x d 184 14 [some (.inr (.inl 42)), some (.inl x1), some (.inl x2), some (.inl x3)] (zAp r []) s1 Q))) : zJ x d 184 6 [some (.inr (.inl 42)), some (.inl x1), some (.inl x2), some (.inl x3)] [.inl y0] s Q := zJ_of (b := b184_6) (by rw [kBlk, kb_184]; rfl) h
set_option maxRecDepth 100000 in
theorem B184_14 {x : List Int} {d : Nat} {s : zSt} {Q : zQ} {x1 : Int} {x2 : Int} {x3 : Int} {y0 : Int}  (h : (y0 = 0 → zJ x d 184 27 [some (.inr (.inl 42)), some (.inl x1), some (.inl x2), some (.inl x3)] [] s Q) ∧ (¬ (y0 = 0) → zE x d 179 [.inr (.inl 42), .inl x2, .inl x1, .inl x3] s (fun r s1 => zJ x d 184 24 [some (.inr (.inl 42)), some (.inl x1), some (.inl x2), some (.inl x3)] (zAp r []) s1 Q))) : zJ x d 184 14 [some (.inr (.inl 42)), some (.inl x1), some (.inl x2), some (.inl x3)] [.inl y0] s Q := zJ_of (b := b184_14) (by rw [kBlk, kb_184]; rfl) h
set_option maxRecDepth 100000 in
theorem B184_24 {x : List Int} {d : Nat} {s : zSt} {Q : zQ} {x1 : Int} {x2 : Int} {x3 : Int} {y0 : Int}  (h : zJ x d 184 28 [some (.inr (.inl 42)), some (.inl x1), some (.inl x2), some (.inl x3)] [.inl y0] s Q) : zJ x d 184 24 [some (.inr (.inl 42)), some (.inl x1), some (.inl x2), some (.inl x3)] [.inl y0] s Q := zJ_of (b := b184_24) (by rw [kBlk, kb_184]; rfl) h
set_option maxRecDepth 100000 in
theorem B184_27 {x : List Int} {d : Nat} {s : zSt} {Q : zQ} {x1 : Int} {x2 : Int} {x3 : Int}  (h : zJ x d 184 28 [some (.inr (.inl 42)), some (.inl x1), some (.inl x2), some (.inl x3)] [.inl (-1)] s Q) : zJ x d 184 27 [some (.inr (.inl 42)), some (.inl x1), some (.inl x2), some (.inl x3)] [] s Q := zJ_of (b := b184_27) (by rw [kBlk, kb_184]; rfl) h
set_option maxRecDepth 100000 in
theorem B184_28 {x : List Int} {d : Nat} {s : zSt} {Q : zQ} {x1 : Int} {x2 : Int} {x3 : Int} {y0 : Int}  (h : Q (some (.inl y0)) s) : zJ x d 184 28 [some (.inr (.inl 42)), some (.inl x1), some (.inl x2), some (.inl x3)] [.inl y0] s Q := zJ_of (b := b184_28) (by rw [kBlk, kb_184]; rfl) h
set_option maxRecDepth 100000 in
theorem N184 {x : List Int} {d : Nat} {s : zSt} {Q : zQ} {x1 : Int} {x2 : Int} {x3 : Int} (h : zJ x d 184 0 [some (.inr (.inl 42)), some (.inl x1), some (.inl x2), some (.inl x3)] [] s Q) : zE x (d + 1) 184 [.inr (.inl 42), .inl x1, .inl x2, .inl x3] s Q := zE_of (n := 4) rfl rfl rfl rfl (fun h => (zLok_some (h _ (List.mem_of_getElem? (i := 0) rfl)) (zLok_some (h _ (List.mem_of_getElem? (i := 1) rfl)) (zLok_some (h _ (List.mem_of_getElem? (i := 2) rfl)) (zLok_some (h _ (List.mem_of_getElem? (i := 3) rfl)) zLok_nil))))) h
-- 185: PennyALapModel.of
set_option maxRecDepth 100000 in
theorem kb_185 : kBls.getD 185 [] = c185 := rfl
set_option maxRecDepth 100000 in
theorem B185_0 {x : List Int} {d : Nat} {s : zSt} {Q : zQ} {x1 : Int} {x2 : Int}  (h : zE x d 170 [.inl x2, .inl 0, .inl 12] s (fun r s1 => zJ x d 185 7 [some (.inr (.inl 42)), some (.inl x1), some (.inl x2)] (zAp r []) s1 Q)) : zJ x d 185 0 [some (.inr (.inl 42)), some (.inl x1), some (.inl x2)] [] s Q := zJ_of (b := b185_0) (by rw [kBlk, kb_185]; rfl) h
set_option maxRecDepth 100000 in
theorem B185_7 {x : List Int} {d : Nat} {s : zSt} {Q : zQ} {x1 : Int} {x2 : Int} {y0 : Int}  (h : (y0 = 0 → zJ x d 185 30 [some (.inr (.inl 42)), some (.inl x1), some (.inl x2)] [] s Q) ∧ (¬ (y0 = 0) → zE x d 182 [.inr (.inl 42), .inl x1, .inl x2] s (fun r s1 => zJ x d 185 16 [some (.inr (.inl 42)), some (.inl x1), some (.inl x2)] (zAp r []) s1 Q))) : zJ x d 185 7 [some (.inr (.inl 42)), some (.inl x1), some (.inl x2)] [.inl y0] s Q := zJ_of (b := b185_7) (by rw [kBlk, kb_185]; rfl) h
set_option maxRecDepth 100000 in
theorem B185_16 {x : List Int} {d : Nat} {s : zSt} {Q : zQ} {x1 : Int} {x2 : Int} {y0 : Int}  (h : (y0 = 0 → zJ x d 185 28 [some (.inr (.inl 42)), some (.inl x1), some (.inl x2)] [] s Q) ∧ (¬ (y0 = 0) → zE x d 177 [.inr (.inl 42), .inl x2, .inl x1] s (fun r s1 => zJ x d 185 25 [some (.inr (.inl 42)), some (.inl x1), some (.inl x2)] (zAp r []) s1 Q))) : zJ x d 185 16 [some (.inr (.inl 42)), some (.inl x1), some (.inl x2)] [.inl y0] s Q := zJ_of (b := b185_16) (by rw [kBlk, kb_185]; rfl) h
set_option maxRecDepth 100000 in
theorem B185_25 {x : List Int} {d : Nat} {s : zSt} {Q : zQ} {x1 : Int} {x2 : Int} {y0 : Int}  (h : zJ x d 185 29 [some (.inr (.inl 42)), some (.inl x1), some (.inl x2)] [.inl y0] s Q) : zJ x d 185 25 [some (.inr (.inl 42)), some (.inl x1), some (.inl x2)] [.inl y0] s Q := zJ_of (b := b185_25) (by rw [kBlk, kb_185]; rfl) h
set_option maxRecDepth 100000 in
theorem B185_28 {x : List Int} {d : Nat} {s : zSt} {Q : zQ} {x1 : Int} {x2 : Int}  (h : zJ x d 185 29 [some (.inr (.inl 42)), some (.inl x1), some (.inl x2)] [.inl (-1)] s Q) : zJ x d 185 28 [some (.inr (.inl 42)), some (.inl x1), some (.inl x2)] [] s Q := zJ_of (b := b185_28) (by rw [kBlk, kb_185]; rfl) h
set_option maxRecDepth 100000 in
theorem B185_29 {x : List Int} {d : Nat} {s : zSt} {Q : zQ} {x1 : Int} {x2 : Int} {y0 : Int}  (h : Q (some (.inl y0)) s) : zJ x d 185 29 [some (.inr (.inl 42)), some (.inl x1), some (.inl x2)] [.inl y0] s Q := zJ_of (b := b185_29) (by rw [kBlk, kb_185]; rfl) h
set_option maxRecDepth 100000 in
theorem B185_30 {x : List Int} {d : Nat} {s : zSt} {Q : zQ} {x1 : Int} {x2 : Int}  (h : zE x d 170 [.inl x2, .inl 13, .inl 14] s (fun r s1 => zJ x d 185 38 [some (.inr (.inl 42)), some (.inl x1), some (.inl x2)] (zAp r []) s1 Q)) : zJ x d 185 30 [some (.inr (.inl 42)), some (.inl x1), some (.inl x2)] [] s Q := zJ_of (b := b185_30) (by rw [kBlk, kb_185]; rfl) h
set_option maxRecDepth 100000 in
theorem B185_38 {x : List Int} {d : Nat} {s : zSt} {Q : zQ} {x1 : Int} {x2 : Int} {y0 : Int}  (h : (y0 = 0 → zJ x d 185 75 [some (.inr (.inl 42)), some (.inl x1), some (.inl x2)] [] s Q) ∧ (¬ (y0 = 0) → zE x d 172 [.inr (.inl 42), .inl x1] s (fun r s1 => zJ x d 185 46 [some (.inr (.inl 42)), some (.inl x1), some (.inl x2)] (zAp r []) s1 Q))) : zJ x d 185 38 [some (.inr (.inl 42)), some (.inl x1), some (.inl x2)] [.inl y0] s Q := zJ_of (b := b185_38) (by rw [kBlk, kb_185]; rfl) h
set_option maxRecDepth 100000 in
theorem B185_46 {x : List Int} {d : Nat} {s : zSt} {Q : zQ} {x1 : Int} {x2 : Int} {y0 : Int}  (h : (¬ y0 = 0 → zJ x d 185 53 [some (.inr (.inl 42)), some (.inl x1), some (.inl x2)] [] s Q) ∧ (¬ (¬ y0 = 0) → zJ x d 185 74 [some (.inr (.inl 42)), some (.inl x1), some (.inl x2)] [.inl (-1)] s Q)) : zJ x d 185 46 [some (.inr (.inl 42)), some (.inl x1), some (.inl x2)] [.inl y0] s Q := zJ_of (b := b185_46) (by rw [kBlk, kb_185]; rfl) h
set_option maxRecDepth 100000 in
theorem B185_53 {x : List Int} {d : Nat} {s : zSt} {Q : zQ} {x1 : Int} {x2 : Int}  (h : (¬ x2 = 13 → zJ x d 185 68 [some (.inr (.inl 42)), some (.inl x1), some (.inl x2)] [] s Q) ∧ (¬ (¬ x2 = 13) → (0 : Int) ≤ x1 ∧ (x1 : Int) < 16 ∧ (zJ x d 185 74 [some (.inr (.inl 42)), some (.inl x1), some (.inl x2)] [.inl (s 47 (x1).toNat)] s Q))) : zJ x d 185 53 [some (.inr (.inl 42)), some (.inl x1), some (.inl x2)] [] s Q := zJ_of (b := b185_53) (by rw [kBlk, kb_185]; rfl) h
set_option maxRecDepth 100000 in
theorem B185_68 {x : List Int} {d : Nat} {s : zSt} {Q : zQ} {x1 : Int} {x2 : Int}  (h : (0 : Int) ≤ x1 ∧ (x1 : Int) < 16 ∧ (zJ x d 185 74 [some (.inr (.inl 42)), some (.inl x1), some (.inl x2)] [.inl (s 72 (x1).toNat)] s Q)) : zJ x d 185 68 [some (.inr (.inl 42)), some (.inl x1), some (.inl x2)] [] s Q := zJ_of (b := b185_68) (by rw [kBlk, kb_185]; rfl) h
set_option maxRecDepth 100000 in
theorem B185_74 {x : List Int} {d : Nat} {s : zSt} {Q : zQ} {x1 : Int} {x2 : Int} {y0 : Int}  (h : Q (some (.inl y0)) s) : zJ x d 185 74 [some (.inr (.inl 42)), some (.inl x1), some (.inl x2)] [.inl y0] s Q := zJ_of (b := b185_74) (by rw [kBlk, kb_185]; rfl) h
set_option maxRecDepth 100000 in
theorem B185_75 {x : List Int} {d : Nat} {s : zSt} {Q : zQ} {x1 : Int} {x2 : Int}  (h : zE x d 170 [.inl x2, .inl 15, .inl 16] s (fun r s1 => zJ x d 185 83 [some (.inr (.inl 42)), some (.inl x1), some (.inl x2)] (zAp r []) s1 Q)) : zJ x d 185 75 [some (.inr (.inl 42)), some (.inl x1), some (.inl x2)] [] s Q := zJ_of (b := b185_75) (by rw [kBlk, kb_185]; rfl) h
set_option maxRecDepth 100000 in
theorem B185_83 {x : List Int} {d : Nat} {s : zSt} {Q : zQ} {x1 : Int} {x2 : Int} {y0 : Int}  (h : (y0 = 0 → zJ x d 185 120 [some (.inr (.inl 42)), some (.inl x1), some (.inl x2)] [] s Q) ∧ (¬ (y0 = 0) → zE x d 171 [.inr (.inl 42), .inl x1] s (fun r s1 => zJ x d 185 91 [some (.inr (.inl 42)), some (.inl x1), some (.inl x2)] (zAp r []) s1 Q))) : zJ x d 185 83 [some (.inr (.inl 42)), some (.inl x1), some (.inl x2)] [.inl y0] s Q := zJ_of (b := b185_83) (by rw [kBlk, kb_185]; rfl) h
set_option maxRecDepth 100000 in
theorem B185_91 {x : List Int} {d : Nat} {s : zSt} {Q : zQ} {x1 : Int} {x2 : Int} {y0 : Int}  (h : (¬ y0 = 0 → zJ x d 185 98 [some (.inr (.inl 42)), some (.inl x1), some (.inl x2)] [] s Q) ∧ (¬ (¬ y0 = 0) → zJ x d 185 119 [some (.inr (.inl 42)), some (.inl x1), some (.inl x2)] [.inl (-1)] s Q)) : zJ x d 185 91 [some (.inr (.inl 42)), some (.inl x1), some (.inl x2)] [.inl y0] s Q := zJ_of (b := b185_91) (by rw [kBlk, kb_185]; rfl) h
set_option maxRecDepth 100000 in
theorem B185_98 {x : List Int} {d : Nat} {s : zSt} {Q : zQ} {x1 : Int} {x2 : Int}  (h : (¬ x2 = 15 → zJ x d 185 113 [some (.inr (.inl 42)), some (.inl x1), some (.inl x2)] [] s Q) ∧ (¬ (¬ x2 = 15) → (0 : Int) ≤ x1 ∧ (x1 : Int) < 6 ∧ (zJ x d 185 119 [some (.inr (.inl 42)), some (.inl x1), some (.inl x2)] [.inl (s 70 (x1).toNat)] s Q))) : zJ x d 185 98 [some (.inr (.inl 42)), some (.inl x1), some (.inl x2)] [] s Q := zJ_of (b := b185_98) (by rw [kBlk, kb_185]; rfl) h
set_option maxRecDepth 100000 in
theorem B185_113 {x : List Int} {d : Nat} {s : zSt} {Q : zQ} {x1 : Int} {x2 : Int}  (h : (0 : Int) ≤ x1 ∧ (x1 : Int) < 6 ∧ (zJ x d 185 119 [some (.inr (.inl 42)), some (.inl x1), some (.inl x2)] [.inl (s 71 (x1).toNat)] s Q)) : zJ x d 185 113 [some (.inr (.inl 42)), some (.inl x1), some (.inl x2)] [] s Q := zJ_of (b := b185_113) (by rw [kBlk, kb_185]; rfl) h
set_option maxRecDepth 100000 in
theorem B185_119 {x : List Int} {d : Nat} {s : zSt} {Q : zQ} {x1 : Int} {x2 : Int} {y0 : Int}  (h : Q (some (.inl y0)) s) : zJ x d 185 119 [some (.inr (.inl 42)), some (.inl x1), some (.inl x2)] [.inl y0] s Q := zJ_of (b := b185_119) (by rw [kBlk, kb_185]; rfl) h
set_option maxRecDepth 100000 in
theorem B185_120 {x : List Int} {d : Nat} {s : zSt} {Q : zQ} {x1 : Int} {x2 : Int}  (h : Q (some (.inl (-1))) s) : zJ x d 185 120 [some (.inr (.inl 42)), some (.inl x1), some (.inl x2)] [] s Q := zJ_of (b := b185_120) (by rw [kBlk, kb_185]; rfl) h
set_option maxRecDepth 100000 in
theorem N185 {x : List Int} {d : Nat} {s : zSt} {Q : zQ} {x1 : Int} {x2 : Int} (h : zJ x d 185 0 [some (.inr (.inl 42)), some (.inl x1), some (.inl x2)] [] s Q) : zE x (d + 1) 185 [.inr (.inl 42), .inl x1, .inl x2] s Q := zE_of (n := 3) rfl rfl rfl rfl (fun h => (zLok_some (h _ (List.mem_of_getElem? (i := 0) rfl)) (zLok_some (h _ (List.mem_of_getElem? (i := 1) rfl)) (zLok_some (h _ (List.mem_of_getElem? (i := 2) rfl)) zLok_nil)))) h
-- 186: PennyALapModel.feed
set_option maxRecDepth 100000 in
theorem kb_186 : kBls.getD 186 [] = c186 := rfl
set_option maxRecDepth 100000 in
theorem B186_0 {x : List Int} {d : Nat} {s : zSt} {Q : zQ} {x1 : Int}  (h : zE x d 170 [.inl x1, .inl 0, .inl 255] s (fun r s1 => zJ x d 186 8 [some (.inr (.inl 42)), some (.inl x1)] (zAp r []) s1 Q)) : zJ x d 186 0 [some (.inr (.inl 42)), some (.inl x1)] [] s Q := zJ_of (b := b186_0) (by rw [kBlk, kb_186]; rfl) h
set_option maxRecDepth 100000 in
theorem B186_8 {x : List Int} {d : Nat} {s : zSt} {Q : zQ} {x1 : Int} {y0 : Int}  (h : (¬ y0 = 0 → zJ x d 186 13 [some (.inr (.inl 42)), some (.inl x1)] [] s Q) ∧ (¬ (¬ y0 = 0) → Q (some (.inl (-1))) s)) : zJ x d 186 8 [some (.inr (.inl 42)), some (.inl x1)] [.inl y0] s Q := zJ_of (b := b186_8) (by rw [kBlk, kb_186]; rfl) h
set_option maxRecDepth 100000 in
theorem B186_13 {x : List Int} {d : Nat} {s : zSt} {Q : zQ} {x1 : Int}  (h : (¬ s 42 24 = 120 → zJ x d 186 25 [some (.inr (.inl 42)), some (.inl x1)] [] s Q) ∧ (¬ (¬ s 42 24 = 120) → Q (some (.inl (-3))) s)) : zJ x d 186 13 [some (.inr (.inl 42)), some (.inl x1)] [] s Q := zJ_of (b := b186_13) (by rw [kBlk, kb_186]; rfl) h
set_option maxRecDepth 100000 in
theorem B186_25 {x : List Int} {d : Nat} {s : zSt} {Q : zQ} {x1 : Int}  (h : (0 : Int) ≤ s 42 24 ∧ (s 42 24 : Int) < 120 ∧ (Q (some (.inl (wr ((s 42 24) + 1)))) (zU (zU s 57 (s 42 24).toNat (w8 (w8 x1))) 42 24 (wr ((s 42 24) + 1))))) : zJ x d 186 25 [some (.inr (.inl 42)), some (.inl x1)] [] s Q := zJ_of (b := b186_25) (by rw [kBlk, kb_186]; rfl) h
set_option maxRecDepth 100000 in
theorem N186 {x : List Int} {d : Nat} {s : zSt} {Q : zQ} {x1 : Int} (h : zJ x d 186 0 [some (.inr (.inl 42)), some (.inl x1)] [] s Q) : zE x (d + 1) 186 [.inr (.inl 42), .inl x1] s Q := zE_of (n := 2) rfl rfl rfl rfl (fun h => (zLok_some (h _ (List.mem_of_getElem? (i := 0) rfl)) (zLok_some (h _ (List.mem_of_getElem? (i := 1) rfl)) zLok_nil))) h
-- 187: PennyALapModel.look
set_option maxRecDepth 100000 in
theorem kb_187 : kBls.getD 187 [] = c187 := rfl
set_option maxRecDepth 100000 in
theorem B187_0 {x : List Int} {d : Nat} {s : zSt} {Q : zQ}   (h : (s 42 24 ≤ s 42 25 → zJ x d 187 23 [some (.inr (.inl 42))] [] s Q) ∧ (¬ (s 42 24 ≤ s 42 25) → (0 : Int) ≤ s 42 25 ∧ (s 42 25 : Int) < 120 ∧ (zJ x d 187 24 [some (.inr (.inl 42))] [.inl (s 57 (s 42 25).toNat)] s Q))) : zJ x d 187 0 [some (.inr (.inl 42))] [] s Q := zJ_of (b := b187_0) (by rw [kBlk, kb_187]; rfl) h
set_option maxRecDepth 100000 in
theorem B187_23 {x : List Int} {d : Nat} {s : zSt} {Q : zQ}   (h : zJ x d 187 24 [some (.inr (.inl 42))] [.inl (-1)] s Q) : zJ x d 187 23 [some (.inr (.inl 42))] [] s Q := zJ_of (b := b187_23) (by rw [kBlk, kb_187]; rfl) h
set_option maxRecDepth 100000 in
theorem B187_24 {x : List Int} {d : Nat} {s : zSt} {Q : zQ} {y0 : Int}  (h : Q (some (.inl y0)) s) : zJ x d 187 24 [some (.inr (.inl 42))] [.inl y0] s Q := zJ_of (b := b187_24) (by rw [kBlk, kb_187]; rfl) h
set_option maxRecDepth 100000 in
theorem N187 {x : List Int} {d : Nat} {s : zSt} {Q : zQ}  (h : zJ x d 187 0 [some (.inr (.inl 42))] [] s Q) : zE x (d + 1) 187 [.inr (.inl 42)] s Q := zE_of (n := 1) rfl rfl rfl rfl (fun h => (zLok_some (h _ (List.mem_of_getElem? (i := 0) rfl)) zLok_nil)) h
-- 188: PennyALapModel.wrong
set_option maxRecDepth 100000 in
theorem kb_188 : kBls.getD 188 [] = c188 := rfl
set_option maxRecDepth 100000 in
theorem B188_0 {x : List Int} {d : Nat} {s : zSt} {Q : zQ}   (h : (0 ≤ s 42 26 → zJ x d 188 15 [some (.inr (.inl 42))] [] s Q) ∧ (¬ (0 ≤ s 42 26) → zJ x d 188 15 [some (.inr (.inl 42))] [] (zU s 42 26 (s 42 25)) Q)) : zJ x d 188 0 [some (.inr (.inl 42))] [] s Q := zJ_of (b := b188_0) (by rw [kBlk, kb_188]; rfl) h
set_option maxRecDepth 100000 in
theorem B188_15 {x : List Int} {d : Nat} {s : zSt} {Q : zQ}   (h : Q none s) : zJ x d 188 15 [some (.inr (.inl 42))] [] s Q := zJ_of (b := b188_15) (by rw [kBlk, kb_188]; rfl) h
set_option maxRecDepth 100000 in
theorem N188 {x : List Int} {d : Nat} {s : zSt} {Q : zQ}  (h : zJ x d 188 0 [some (.inr (.inl 42))] [] s Q) : zE x (d + 1) 188 [.inr (.inl 42)] s Q := zE_of (n := 1) rfl rfl rfl rfl (fun h => (zLok_some (h _ (List.mem_of_getElem? (i := 0) rfl)) zLok_nil)) h
-- 189: PennyALapModel.addStep
set_option maxRecDepth 100000 in
theorem kb_189 : kBls.getD 189 [] = c189 := rfl
set_option maxRecDepth 100000 in
theorem B189_0 {x : List Int} {d : Nat} {s : zSt} {Q : zQ} {x1 : Int} {x2 : Int}  (h : (0 : Int) ≤ wr (130 + (s 42 28)) ∧ (wr (130 + (s 42 28)) : Int) < 260 ∧ ((0 : Int) ≤ wr (130 + (s 42 28)) ∧ (wr (130 + (s 42 28)) : Int) < 260 ∧ (Q none (zU (zU (zU s 58 (wr (130 + (s 42 28))).toNat (w8 (w8 x1))) 59 (wr (130 + (s 42 28))).toNat x2) 42 28 (wr ((s 42 28) + 1)))))) : zJ x d 189 0 [some (.inr (.inl 42)), some (.inl x1), some (.inl x2)] [] s Q := zJ_of (b := b189_0) (by rw [kBlk, kb_189]; rfl) h
set_option maxRecDepth 100000 in
theorem N189 {x : List Int} {d : Nat} {s : zSt} {Q : zQ} {x1 : Int} {x2 : Int} (h : zJ x d 189 0 [some (.inr (.inl 42)), some (.inl x1), some (.inl x2)] [] s Q) : zE x (d + 1) 189 [.inr (.inl 42), .inl x1, .inl x2] s Q := zE_of (n := 3) rfl rfl rfl rfl (fun h => (zLok_some (h _ (List.mem_of_getElem? (i := 0) rfl)) (zLok_some (h _ (List.mem_of_getElem? (i := 1) rfl)) (zLok_some (h _ (List.mem_of_getElem? (i := 2) rfl)) zLok_nil)))) h
-- 190: PennyALapModel.nameOf
set_option maxRecDepth 100000 in
theorem kb_190 : kBls.getD 190 [] = c190 := rfl
set_option maxRecDepth 100000 in
theorem B190_0 {x : List Int} {d : Nat} {s : zSt} {Q : zQ} {x0 : Int}  (h : (x0 = 99 → zJ x d 190 98 [some (.inl x0)] [] s Q) ∧ (¬ x0 = 99 → (x0 = 100 → zJ x d 190 100 [some (.inl x0)] [] s Q) ∧ (¬ x0 = 100 → (x0 = 101 → zJ x d 190 100 [some (.inl x0)] [] s Q) ∧ (¬ x0 = 101 → (x0 = 102 → zJ x d 190 100 [some (.inl x0)] [] s Q) ∧ (¬ x0 = 102 → (x0 = 103 → zJ x d 190 100 [some (.inl x0)] [] s Q) ∧ (¬ x0 = 103 → (x0 = 104 → zJ x d 190 100 [some (.inl x0)] [] s Q) ∧ (¬ x0 = 104 → (x0 = 105 → zJ x d 190 100 [some (.inl x0)] [] s Q) ∧ (¬ x0 = 105 → (x0 = 106 → zJ x d 190 100 [some (.inl x0)] [] s Q) ∧ (¬ x0 = 106 → (x0 = 107 → zJ x d 190 92 [some (.inl x0)] [] s Q) ∧ (¬ x0 = 107 → (x0 = 108 → zJ x d 190 100 [some (.inl x0)] [] s Q) ∧ (¬ x0 = 108 → (x0 = 109 → zJ x d 190 94 [some (.inl x0)] [] s Q) ∧ (¬ x0 = 109 → (x0 = 110 → zJ x d 190 100 [some (.inl x0)] [] s Q) ∧ (¬ x0 = 110 → (x0 = 111 → zJ x d 190 100 [some (.inl x0)] [] s Q) ∧ (¬ x0 = 111 → (x0 = 112 → zJ x d 190 88 [some (.inl x0)] [] s Q) ∧ (¬ x0 = 112 → (x0 = 113 → zJ x d 190 100 [some (.inl x0)] [] s Q) ∧ (¬ x0 = 113 → (x0 = 114 → zJ x d 190 96 [some (.inl x0)] [] s Q) ∧ (¬ x0 = 114 → (x0 = 115 → zJ x d 190 100 [some (.inl x0)] [] s Q) ∧ (¬ x0 = 115 → (x0 = 116 → zJ x d 190 90 [some (.inl x0)] [] s Q) ∧ (¬ x0 = 116 → zJ x d 190 100 [some (.inl x0)] [] s Q))))))))))))))))))) : zJ x d 190 0 [some (.inl x0)] [] s Q := zJ_of (b := b190_0) (by rw [kBlk, kb_190]; rfl) h
set_option maxRecDepth 100000 in
theorem B190_88 {x : List Int} {d : Nat} {s : zSt} {Q : zQ} {x0 : Int}  (h : Q (some (.inl 0)) s) : zJ x d 190 88 [some (.inl x0)] [] s Q := zJ_of (b := b190_88) (by rw [kBlk, kb_190]; rfl) h
set_option maxRecDepth 100000 in
theorem B190_90 {x : List Int} {d : Nat} {s : zSt} {Q : zQ} {x0 : Int}  (h : Q (some (.inl 1)) s) : zJ x d 190 90 [some (.inl x0)] [] s Q := zJ_of (b := b190_90) (by rw [kBlk, kb_190]; rfl) h
set_option maxRecDepth 100000 in
theorem B190_92 {x : List Int} {d : Nat} {s : zSt} {Q : zQ} {x0 : Int}  (h : Q (some (.inl 2)) s) : zJ x d 190 92 [some (.inl x0)] [] s Q := zJ_of (b := b190_92) (by rw [kBlk, kb_190]; rfl) h
set_option maxRecDepth 100000 in
theorem B190_94 {x : List Int} {d : Nat} {s : zSt} {Q : zQ} {x0 : Int}  (h : Q (some (.inl 3)) s) : zJ x d 190 94 [some (.inl x0)] [] s Q := zJ_of (b := b190_94) (by rw [kBlk, kb_190]; rfl) h
set_option maxRecDepth 100000 in
theorem B190_96 {x : List Int} {d : Nat} {s : zSt} {Q : zQ} {x0 : Int}  (h : Q (some (.inl 4)) s) : zJ x d 190 96 [some (.inl x0)] [] s Q := zJ_of (b := b190_96) (by rw [kBlk, kb_190]; rfl) h
set_option maxRecDepth 100000 in
theorem B190_98 {x : List Int} {d : Nat} {s : zSt} {Q : zQ} {x0 : Int}  (h : Q (some (.inl 5)) s) : zJ x d 190 98 [some (.inl x0)] [] s Q := zJ_of (b := b190_98) (by rw [kBlk, kb_190]; rfl) h
set_option maxRecDepth 100000 in
theorem B190_100 {x : List Int} {d : Nat} {s : zSt} {Q : zQ} {x0 : Int}  (h : Q (some (.inl (-1))) s) : zJ x d 190 100 [some (.inl x0)] [] s Q := zJ_of (b := b190_100) (by rw [kBlk, kb_190]; rfl) h
set_option maxRecDepth 100000 in
theorem N190 {x : List Int} {d : Nat} {s : zSt} {Q : zQ} {x0 : Int} (h : zJ x d 190 0 [some (.inl x0)] [] s Q) : zE x (d + 1) 190 [.inl x0] s Q := zE_of (n := 1) rfl rfl rfl rfl (fun h => (zLok_some (h _ (List.mem_of_getElem? (i := 0) rfl)) zLok_nil)) h
-- 191: PennyALapModel.opens
set_option maxRecDepth 100000 in
theorem kb_191 : kBls.getD 191 [] = c191 := rfl
set_option maxRecDepth 100000 in
theorem B191_0 {x : List Int} {d : Nat} {s : zSt} {Q : zQ}   (h : (¬ s 42 27 = 6 → zJ x d 191 15 [some (.inr (.inl 42))] [] s Q) ∧ (¬ (¬ s 42 27 = 6) → zE x d 188 [.inr (.inl 42)] s (fun r s1 => zJ x d 191 13 [some (.inr (.inl 42))] (zAp r []) s1 Q))) : zJ x d 191 0 [some (.inr (.inl 42))] [] s Q := zJ_of (b := b191_0) (by rw [kBlk, kb_191]; rfl) h
set_option maxRecDepth 100000 in
theorem B191_13 {x : List Int} {d : Nat} {s : zSt} {Q : zQ}   (h : ((0 : Int) = 0 ∨ (0 : Int) = 1) ∧ Q (some (.inl 0)) s) : zJ x d 191 13 [some (.inr (.inl 42))] [] s Q := zJ_of (b := b191_13) (by rw [kBlk, kb_191]; rfl) h
set_option maxRecDepth 100000 in
theorem B191_15 {x : List Int} {d : Nat} {s : zSt} {Q : zQ}   (h : ((1 : Int) = 0 ∨ (1 : Int) = 1) ∧ Q (some (.inl 1)) (zU (zU s 42 27 (wr ((s 42 27) + 1))) 42 25 (wr ((s 42 25) + 1)))) : zJ x d 191 15 [some (.inr (.inl 42))] [] s Q := zJ_of (b := b191_15) (by rw [kBlk, kb_191]; rfl) h
set_option maxRecDepth 100000 in
theorem N191 {x : List Int} {d : Nat} {s : zSt} {Q : zQ}  (h : zJ x d 191 0 [some (.inr (.inl 42))] [] s Q) : zE x (d + 1) 191 [.inr (.inl 42)] s Q := zE_of (n := 1) rfl rfl rfl rfl (fun h => (zLok_some (h _ (List.mem_of_getElem? (i := 0) rfl)) zLok_nil)) h
-- 192: PennyALapModel.figure
set_option maxRecDepth 100000 in
theorem kb_192 : kBls.getD 192 [] = c192 := rfl
set_option maxRecDepth 100000 in
theorem B192_0 {x : List Int} {d : Nat} {s : zSt} {Q : zQ}   (h : zJ x d 192 4 [some (.inr (.inl 42)), some (.inl 0), some (.inl 0)] [] s Q) : zJ x d 192 0 [some (.inr (.inl 42)), none, none] [] s Q := zJ_of (b := b192_0) (by rw [kBlk, kb_192]; rfl) h
set_option maxRecDepth 100000 in
theorem B192_4 {x : List Int} {d : Nat} {s : zSt} {Q : zQ} {x1 : Int} {x2 : Int}  (h : (4 ≤ x2 → zJ x d 192 52 [some (.inr (.inl 42)), some (.inl x1), some (.inl x2)] [] s Q) ∧ (¬ (4 ≤ x2) → zE x d 187 [.inr (.inl 42)] s (fun r s1 => zJ x d 192 13 [some (.inr (.inl 42)), some (.inl x1), some (.inl x2)] (zAp r []) s1 Q))) : zJ x d 192 4 [some (.inr (.inl 42)), some (.inl x1), some (.inl x2)] [] s Q := zJ_of (b := b192_4) (by rw [kBlk, kb_192]; rfl) h
set_option maxRecDepth 100000 in
theorem B192_13 {x : List Int} {d : Nat} {s : zSt} {Q : zQ} {x1 : Int} {x2 : Int} {y0 : Int}  (h : zE x d 170 [.inl y0, .inl 48, .inl 57] s (fun r s1 => zJ x d 192 20 [some (.inr (.inl 42)), some (.inl x1), some (.inl x2)] (zAp r []) s1 Q)) : zJ x d 192 13 [some (.inr (.inl 42)), some (.inl x1), some (.inl x2)] [.inl y0] s Q := zJ_of (b := b192_13) (by rw [kBlk, kb_192]; rfl) h
set_option maxRecDepth 100000 in
theorem B192_20 {x : List Int} {d : Nat} {s : zSt} {Q : zQ} {x1 : Int} {x2 : Int} {y0 : Int}  (h : (y0 = 0 → zJ x d 192 52 [some (.inr (.inl 42)), some (.inl x1), some (.inl x2)] [] s Q) ∧ (¬ (y0 = 0) → zE x d 187 [.inr (.inl 42)] s (fun r s1 => zJ x d 192 31 [some (.inr (.inl 42)), some (.inl x1), some (.inl x2)] (zAp r [.inl (wr (10 * x1))]) s1 Q))) : zJ x d 192 20 [some (.inr (.inl 42)), some (.inl x1), some (.inl x2)] [.inl y0] s Q := zJ_of (b := b192_20) (by rw [kBlk, kb_192]; rfl) h
set_option maxRecDepth 100000 in
theorem B192_31 {x : List Int} {d : Nat} {s : zSt} {Q : zQ} {x1 : Int} {x2 : Int} {y0 : Int} {y1 : Int}  (h : zJ x d 192 4 [some (.inr (.inl 42)), some (.inl (wr ((wr (y1 + y0)) - 48))), some (.inl (wr (x2 + 1)))] [] (zU s 42 25 (wr ((s 42 25) + 1))) Q) : zJ x d 192 31 [some (.inr (.inl 42)), some (.inl x1), some (.inl x2)] [.inl y0, .inl y1] s Q := zJ_of (b := b192_31) (by rw [kBlk, kb_192]; rfl) h
set_option maxRecDepth 100000 in
theorem B192_52 {x : List Int} {d : Nat} {s : zSt} {Q : zQ} {x1 : Int} {x2 : Int}  (h : (x2 = 0 → zJ x d 192 70 [some (.inr (.inl 42)), some (.inl x1), some (.inl x2)] [] s Q) ∧ (¬ (x2 = 0) → zE x d 187 [.inr (.inl 42)] s (fun r s1 => zJ x d 192 60 [some (.inr (.inl 42)), some (.inl x1), some (.inl x2)] (zAp r []) s1 Q))) : zJ x d 192 52 [some (.inr (.inl 42)), some (.inl x1), some (.inl x2)] [] s Q := zJ_of (b := b192_52) (by rw [kBlk, kb_192]; rfl) h
set_option maxRecDepth 100000 in
theorem B192_60 {x : List Int} {d : Nat} {s : zSt} {Q : zQ} {x1 : Int} {x2 : Int} {y0 : Int}  (h : zE x d 170 [.inl y0, .inl 48, .inl 57] s (fun r s1 => zJ x d 192 67 [some (.inr (.inl 42)), some (.inl x1), some (.inl x2)] (zAp r []) s1 Q)) : zJ x d 192 60 [some (.inr (.inl 42)), some (.inl x1), some (.inl x2)] [.inl y0] s Q := zJ_of (b := b192_60) (by rw [kBlk, kb_192]; rfl) h
set_option maxRecDepth 100000 in
theorem B192_67 {x : List Int} {d : Nat} {s : zSt} {Q : zQ} {x1 : Int} {x2 : Int} {y0 : Int}  (h : (y0 = 0 → zJ x d 192 74 [some (.inr (.inl 42)), some (.inl x1), some (.inl x2)] [] s Q) ∧ (¬ (y0 = 0) → zJ x d 192 70 [some (.inr (.inl 42)), some (.inl x1), some (.inl x2)] [] s Q)) : zJ x d 192 67 [some (.inr (.inl 42)), some (.inl x1), some (.inl x2)] [.inl y0] s Q := zJ_of (b := b192_67) (by rw [kBlk, kb_192]; rfl) h
set_option maxRecDepth 100000 in
theorem B192_70 {x : List Int} {d : Nat} {s : zSt} {Q : zQ} {x1 : Int} {x2 : Int}  (h : zE x d 188 [.inr (.inl 42)] s (fun r s1 => zJ x d 192 74 [some (.inr (.inl 42)), some (.inl x1), some (.inl x2)] (zAp r []) s1 Q)) : zJ x d 192 70 [some (.inr (.inl 42)), some (.inl x1), some (.inl x2)] [] s Q := zJ_of (b := b192_70) (by rw [kBlk, kb_192]; rfl) h
set_option maxRecDepth 100000 in
theorem B192_74 {x : List Int} {d : Nat} {s : zSt} {Q : zQ} {x1 : Int} {x2 : Int}  (h : zE x d 189 [.inr (.inl 42), .inl 1, .inl x1] s (fun r s1 => zJ x d 192 80 [some (.inr (.inl 42)), some (.inl x1), some (.inl x2)] (zAp r []) s1 Q)) : zJ x d 192 74 [some (.inr (.inl 42)), some (.inl x1), some (.inl x2)] [] s Q := zJ_of (b := b192_74) (by rw [kBlk, kb_192]; rfl) h
set_option maxRecDepth 100000 in
theorem B192_80 {x : List Int} {d : Nat} {s : zSt} {Q : zQ} {x1 : Int} {x2 : Int}  (h : Q none s) : zJ x d 192 80 [some (.inr (.inl 42)), some (.inl x1), some (.inl x2)] [] s Q := zJ_of (b := b192_80) (by rw [kBlk, kb_192]; rfl) h
set_option maxRecDepth 100000 in
theorem N192 {x : List Int} {d : Nat} {s : zSt} {Q : zQ}  (h : zJ x d 192 0 [some (.inr (.inl 42)), none, none] [] s Q) : zE x (d + 1) 192 [.inr (.inl 42)] s Q := zE_of (n := 3) rfl rfl rfl rfl (fun h => (zLok_some (h _ (List.mem_of_getElem? (i := 0) rfl)) (zLok_none (zLok_none zLok_nil)))) h
-- 193: PennyALapModel.operand
set_option maxRecDepth 100000 in
theorem kb_193 : kBls.getD 193 [] = c193 := rfl
set_option maxRecDepth 100000 in
theorem B193_0 {x : List Int} {d : Nat} {s : zSt} {Q : zQ}   (h : zE x d 187 [.inr (.inl 42)] s (fun r s1 => zJ x d 193 4 [some (.inr (.inl 42)), none] (zAp r []) s1 Q)) : zJ x d 193 0 [some (.inr (.inl 42)), none] [] s Q := zJ_of (b := b193_0) (by rw [kBlk, kb_193]; rfl) h
set_option maxRecDepth 100000 in
theorem B193_4 {x : List Int} {d : Nat} {s : zSt} {Q : zQ} {y0 : Int}  (h : zE x d 190 [.inl y0] s (fun r s1 => zJ x d 193 9 [some (.inr (.inl 42)), some (.inl y0)] (zAp r []) s1 Q)) : zJ x d 193 4 [some (.inr (.inl 42)), none] [.inl y0] s Q := zJ_of (b := b193_4) (by rw [kBlk, kb_193]; rfl) h
set_option maxRecDepth 100000 in
theorem B193_9 {x : List Int} {d : Nat} {s : zSt} {Q : zQ} {x1 : Int} {y0 : Int}  (h : (y0 < 0 → zJ x d 193 34 [some (.inr (.inl 42)), some (.inl x1)] [] s Q) ∧ (¬ (y0 < 0) → zE x d 190 [.inl x1] s (fun r s1 => zJ x d 193 18 [some (.inr (.inl 42)), some (.inl x1)] (zAp r [.inl 2, .inr (.inl 42)]) s1 Q))) : zJ x d 193 9 [some (.inr (.inl 42)), some (.inl x1)] [.inl y0] s Q := zJ_of (b := b193_9) (by rw [kBlk, kb_193]; rfl) h
set_option maxRecDepth 100000 in
theorem B193_18 {x : List Int} {d : Nat} {s : zSt} {Q : zQ} {x1 : Int} {y0 : Int} {y1 : Int}  (h : zE x d 189 [.inr (.inl 42), .inl y1, .inl y0] s (fun r s1 => zJ x d 193 21 [some (.inr (.inl 42)), some (.inl x1)] (zAp r []) s1 Q)) : zJ x d 193 18 [some (.inr (.inl 42)), some (.inl x1)] [.inl y0, .inl y1, .inr (.inl 42)] s Q := zJ_of (b := b193_18) (by rw [kBlk, kb_193]; rfl) h
set_option maxRecDepth 100000 in
theorem B193_21 {x : List Int} {d : Nat} {s : zSt} {Q : zQ} {x1 : Int}  (h : zJ x d 193 154 [some (.inr (.inl 42)), some (.inl x1)] [] (zU s 42 25 (wr ((s 42 25) + 1))) Q) : zJ x d 193 21 [some (.inr (.inl 42)), some (.inl x1)] [] s Q := zJ_of (b := b193_21) (by rw [kBlk, kb_193]; rfl) h
set_option maxRecDepth 100000 in
theorem B193_34 {x : List Int} {d : Nat} {s : zSt} {Q : zQ} {x1 : Int}  (h : (x1 = 33 → zJ x d 193 46 [some (.inr (.inl 42)), some (.inl x1)] [] s Q) ∧ (¬ (x1 = 33) → (¬ x1 = 45 → zJ x d 193 87 [some (.inr (.inl 42)), some (.inl x1)] [] s Q) ∧ (¬ (¬ x1 = 45) → zJ x d 193 46 [some (.inr (.inl 42)), some (.inl x1)] [] s Q))) : zJ x d 193 34 [some (.inr (.inl 42)), some (.inl x1)] [] s Q := zJ_of (b := b193_34) (by rw [kBlk, kb_193]; rfl) h
set_option maxRecDepth 100000 in
theorem B193_46 {x : List Int} {d : Nat} {s : zSt} {Q : zQ} {x1 : Int}  (h : zE x d 191 [.inr (.inl 42)] s (fun r s1 => zJ x d 193 50 [some (.inr (.inl 42)), some (.inl x1)] (zAp r []) s1 Q)) : zJ x d 193 46 [some (.inr (.inl 42)), some (.inl x1)] [] s Q := zJ_of (b := b193_46) (by rw [kBlk, kb_193]; rfl) h
set_option maxRecDepth 100000 in
theorem B193_50 {x : List Int} {d : Nat} {s : zSt} {Q : zQ} {x1 : Int} {y0 : Int}  (h : (¬ y0 = 0 → zJ x d 193 54 [some (.inr (.inl 42)), some (.inl x1)] [] s Q) ∧ (¬ (¬ y0 = 0) → Q none s)) : zJ x d 193 50 [some (.inr (.inl 42)), some (.inl x1)] [.inl y0] s Q := zJ_of (b := b193_50) (by rw [kBlk, kb_193]; rfl) h
set_option maxRecDepth 100000 in
theorem B193_54 {x : List Int} {d : Nat} {s : zSt} {Q : zQ} {x1 : Int}  (h : zE x d 193 [.inr (.inl 42)] s (fun r s1 => zJ x d 193 58 [some (.inr (.inl 42)), some (.inl x1)] (zAp r []) s1 Q)) : zJ x d 193 54 [some (.inr (.inl 42)), some (.inl x1)] [] s Q := zJ_of (b := b193_54) (by rw [kBlk, kb_193]; rfl) h
set_option maxRecDepth 100000 in
theorem B193_58 {x : List Int} {d : Nat} {s : zSt} {Q : zQ} {x1 : Int}  (h : (¬ x1 = 33 → zJ x d 193 79 [some (.inr (.inl 42)), some (.inl x1)] [.inr (.inl 42)] (zU s 42 27 (wr ((s 42 27) - 1))) Q) ∧ (¬ (¬ x1 = 33) → zJ x d 193 80 [some (.inr (.inl 42)), some (.inl x1)] [.inl 3, .inr (.inl 42)] (zU s 42 27 (wr ((s 42 27) - 1))) Q)) : zJ x d 193 58 [some (.inr (.inl 42)), some (.inl x1)] [] s Q := zJ_of (b := b193_58) (by rw [kBlk, kb_193]; rfl) h
set_option maxRecDepth 100000 in
theorem B193_79 {x : List Int} {d : Nat} {s : zSt} {Q : zQ} {x1 : Int}  (h : zJ x d 193 80 [some (.inr (.inl 42)), some (.inl x1)] [.inl 4, .inr (.inl 42)] s Q) : zJ x d 193 79 [some (.inr (.inl 42)), some (.inl x1)] [.inr (.inl 42)] s Q := zJ_of (b := b193_79) (by rw [kBlk, kb_193]; rfl) h
set_option maxRecDepth 100000 in
theorem B193_80 {x : List Int} {d : Nat} {s : zSt} {Q : zQ} {x1 : Int} {y0 : Int}  (h : zE x d 189 [.inr (.inl 42), .inl y0, .inl 0] s (fun r s1 => zJ x d 193 84 [some (.inr (.inl 42)), some (.inl x1)] (zAp r []) s1 Q)) : zJ x d 193 80 [some (.inr (.inl 42)), some (.inl x1)] [.inl y0, .inr (.inl 42)] s Q := zJ_of (b := b193_80) (by rw [kBlk, kb_193]; rfl) h
set_option maxRecDepth 100000 in
theorem B193_84 {x : List Int} {d : Nat} {s : zSt} {Q : zQ} {x1 : Int}  (h : zJ x d 193 154 [some (.inr (.inl 42)), some (.inl x1)] [] s Q) : zJ x d 193 84 [some (.inr (.inl 42)), some (.inl x1)] [] s Q := zJ_of (b := b193_84) (by rw [kBlk, kb_193]; rfl) h
set_option maxRecDepth 100000 in
theorem B193_87 {x : List Int} {d : Nat} {s : zSt} {Q : zQ} {x1 : Int}  (h : (¬ x1 = 40 → zJ x d 193 150 [some (.inr (.inl 42)), some (.inl x1)] [] s Q) ∧ (¬ (¬ x1 = 40) → zE x d 191 [.inr (.inl 42)] s (fun r s1 => zJ x d 193 97 [some (.inr (.inl 42)), some (.inl x1)] (zAp r []) s1 Q))) : zJ x d 193 87 [some (.inr (.inl 42)), some (.inl x1)] [] s Q := zJ_of (b := b193_87) (by rw [kBlk, kb_193]; rfl) h
set_option maxRecDepth 100000 in
theorem B193_97 {x : List Int} {d : Nat} {s : zSt} {Q : zQ} {x1 : Int} {y0 : Int}  (h : (¬ y0 = 0 → zJ x d 193 101 [some (.inr (.inl 42)), some (.inl x1)] [] s Q) ∧ (¬ (¬ y0 = 0) → Q none s)) : zJ x d 193 97 [some (.inr (.inl 42)), some (.inl x1)] [.inl y0] s Q := zJ_of (b := b193_97) (by rw [kBlk, kb_193]; rfl) h
set_option maxRecDepth 100000 in
theorem B193_101 {x : List Int} {d : Nat} {s : zSt} {Q : zQ} {x1 : Int}  (h : zE x d 198 [.inr (.inl 42)] s (fun r s1 => zJ x d 193 105 [some (.inr (.inl 42)), some (.inl x1)] (zAp r []) s1 Q)) : zJ x d 193 101 [some (.inr (.inl 42)), some (.inl x1)] [] s Q := zJ_of (b := b193_101) (by rw [kBlk, kb_193]; rfl) h
set_option maxRecDepth 100000 in
theorem B193_105 {x : List Int} {d : Nat} {s : zSt} {Q : zQ} {x1 : Int}  (h : (s 42 26 < 0 → zJ x d 193 113 [some (.inr (.inl 42)), some (.inl x1)] [] s Q) ∧ (¬ (s 42 26 < 0) → Q none s)) : zJ x d 193 105 [some (.inr (.inl 42)), some (.inl x1)] [] s Q := zJ_of (b := b193_105) (by rw [kBlk, kb_193]; rfl) h
set_option maxRecDepth 100000 in
theorem B193_113 {x : List Int} {d : Nat} {s : zSt} {Q : zQ} {x1 : Int}  (h : zE x d 187 [.inr (.inl 42)] s (fun r s1 => zJ x d 193 117 [some (.inr (.inl 42)), some (.inl x1)] (zAp r []) s1 Q)) : zJ x d 193 113 [some (.inr (.inl 42)), some (.inl x1)] [] s Q := zJ_of (b := b193_113) (by rw [kBlk, kb_193]; rfl) h
set_option maxRecDepth 100000 in
theorem B193_117 {x : List Int} {d : Nat} {s : zSt} {Q : zQ} {x1 : Int} {y0 : Int}  (h : (y0 = 41 → zJ x d 193 127 [some (.inr (.inl 42)), some (.inl x1)] [] s Q) ∧ (¬ (y0 = 41) → zE x d 188 [.inr (.inl 42)] s (fun r s1 => zJ x d 193 126 [some (.inr (.inl 42)), some (.inl x1)] (zAp r []) s1 Q))) : zJ x d 193 117 [some (.inr (.inl 42)), some (.inl x1)] [.inl y0] s Q := zJ_of (b := b193_117) (by rw [kBlk, kb_193]; rfl) h
set_option maxRecDepth 100000 in
theorem B193_126 {x : List Int} {d : Nat} {s : zSt} {Q : zQ} {x1 : Int}  (h : Q none s) : zJ x d 193 126 [some (.inr (.inl 42)), some (.inl x1)] [] s Q := zJ_of (b := b193_126) (by rw [kBlk, kb_193]; rfl) h
set_option maxRecDepth 100000 in
theorem B193_127 {x : List Int} {d : Nat} {s : zSt} {Q : zQ} {x1 : Int}  (h : zJ x d 193 154 [some (.inr (.inl 42)), some (.inl x1)] [] (zU (zU s 42 25 (wr ((s 42 25) + 1))) 42 27 (wr ((s 42 27) - 1))) Q) : zJ x d 193 127 [some (.inr (.inl 42)), some (.inl x1)] [] s Q := zJ_of (b := b193_127) (by rw [kBlk, kb_193]; rfl) h
set_option maxRecDepth 100000 in
theorem B193_150 {x : List Int} {d : Nat} {s : zSt} {Q : zQ} {x1 : Int}  (h : zE x d 192 [.inr (.inl 42)] s (fun r s1 => zJ x d 193 154 [some (.inr (.inl 42)), some (.inl x1)] (zAp r []) s1 Q)) : zJ x d 193 150 [some (.inr (.inl 42)), some (.inl x1)] [] s Q := zJ_of (b := b193_150) (by rw [kBlk, kb_193]; rfl) h
set_option maxRecDepth 100000 in
theorem B193_154 {x : List Int} {d : Nat} {s : zSt} {Q : zQ} {x1 : Int}  (h : Q none s) : zJ x d 193 154 [some (.inr (.inl 42)), some (.inl x1)] [] s Q := zJ_of (b := b193_154) (by rw [kBlk, kb_193]; rfl) h
set_option maxRecDepth 100000 in
theorem N193 {x : List Int} {d : Nat} {s : zSt} {Q : zQ}  (h : zJ x d 193 0 [some (.inr (.inl 42)), none] [] s Q) : zE x (d + 1) 193 [.inr (.inl 42)] s Q := zE_of (n := 2) rfl rfl rfl rfl (fun h => (zLok_some (h _ (List.mem_of_getElem? (i := 0) rfl)) (zLok_none zLok_nil))) h
-- 194: PennyALapModel.product
set_option maxRecDepth 100000 in
theorem kb_194 : kBls.getD 194 [] = c194 := rfl
set_option maxRecDepth 100000 in
theorem B194_0 {x : List Int} {d : Nat} {s : zSt} {Q : zQ}   (h : zE x d 193 [.inr (.inl 42)] s (fun r s1 => zJ x d 194 4 [some (.inr (.inl 42)), none] (zAp r []) s1 Q)) : zJ x d 194 0 [some (.inr (.inl 42)), none] [] s Q := zJ_of (b := b194_0) (by rw [kBlk, kb_194]; rfl) h
set_option maxRecDepth 100000 in
theorem B194_4 {x : List Int} {d : Nat} {s : zSt} {Q : zQ} {o1 : Option zV}  (h : (0 ≤ s 42 26 → zJ x d 194 66 [some (.inr (.inl 42)), o1] [] s Q) ∧ (¬ (0 ≤ s 42 26) → zE x d 187 [.inr (.inl 42)] s (fun r s1 => zJ x d 194 15 [some (.inr (.inl 42)), o1] (zAp r []) s1 Q))) : zJ x d 194 4 [some (.inr (.inl 42)), o1] [] s Q := zJ_of (b := b194_4) (by rw [kBlk, kb_194]; rfl) h
set_option maxRecDepth 100000 in
theorem B194_15 {x : List Int} {d : Nat} {s : zSt} {Q : zQ} {o1 : Option zV} {y0 : Int}  (h : (y0 = 42 → zJ x d 194 38 [some (.inr (.inl 42)), o1] [] s Q) ∧ (¬ (y0 = 42) → zE x d 187 [.inr (.inl 42)] s (fun r s1 => zJ x d 194 24 [some (.inr (.inl 42)), o1] (zAp r []) s1 Q))) : zJ x d 194 15 [some (.inr (.inl 42)), o1] [.inl y0] s Q := zJ_of (b := b194_15) (by rw [kBlk, kb_194]; rfl) h
set_option maxRecDepth 100000 in
theorem B194_24 {x : List Int} {d : Nat} {s : zSt} {Q : zQ} {o1 : Option zV} {y0 : Int}  (h : (y0 = 47 → zJ x d 194 38 [some (.inr (.inl 42)), o1] [] s Q) ∧ (¬ (y0 = 47) → zE x d 187 [.inr (.inl 42)] s (fun r s1 => zJ x d 194 33 [some (.inr (.inl 42)), o1] (zAp r []) s1 Q))) : zJ x d 194 24 [some (.inr (.inl 42)), o1] [.inl y0] s Q := zJ_of (b := b194_24) (by rw [kBlk, kb_194]; rfl) h
set_option maxRecDepth 100000 in
theorem B194_33 {x : List Int} {d : Nat} {s : zSt} {Q : zQ} {o1 : Option zV} {y0 : Int}  (h : (¬ y0 = 37 → zJ x d 194 66 [some (.inr (.inl 42)), o1] [] s Q) ∧ (¬ (¬ y0 = 37) → zJ x d 194 38 [some (.inr (.inl 42)), o1] [] s Q)) : zJ x d 194 33 [some (.inr (.inl 42)), o1] [.inl y0] s Q := zJ_of (b := b194_33) (by rw [kBlk, kb_194]; rfl) h
set_option maxRecDepth 100000 in
theorem B194_38 {x : List Int} {d : Nat} {s : zSt} {Q : zQ} {o1 : Option zV}  (h : zE x d 187 [.inr (.inl 42)] s (fun r s1 => zJ x d 194 42 [some (.inr (.inl 42)), o1] (zAp r []) s1 Q)) : zJ x d 194 38 [some (.inr (.inl 42)), o1] [] s Q := zJ_of (b := b194_38) (by rw [kBlk, kb_194]; rfl) h
set_option maxRecDepth 100000 in
theorem B194_42 {x : List Int} {d : Nat} {s : zSt} {Q : zQ} {o1 : Option zV} {y0 : Int}  (h : zE x d 193 [.inr (.inl 42)] (zU s 42 25 (wr ((s 42 25) + 1))) (fun r s1 => zJ x d 194 57 [some (.inr (.inl 42)), some (.inl y0)] (zAp r []) s1 Q)) : zJ x d 194 42 [some (.inr (.inl 42)), o1] [.inl y0] s Q := zJ_of (b := b194_42) (by rw [kBlk, kb_194]; rfl) h
set_option maxRecDepth 100000 in
theorem B194_57 {x : List Int} {d : Nat} {s : zSt} {Q : zQ} {x1 : Int}  (h : zE x d 189 [.inr (.inl 42), .inl x1, .inl 0] s (fun r s1 => zJ x d 194 63 [some (.inr (.inl 42)), some (.inl x1)] (zAp r []) s1 Q)) : zJ x d 194 57 [some (.inr (.inl 42)), some (.inl x1)] [] s Q := zJ_of (b := b194_57) (by rw [kBlk, kb_194]; rfl) h
set_option maxRecDepth 100000 in
theorem B194_63 {x : List Int} {d : Nat} {s : zSt} {Q : zQ} {x1 : Int}  (h : zJ x d 194 4 [some (.inr (.inl 42)), some (.inl x1)] [] s Q) : zJ x d 194 63 [some (.inr (.inl 42)), some (.inl x1)] [] s Q := zJ_of (b := b194_63) (by rw [kBlk, kb_194]; rfl) h
set_option maxRecDepth 100000 in
theorem B194_66 {x : List Int} {d : Nat} {s : zSt} {Q : zQ} {o1 : Option zV}  (h : Q none s) : zJ x d 194 66 [some (.inr (.inl 42)), o1] [] s Q := zJ_of (b := b194_66) (by rw [kBlk, kb_194]; rfl) h
set_option maxRecDepth 100000 in
theorem N194 {x : List Int} {d : Nat} {s : zSt} {Q : zQ}  (h : zJ x d 194 0 [some (.inr (.inl 42)), none] [] s Q) : zE x (d + 1) 194 [.inr (.inl 42)] s Q := zE_of (n := 2) rfl rfl rfl rfl (fun h => (zLok_some (h _ (List.mem_of_getElem? (i := 0) rfl)) (zLok_none zLok_nil))) h
-- 195: PennyALapModel.sum
set_option maxRecDepth 100000 in
theorem kb_195 : kBls.getD 195 [] = c195 := rfl
set_option maxRecDepth 100000 in
theorem B195_0 {x : List Int} {d : Nat} {s : zSt} {Q : zQ}   (h : zE x d 194 [.inr (.inl 42)] s (fun r s1 => zJ x d 195 4 [some (.inr (.inl 42)), none] (zAp r []) s1 Q)) : zJ x d 195 0 [some (.inr (.inl 42)), none] [] s Q := zJ_of (b := b195_0) (by rw [kBlk, kb_195]; rfl) h
set_option maxRecDepth 100000 in
theorem B195_4 {x : List Int} {d : Nat} {s : zSt} {Q : zQ} {o1 : Option zV}  (h : (0 ≤ s 42 26 → zJ x d 195 57 [some (.inr (.inl 42)), o1] [] s Q) ∧ (¬ (0 ≤ s 42 26) → zE x d 187 [.inr (.inl 42)] s (fun r s1 => zJ x d 195 15 [some (.inr (.inl 42)), o1] (zAp r []) s1 Q))) : zJ x d 195 4 [some (.inr (.inl 42)), o1] [] s Q := zJ_of (b := b195_4) (by rw [kBlk, kb_195]; rfl) h
set_option maxRecDepth 100000 in
theorem B195_15 {x : List Int} {d : Nat} {s : zSt} {Q : zQ} {o1 : Option zV} {y0 : Int}  (h : (y0 = 43 → zJ x d 195 29 [some (.inr (.inl 42)), o1] [] s Q) ∧ (¬ (y0 = 43) → zE x d 187 [.inr (.inl 42)] s (fun r s1 => zJ x d 195 24 [some (.inr (.inl 42)), o1] (zAp r []) s1 Q))) : zJ x d 195 15 [some (.inr (.inl 42)), o1] [.inl y0] s Q := zJ_of (b := b195_15) (by rw [kBlk, kb_195]; rfl) h
set_option maxRecDepth 100000 in
theorem B195_24 {x : List Int} {d : Nat} {s : zSt} {Q : zQ} {o1 : Option zV} {y0 : Int}  (h : (¬ y0 = 45 → zJ x d 195 57 [some (.inr (.inl 42)), o1] [] s Q) ∧ (¬ (¬ y0 = 45) → zJ x d 195 29 [some (.inr (.inl 42)), o1] [] s Q)) : zJ x d 195 24 [some (.inr (.inl 42)), o1] [.inl y0] s Q := zJ_of (b := b195_24) (by rw [kBlk, kb_195]; rfl) h
set_option maxRecDepth 100000 in
theorem B195_29 {x : List Int} {d : Nat} {s : zSt} {Q : zQ} {o1 : Option zV}  (h : zE x d 187 [.inr (.inl 42)] s (fun r s1 => zJ x d 195 33 [some (.inr (.inl 42)), o1] (zAp r []) s1 Q)) : zJ x d 195 29 [some (.inr (.inl 42)), o1] [] s Q := zJ_of (b := b195_29) (by rw [kBlk, kb_195]; rfl) h
set_option maxRecDepth 100000 in
theorem B195_33 {x : List Int} {d : Nat} {s : zSt} {Q : zQ} {o1 : Option zV} {y0 : Int}  (h : zE x d 194 [.inr (.inl 42)] (zU s 42 25 (wr ((s 42 25) + 1))) (fun r s1 => zJ x d 195 48 [some (.inr (.inl 42)), some (.inl y0)] (zAp r []) s1 Q)) : zJ x d 195 33 [some (.inr (.inl 42)), o1] [.inl y0] s Q := zJ_of (b := b195_33) (by rw [kBlk, kb_195]; rfl) h
set_option maxRecDepth 100000 in
theorem B195_48 {x : List Int} {d : Nat} {s : zSt} {Q : zQ} {x1 : Int}  (h : zE x d 189 [.inr (.inl 42), .inl x1, .inl 0] s (fun r s1 => zJ x d 195 54 [some (.inr (.inl 42)), some (.inl x1)] (zAp r []) s1 Q)) : zJ x d 195 48 [some (.inr (.inl 42)), some (.inl x1)] [] s Q := zJ_of (b := b195_48) (by rw [kBlk, kb_195]; rfl) h
set_option maxRecDepth 100000 in
theorem B195_54 {x : List Int} {d : Nat} {s : zSt} {Q : zQ} {x1 : Int}  (h : zJ x d 195 4 [some (.inr (.inl 42)), some (.inl x1)] [] s Q) : zJ x d 195 54 [some (.inr (.inl 42)), some (.inl x1)] [] s Q := zJ_of (b := b195_54) (by rw [kBlk, kb_195]; rfl) h
set_option maxRecDepth 100000 in
theorem B195_57 {x : List Int} {d : Nat} {s : zSt} {Q : zQ} {o1 : Option zV}  (h : Q none s) : zJ x d 195 57 [some (.inr (.inl 42)), o1] [] s Q := zJ_of (b := b195_57) (by rw [kBlk, kb_195]; rfl) h
set_option maxRecDepth 100000 in
theorem N195 {x : List Int} {d : Nat} {s : zSt} {Q : zQ}  (h : zJ x d 195 0 [some (.inr (.inl 42)), none] [] s Q) : zE x (d + 1) 195 [.inr (.inl 42)] s Q := zE_of (n := 2) rfl rfl rfl rfl (fun h => (zLok_some (h _ (List.mem_of_getElem? (i := 0) rfl)) (zLok_none zLok_nil))) h
-- 196: PennyALapModel.compared
set_option maxRecDepth 100000 in
theorem kb_196 : kBls.getD 196 [] = c196 := rfl
set_option maxRecDepth 100000 in
theorem B196_0 {x : List Int} {d : Nat} {s : zSt} {Q : zQ}   (h : zE x d 195 [.inr (.inl 42)] s (fun r s1 => zJ x d 196 4 [some (.inr (.inl 42)), none] (zAp r []) s1 Q)) : zJ x d 196 0 [some (.inr (.inl 42)), none] [] s Q := zJ_of (b := b196_0) (by rw [kBlk, kb_196]; rfl) h
set_option maxRecDepth 100000 in
theorem B196_4 {x : List Int} {d : Nat} {s : zSt} {Q : zQ}   (h : zE x d 187 [.inr (.inl 42)] s (fun r s1 => zJ x d 196 8 [some (.inr (.inl 42)), none] (zAp r []) s1 Q)) : zJ x d 196 4 [some (.inr (.inl 42)), none] [] s Q := zJ_of (b := b196_4) (by rw [kBlk, kb_196]; rfl) h
set_option maxRecDepth 100000 in
theorem B196_8 {x : List Int} {d : Nat} {s : zSt} {Q : zQ} {y0 : Int}  (h : (0 ≤ s 42 26 → zJ x d 196 34 [some (.inr (.inl 42)), some (.inl y0)] [] s Q) ∧ (¬ (0 ≤ s 42 26) → (y0 = 60 → zJ x d 196 35 [some (.inr (.inl 42)), some (.inl y0)] [] s Q) ∧ (¬ (y0 = 60) → (y0 = 61 → zJ x d 196 35 [some (.inr (.inl 42)), some (.inl y0)] [] s Q) ∧ (¬ (y0 = 61) → (y0 = 62 → zJ x d 196 35 [some (.inr (.inl 42)), some (.inl y0)] [] s Q) ∧ (¬ (y0 = 62) → zJ x d 196 34 [some (.inr (.inl 42)), some (.inl y0)] [] s Q))))) : zJ x d 196 8 [some (.inr (.inl 42)), none] [.inl y0] s Q := zJ_of (b := b196_8) (by rw [kBlk, kb_196]; rfl) h
set_option maxRecDepth 100000 in
theorem B196_34 {x : List Int} {d : Nat} {s : zSt} {Q : zQ} {x1 : Int}  (h : Q none s) : zJ x d 196 34 [some (.inr (.inl 42)), some (.inl x1)] [] s Q := zJ_of (b := b196_34) (by rw [kBlk, kb_196]; rfl) h
set_option maxRecDepth 100000 in
theorem B196_35 {x : List Int} {d : Nat} {s : zSt} {Q : zQ} {x1 : Int}  (h : zE x d 195 [.inr (.inl 42)] (zU s 42 25 (wr ((s 42 25) + 1))) (fun r s1 => zJ x d 196 49 [some (.inr (.inl 42)), some (.inl x1)] (zAp r []) s1 Q)) : zJ x d 196 35 [some (.inr (.inl 42)), some (.inl x1)] [] s Q := zJ_of (b := b196_35) (by rw [kBlk, kb_196]; rfl) h
set_option maxRecDepth 100000 in
theorem B196_49 {x : List Int} {d : Nat} {s : zSt} {Q : zQ} {x1 : Int}  (h : zE x d 189 [.inr (.inl 42), .inl x1, .inl 0] s (fun r s1 => zJ x d 196 55 [some (.inr (.inl 42)), some (.inl x1)] (zAp r []) s1 Q)) : zJ x d 196 49 [some (.inr (.inl 42)), some (.inl x1)] [] s Q := zJ_of (b := b196_49) (by rw [kBlk, kb_196]; rfl) h
set_option maxRecDepth 100000 in
theorem B196_55 {x : List Int} {d : Nat} {s : zSt} {Q : zQ} {x1 : Int}  (h : Q none s) : zJ x d 196 55 [some (.inr (.inl 42)), some (.inl x1)] [] s Q := zJ_of (b := b196_55) (by rw [kBlk, kb_196]; rfl) h
set_option maxRecDepth 100000 in
theorem N196 {x : List Int} {d : Nat} {s : zSt} {Q : zQ}  (h : zJ x d 196 0 [some (.inr (.inl 42)), none] [] s Q) : zE x (d + 1) 196 [.inr (.inl 42)] s Q := zE_of (n := 2) rfl rfl rfl rfl (fun h => (zLok_some (h _ (List.mem_of_getElem? (i := 0) rfl)) (zLok_none zLok_nil))) h
-- 197: PennyALapModel.both
set_option maxRecDepth 100000 in
theorem kb_197 : kBls.getD 197 [] = c197 := rfl
set_option maxRecDepth 100000 in
theorem B197_0 {x : List Int} {d : Nat} {s : zSt} {Q : zQ}   (h : zE x d 196 [.inr (.inl 42)] s (fun r s1 => zJ x d 197 4 [some (.inr (.inl 42))] (zAp r []) s1 Q)) : zJ x d 197 0 [some (.inr (.inl 42))] [] s Q := zJ_of (b := b197_0) (by rw [kBlk, kb_197]; rfl) h
set_option maxRecDepth 100000 in
theorem B197_4 {x : List Int} {d : Nat} {s : zSt} {Q : zQ}   (h : (0 ≤ s 42 26 → zJ x d 197 44 [some (.inr (.inl 42))] [] s Q) ∧ (¬ (0 ≤ s 42 26) → zE x d 187 [.inr (.inl 42)] s (fun r s1 => zJ x d 197 15 [some (.inr (.inl 42))] (zAp r []) s1 Q))) : zJ x d 197 4 [some (.inr (.inl 42))] [] s Q := zJ_of (b := b197_4) (by rw [kBlk, kb_197]; rfl) h
set_option maxRecDepth 100000 in
theorem B197_15 {x : List Int} {d : Nat} {s : zSt} {Q : zQ} {y0 : Int}  (h : (¬ y0 = 38 → zJ x d 197 44 [some (.inr (.inl 42))] [] s Q) ∧ (¬ (¬ y0 = 38) → zE x d 196 [.inr (.inl 42)] (zU s 42 25 (wr ((s 42 25) + 1))) (fun r s1 => zJ x d 197 34 [some (.inr (.inl 42))] (zAp r []) s1 Q))) : zJ x d 197 15 [some (.inr (.inl 42))] [.inl y0] s Q := zJ_of (b := b197_15) (by rw [kBlk, kb_197]; rfl) h
set_option maxRecDepth 100000 in
theorem B197_34 {x : List Int} {d : Nat} {s : zSt} {Q : zQ}   (h : zE x d 189 [.inr (.inl 42), .inl 38, .inl 0] s (fun r s1 => zJ x d 197 41 [some (.inr (.inl 42))] (zAp r []) s1 Q)) : zJ x d 197 34 [some (.inr (.inl 42))] [] s Q := zJ_of (b := b197_34) (by rw [kBlk, kb_197]; rfl) h
set_option maxRecDepth 100000 in
theorem B197_41 {x : List Int} {d : Nat} {s : zSt} {Q : zQ}   (h : zJ x d 197 4 [some (.inr (.inl 42))] [] s Q) : zJ x d 197 41 [some (.inr (.inl 42))] [] s Q := zJ_of (b := b197_41) (by rw [kBlk, kb_197]; rfl) h
set_option maxRecDepth 100000 in
theorem B197_44 {x : List Int} {d : Nat} {s : zSt} {Q : zQ}   (h : Q none s) : zJ x d 197 44 [some (.inr (.inl 42))] [] s Q := zJ_of (b := b197_44) (by rw [kBlk, kb_197]; rfl) h
set_option maxRecDepth 100000 in
theorem N197 {x : List Int} {d : Nat} {s : zSt} {Q : zQ}  (h : zJ x d 197 0 [some (.inr (.inl 42))] [] s Q) : zE x (d + 1) 197 [.inr (.inl 42)] s Q := zE_of (n := 1) rfl rfl rfl rfl (fun h => (zLok_some (h _ (List.mem_of_getElem? (i := 0) rfl)) zLok_nil)) h
-- 198: PennyALapModel.either
set_option maxRecDepth 100000 in
theorem kb_198 : kBls.getD 198 [] = c198 := rfl
set_option maxRecDepth 100000 in
theorem B198_0 {x : List Int} {d : Nat} {s : zSt} {Q : zQ}   (h : zE x d 197 [.inr (.inl 42)] s (fun r s1 => zJ x d 198 4 [some (.inr (.inl 42))] (zAp r []) s1 Q)) : zJ x d 198 0 [some (.inr (.inl 42))] [] s Q := zJ_of (b := b198_0) (by rw [kBlk, kb_198]; rfl) h
set_option maxRecDepth 100000 in
theorem B198_4 {x : List Int} {d : Nat} {s : zSt} {Q : zQ}   (h : (0 ≤ s 42 26 → zJ x d 198 44 [some (.inr (.inl 42))] [] s Q) ∧ (¬ (0 ≤ s 42 26) → zE x d 187 [.inr (.inl 42)] s (fun r s1 => zJ x d 198 15 [some (.inr (.inl 42))] (zAp r []) s1 Q))) : zJ x d 198 4 [some (.inr (.inl 42))] [] s Q := zJ_of (b := b198_4) (by rw [kBlk, kb_198]; rfl) h
set_option maxRecDepth 100000 in
theorem B198_15 {x : List Int} {d : Nat} {s : zSt} {Q : zQ} {y0 : Int}  (h : (¬ y0 = 124 → zJ x d 198 44 [some (.inr (.inl 42))] [] s Q) ∧ (¬ (¬ y0 = 124) → zE x d 197 [.inr (.inl 42)] (zU s 42 25 (wr ((s 42 25) + 1))) (fun r s1 => zJ x d 198 34 [some (.inr (.inl 42))] (zAp r []) s1 Q))) : zJ x d 198 15 [some (.inr (.inl 42))] [.inl y0] s Q := zJ_of (b := b198_15) (by rw [kBlk, kb_198]; rfl) h
set_option maxRecDepth 100000 in
theorem B198_34 {x : List Int} {d : Nat} {s : zSt} {Q : zQ}   (h : zE x d 189 [.inr (.inl 42), .inl 124, .inl 0] s (fun r s1 => zJ x d 198 41 [some (.inr (.inl 42))] (zAp r []) s1 Q)) : zJ x d 198 34 [some (.inr (.inl 42))] [] s Q := zJ_of (b := b198_34) (by rw [kBlk, kb_198]; rfl) h
set_option maxRecDepth 100000 in
theorem B198_41 {x : List Int} {d : Nat} {s : zSt} {Q : zQ}   (h : zJ x d 198 4 [some (.inr (.inl 42))] [] s Q) : zJ x d 198 41 [some (.inr (.inl 42))] [] s Q := zJ_of (b := b198_41) (by rw [kBlk, kb_198]; rfl) h
set_option maxRecDepth 100000 in
theorem B198_44 {x : List Int} {d : Nat} {s : zSt} {Q : zQ}   (h : Q none s) : zJ x d 198 44 [some (.inr (.inl 42))] [] s Q := zJ_of (b := b198_44) (by rw [kBlk, kb_198]; rfl) h
set_option maxRecDepth 100000 in
theorem N198 {x : List Int} {d : Nat} {s : zSt} {Q : zQ}  (h : zJ x d 198 0 [some (.inr (.inl 42))] [] s Q) : zE x (d + 1) 198 [.inr (.inl 42)] s Q := zE_of (n := 1) rfl rfl rfl rfl (fun h => (zLok_some (h _ (List.mem_of_getElem? (i := 0) rfl)) zLok_nil)) h
-- 199: PennyALapModel.line
set_option maxRecDepth 100000 in
theorem kb_199 : kBls.getD 199 [] = c199 := rfl
set_option maxRecDepth 100000 in
theorem B199_0 {x : List Int} {d : Nat} {s : zSt} {Q : zQ}   (h : (0 : Int) ≤ 1 ∧ (1 : Int) < 2 ∧ ((0 : Int) ≤ wr (61 + (s 60 1)) ∧ (wr (61 + (s 60 1)) : Int) < 122 ∧ (zE x d 198 [.inr (.inl 42)] (zU s 61 (wr (61 + (s 60 1))).toNat (w16 (w16 (s 42 28)))) (fun r s1 => zJ x d 199 25 [some (.inr (.inl 42)), some (.inl (wr (61 + (s 60 1))))] (zAp r []) s1 Q)))) : zJ x d 199 0 [some (.inr (.inl 42)), none] [] s Q := zJ_of (b := b199_0) (by rw [kBlk, kb_199]; rfl) h
set_option maxRecDepth 100000 in
theorem B199_25 {x : List Int} {d : Nat} {s : zSt} {Q : zQ} {x1 : Int}  (h : (0 ≤ s 42 26 → zJ x d 199 66 [some (.inr (.inl 42)), some (.inl x1)] [] s Q) ∧ (¬ (0 ≤ s 42 26) → zE x d 187 [.inr (.inl 42)] s (fun r s1 => zJ x d 199 36 [some (.inr (.inl 42)), some (.inl x1)] (zAp r []) s1 Q))) : zJ x d 199 25 [some (.inr (.inl 42)), some (.inl x1)] [] s Q := zJ_of (b := b199_25) (by rw [kBlk, kb_199]; rfl) h
set_option maxRecDepth 100000 in
theorem B199_36 {x : List Int} {d : Nat} {s : zSt} {Q : zQ} {x1 : Int} {y0 : Int}  (h : (¬ y0 = 63 → zJ x d 199 66 [some (.inr (.inl 42)), some (.inl x1)] [] s Q) ∧ (¬ (¬ y0 = 63) → (0 : Int) ≤ x1 ∧ (x1 : Int) < 122 ∧ (zE x d 198 [.inr (.inl 42)] (zU (zU s 42 25 (wr ((s 42 25) + 1))) 61 (x1).toNat (w16 (w16 (s 42 28)))) (fun r s1 => zJ x d 199 66 [some (.inr (.inl 42)), some (.inl x1)] (zAp r []) s1 Q)))) : zJ x d 199 36 [some (.inr (.inl 42)), some (.inl x1)] [.inl y0] s Q := zJ_of (b := b199_36) (by rw [kBlk, kb_199]; rfl) h
set_option maxRecDepth 100000 in
theorem B199_66 {x : List Int} {d : Nat} {s : zSt} {Q : zQ} {x1 : Int}  (h : (0 : Int) ≤ x1 ∧ (x1 : Int) < 122 ∧ ((0 : Int) ≤ 1 ∧ (1 : Int) < 2 ∧ ((0 : Int) ≤ 1 ∧ (1 : Int) < 2 ∧ (Q none (zU (zU s 62 (x1).toNat (w16 (w16 (s 42 28)))) 60 1 (wr ((s 60 1) + 1))))))) : zJ x d 199 66 [some (.inr (.inl 42)), some (.inl x1)] [] s Q := zJ_of (b := b199_66) (by rw [kBlk, kb_199]; rfl) h
set_option maxRecDepth 100000 in
theorem N199 {x : List Int} {d : Nat} {s : zSt} {Q : zQ}  (h : zJ x d 199 0 [some (.inr (.inl 42)), none] [] s Q) : zE x (d + 1) 199 [.inr (.inl 42)] s Q := zE_of (n := 2) rfl rfl rfl rfl (fun h => (zLok_some (h _ (List.mem_of_getElem? (i := 0) rfl)) (zLok_none zLok_nil))) h
-- 200: PennyALapModel.readText
set_option maxRecDepth 100000 in
theorem kb_200 : kBls.getD 200 [] = c200 := rfl
set_option maxRecDepth 100000 in
theorem B200_0 {x : List Int} {d : Nat} {s : zSt} {Q : zQ} {x1 : Int}  (h : (0 : Int) ≤ 1 ∧ (1 : Int) < 2 ∧ (zE x d 199 [.inr (.inl 42)] (zU (zU (zU (zU (zU s 42 25 0) 42 26 (-1)) 42 27 0) 42 28 0) 60 1 0) (fun r s1 => zJ x d 200 31 [some (.inr (.inl 42)), some (.inl x1), none] (zAp r []) s1 Q))) : zJ x d 200 0 [some (.inr (.inl 42)), some (.inl x1), none] [] s Q := zJ_of (b := b200_0) (by rw [kBlk, kb_200]; rfl) h
set_option maxRecDepth 100000 in
theorem B200_31 {x : List Int} {d : Nat} {s : zSt} {Q : zQ} {x1 : Int}  (h : (0 ≤ s 42 26 → zJ x d 200 64 [some (.inr (.inl 42)), some (.inl x1), none] [] s Q) ∧ (¬ (0 ≤ s 42 26) → zE x d 187 [.inr (.inl 42)] s (fun r s1 => zJ x d 200 42 [some (.inr (.inl 42)), some (.inl x1), none] (zAp r []) s1 Q))) : zJ x d 200 31 [some (.inr (.inl 42)), some (.inl x1), none] [] s Q := zJ_of (b := b200_31) (by rw [kBlk, kb_200]; rfl) h
set_option maxRecDepth 100000 in
theorem B200_42 {x : List Int} {d : Nat} {s : zSt} {Q : zQ} {x1 : Int} {y0 : Int}  (h : (¬ y0 = 59 → zJ x d 200 64 [some (.inr (.inl 42)), some (.inl x1), none] [] s Q) ∧ (¬ (¬ y0 = 59) → zE x d 199 [.inr (.inl 42)] (zU s 42 25 (wr ((s 42 25) + 1))) (fun r s1 => zJ x d 200 61 [some (.inr (.inl 42)), some (.inl x1), none] (zAp r []) s1 Q))) : zJ x d 200 42 [some (.inr (.inl 42)), some (.inl x1), none] [.inl y0] s Q := zJ_of (b := b200_42) (by rw [kBlk, kb_200]; rfl) h
set_option maxRecDepth 100000 in
theorem B200_61 {x : List Int} {d : Nat} {s : zSt} {Q : zQ} {x1 : Int}  (h : zJ x d 200 31 [some (.inr (.inl 42)), some (.inl x1), none] [] s Q) : zJ x d 200 61 [some (.inr (.inl 42)), some (.inl x1), none] [] s Q := zJ_of (b := b200_61) (by rw [kBlk, kb_200]; rfl) h
set_option maxRecDepth 100000 in
theorem B200_64 {x : List Int} {d : Nat} {s : zSt} {Q : zQ} {x1 : Int}  (h : (0 ≤ s 42 26 → zJ x d 200 86 [some (.inr (.inl 42)), some (.inl x1), none] [] s Q) ∧ (¬ (0 ≤ s 42 26) → (s 42 24 ≤ s 42 25 → zJ x d 200 86 [some (.inr (.inl 42)), some (.inl x1), none] [] s Q) ∧ (¬ (s 42 24 ≤ s 42 25) → zE x d 188 [.inr (.inl 42)] s (fun r s1 => zJ x d 200 86 [some (.inr (.inl 42)), some (.inl x1), none] (zAp r []) s1 Q)))) : zJ x d 200 64 [some (.inr (.inl 42)), some (.inl x1), none] [] s Q := zJ_of (b := b200_64) (by rw [kBlk, kb_200]; rfl) h
set_option maxRecDepth 100000 in
theorem B200_86 {x : List Int} {d : Nat} {s : zSt} {Q : zQ} {x1 : Int}  (h : (s 42 26 < 0 → zJ x d 200 103 [some (.inr (.inl 42)), some (.inl x1), none] [] (zU s 42 24 0) Q) ∧ (¬ (s 42 26 < 0) → Q (some (.inl (s 42 26))) (zU s 42 24 0))) : zJ x d 200 86 [some (.inr (.inl 42)), some (.inl x1), none] [] s Q := zJ_of (b := b200_86) (by rw [kBlk, kb_200]; rfl) h
set_option maxRecDepth 100000 in
theorem B200_103 {x : List Int} {d : Nat} {s : zSt} {Q : zQ} {x1 : Int}  (h : zJ x d 200 105 [some (.inr (.inl 42)), some (.inl x1), some (.inl 0)] [] s Q) : zJ x d 200 103 [some (.inr (.inl 42)), some (.inl x1), none] [] s Q := zJ_of (b := b200_103) (by rw [kBlk, kb_200]; rfl) h
set_option maxRecDepth 100000 in
theorem B200_105 {x : List Int} {d : Nat} {s : zSt} {Q : zQ} {x1 : Int} {x2 : Int}  (h : (s 42 28 ≤ x2 → zJ x d 200 163 [some (.inr (.inl 42)), some (.inl x1), some (.inl x2)] [] s Q) ∧ (¬ (s 42 28 ≤ x2) → (0 : Int) ≤ wr (130 + x2) ∧ (wr (130 + x2) : Int) < 260 ∧ ((0 : Int) ≤ wr ((wr (130 * x1)) + x2) ∧ (wr ((wr (130 * x1)) + x2) : Int) < 260 ∧ ((0 : Int) ≤ wr (130 + x2) ∧ (wr (130 + x2) : Int) < 260 ∧ ((0 : Int) ≤ wr ((wr (130 * x1)) + x2) ∧ (wr ((wr (130 * x1)) + x2) : Int) < 260 ∧ (zJ x d 200 105 [some (.inr (.inl 42)), some (.inl x1), some (.inl (wr (x2 + 1)))] [] (zU (zU s 58 (wr ((wr (130 * x1)) + x2)).toNat (w8 (s 58 (wr (130 + x2)).toNat))) 59 (wr ((wr (130 * x1)) + x2)).toNat (s 59 (wr (130 + x2)).toNat)) Q)))))) : zJ x d 200 105 [some (.inr (.inl 42)), some (.inl x1), some (.inl x2)] [] s Q := zJ_of (b := b200_105) (by rw [kBlk, kb_200]; rfl) h
set_option maxRecDepth 100000 in
theorem B200_163 {x : List Int} {d : Nat} {s : zSt} {Q : zQ} {x1 : Int} {x2 : Int}  (h : (0 : Int) ≤ 1 ∧ (1 : Int) < 2 ∧ ((0 : Int) ≤ x1 ∧ (x1 : Int) < 2 ∧ (zJ x d 200 177 [some (.inr (.inl 42)), some (.inl x1), some (.inl 0)] [] (zU s 60 (x1).toNat (s 60 1)) Q))) : zJ x d 200 163 [some (.inr (.inl 42)), some (.inl x1), some (.inl x2)] [] s Q := zJ_of (b := b200_163) (by rw [kBlk, kb_200]; rfl) h
set_option maxRecDepth 100000 in
theorem B200_177 {x : List Int} {d : Nat} {s : zSt} {Q : zQ} {x1 : Int} {x2 : Int}  (h : (0 : Int) ≤ x1 ∧ (x1 : Int) < 2 ∧ ((s 60 (x1).toNat ≤ x2 → zJ x d 200 233 [some (.inr (.inl 42)), some (.inl x1), some (.inl x2)] [] s Q) ∧ (¬ (s 60 (x1).toNat ≤ x2) → (0 : Int) ≤ wr (61 + x2) ∧ (wr (61 + x2) : Int) < 122 ∧ ((0 : Int) ≤ wr ((wr (61 * x1)) + x2) ∧ (wr ((wr (61 * x1)) + x2) : Int) < 122 ∧ ((0 : Int) ≤ wr (61 + x2) ∧ (wr (61 + x2) : Int) < 122 ∧ ((0 : Int) ≤ wr ((wr (61 * x1)) + x2) ∧ (wr ((wr (61 * x1)) + x2) : Int) < 122 ∧ (zJ x d 200 177 [some (.inr (.inl 42)), some (.inl x1), some (.inl (wr (x2 + 1)))] [] (zU (zU s 61 (wr ((wr (61 * x1)) + x2)).toNat (w16 (s 61 (wr (61 + x2)).toNat))) 62 (wr ((wr (61 * x1)) + x2)).toNat (w16 (s 62 (wr (61 + x2)).toNat))) Q))))))) : zJ x d 200 177 [some (.inr (.inl 42)), some (.inl x1), some (.inl x2)] [] s Q := zJ_of (b := b200_177) (by rw [kBlk, kb_200]; rfl) h
set_option maxRecDepth 100000 in
theorem B200_233 {x : List Int} {d : Nat} {s : zSt} {Q : zQ} {x1 : Int} {x2 : Int}  (h : Q (some (.inl (-1))) s) : zJ x d 200 233 [some (.inr (.inl 42)), some (.inl x1), some (.inl x2)] [] s Q := zJ_of (b := b200_233) (by rw [kBlk, kb_200]; rfl) h
set_option maxRecDepth 100000 in
theorem N200 {x : List Int} {d : Nat} {s : zSt} {Q : zQ} {x1 : Int} (h : zJ x d 200 0 [some (.inr (.inl 42)), some (.inl x1), none] [] s Q) : zE x (d + 1) 200 [.inr (.inl 42), .inl x1] s Q := zE_of (n := 3) rfl rfl rfl rfl (fun h => (zLok_some (h _ (List.mem_of_getElem? (i := 0) rfl)) (zLok_some (h _ (List.mem_of_getElem? (i := 1) rfl)) (zLok_none zLok_nil)))) h
-- 201: PennyALapModel.twoOf
set_option maxRecDepth 100000 in
theorem kb_201 : kBls.getD 201 [] = c201 := rfl
set_option maxRecDepth 100000 in
theorem B201_0 {x : List Int} {d : Nat} {s : zSt} {Q : zQ} {x0 : Int} {x1 : Int} {x2 : Int}  (h : (x0 = 37 → zJ x d 201 154 [some (.inl x0), some (.inl x1), some (.inl x2)] [] s Q) ∧ (¬ x0 = 37 → (x0 = 38 → zJ x d 201 204 [some (.inl x0), some (.inl x1), some (.inl x2)] [] s Q) ∧ (¬ x0 = 38 → (x0 = 39 → zJ x d 201 218 [some (.inl x0), some (.inl x1), some (.inl x2)] [] s Q) ∧ (¬ x0 = 39 → (x0 = 40 → zJ x d 201 218 [some (.inl x0), some (.inl x1), some (.inl x2)] [] s Q) ∧ (¬ x0 = 40 → (x0 = 41 → zJ x d 201 218 [some (.inl x0), some (.inl x1), some (.inl x2)] [] s Q) ∧ (¬ x0 = 41 → (x0 = 42 → zJ x d 201 128 [some (.inl x0), some (.inl x1), some (.inl x2)] [] s Q) ∧ (¬ x0 = 42 → (x0 = 43 → zJ x d 201 120 [some (.inl x0), some (.inl x1), some (.inl x2)] [] s Q) ∧ (¬ x0 = 43 → (x0 = 44 → zJ x d 201 218 [some (.inl x0), some (.inl x1), some (.inl x2)] [] s Q) ∧ (¬ x0 = 44 → (x0 = 45 → zJ x d 201 124 [some (.inl x0), some (.inl x1), some (.inl x2)] [] s Q) ∧ (¬ x0 = 45 → (x0 = 46 → zJ x d 201 218 [some (.inl x0), some (.inl x1), some (.inl x2)] [] s Q) ∧ (¬ x0 = 46 → (x0 = 47 → zJ x d 201 132 [some (.inl x0), some (.inl x1), some (.inl x2)] [] s Q) ∧ (¬ x0 = 47 → (x0 = 48 → zJ x d 201 218 [some (.inl x0), some (.inl x1), some (.inl x2)] [] s Q) ∧ (¬ x0 = 48 → (x0 = 49 → zJ x d 201 218 [some (.inl x0), some (.inl x1), some (.inl x2)] [] s Q) ∧ (¬ x0 = 49 → (x0 = 50 → zJ x d 201 218 [some (.inl x0), some (.inl x1), some (.inl x2)] [] s Q) ∧ (¬ x0 = 50 → (x0 = 51 → zJ x d 201 218 [some (.inl x0), some (.inl x1), some (.inl x2)] [] s Q) ∧ (¬ x0 = 51 → (x0 = 52 → zJ x d 201 218 [some (.inl x0), some (.inl x1), some (.inl x2)] [] s Q) ∧ (¬ x0 = 52 → (x0 = 53 → zJ x d 201 218 [some (.inl x0), some (.inl x1), some (.inl x2)] [] s Q) ∧ (¬ x0 = 53 → (x0 = 54 → zJ x d 201 218 [some (.inl x0), some (.inl x1), some (.inl x2)] [] s Q) ∧ (¬ x0 = 54 → (x0 = 55 → zJ x d 201 218 [some (.inl x0), some (.inl x1), some (.inl x2)] [] s Q) ∧ (¬ x0 = 55 → (x0 = 56 → zJ x d 201 218 [some (.inl x0), some (.inl x1), some (.inl x2)] [] s Q) ∧ (¬ x0 = 56 → (x0 = 57 → zJ x d 201 218 [some (.inl x0), some (.inl x1), some (.inl x2)] [] s Q) ∧ (¬ x0 = 57 → (x0 = 58 → zJ x d 201 218 [some (.inl x0), some (.inl x1), some (.inl x2)] [] s Q) ∧ (¬ x0 = 58 → (x0 = 59 → zJ x d 201 218 [some (.inl x0), some (.inl x1), some (.inl x2)] [] s Q) ∧ (¬ x0 = 59 → (x0 = 60 → zJ x d 201 171 [some (.inl x0), some (.inl x1), some (.inl x2)] [] s Q) ∧ (¬ x0 = 60 → (x0 = 61 → zJ x d 201 182 [some (.inl x0), some (.inl x1), some (.inl x2)] [] s Q) ∧ (¬ x0 = 61 → (x0 = 62 → zJ x d 201 193 [some (.inl x0), some (.inl x1), some (.inl x2)] [] s Q) ∧ (¬ x0 = 62 → zJ x d 201 218 [some (.inl x0), some (.inl x1), some (.inl x2)] [] s Q))))))))))))))))))))))))))) : zJ x d 201 0 [some (.inl x0), some (.inl x1), some (.inl x2)] [] s Q := zJ_of (b := b201_0) (by rw [kBlk, kb_201]; rfl) h
set_option maxRecDepth 100000 in
theorem B201_120 {x : List Int} {d : Nat} {s : zSt} {Q : zQ} {x0 : Int} {x1 : Int} {x2 : Int}  (h : Q (some (.inl (wr (x1 + x2)))) s) : zJ x d 201 120 [some (.inl x0), some (.inl x1), some (.inl x2)] [] s Q := zJ_of (b := b201_120) (by rw [kBlk, kb_201]; rfl) h
set_option maxRecDepth 100000 in
theorem B201_124 {x : List Int} {d : Nat} {s : zSt} {Q : zQ} {x0 : Int} {x1 : Int} {x2 : Int}  (h : Q (some (.inl (wr (x1 - x2)))) s) : zJ x d 201 124 [some (.inl x0), some (.inl x1), some (.inl x2)] [] s Q := zJ_of (b := b201_124) (by rw [kBlk, kb_201]; rfl) h
set_option maxRecDepth 100000 in
theorem B201_128 {x : List Int} {d : Nat} {s : zSt} {Q : zQ} {x0 : Int} {x1 : Int} {x2 : Int}  (h : Q (some (.inl (wr (x1 * x2)))) s) : zJ x d 201 128 [some (.inl x0), some (.inl x1), some (.inl x2)] [] s Q := zJ_of (b := b201_128) (by rw [kBlk, kb_201]; rfl) h
set_option maxRecDepth 100000 in
theorem B201_132 {x : List Int} {d : Nat} {s : zSt} {Q : zQ} {x0 : Int} {x1 : Int} {x2 : Int}  (h : (¬ x2 = 0 → zJ x d 201 140 [some (.inl x0), some (.inl x1), some (.inl x2)] [] s Q) ∧ (¬ (¬ x2 = 0) → zJ x d 201 153 [some (.inl x0), some (.inl x1), some (.inl x2)] [.inl 0] s Q)) : zJ x d 201 132 [some (.inl x0), some (.inl x1), some (.inl x2)] [] s Q := zJ_of (b := b201_132) (by rw [kBlk, kb_201]; rfl) h
set_option maxRecDepth 100000 in
theorem B201_140 {x : List Int} {d : Nat} {s : zSt} {Q : zQ} {x0 : Int} {x1 : Int} {x2 : Int}  (h : (¬ x2 = (-1) → zJ x d 201 150 [some (.inl x0), some (.inl x1), some (.inl x2)] [] s Q) ∧ (¬ (¬ x2 = (-1)) → zJ x d 201 153 [some (.inl x0), some (.inl x1), some (.inl x2)] [.inl (wr (-x1))] s Q)) : zJ x d 201 140 [some (.inl x0), some (.inl x1), some (.inl x2)] [] s Q := zJ_of (b := b201_140) (by rw [kBlk, kb_201]; rfl) h
set_option maxRecDepth 100000 in
theorem B201_150 {x : List Int} {d : Nat} {s : zSt} {Q : zQ} {x0 : Int} {x1 : Int} {x2 : Int}  (h : if x2 = 0 then False else (zJ x d 201 153 [some (.inl x0), some (.inl x1), some (.inl x2)] [.inl (wr ((x1).tdiv x2))] s Q)) : zJ x d 201 150 [some (.inl x0), some (.inl x1), some (.inl x2)] [] s Q := zJ_of (b := b201_150) (by rw [kBlk, kb_201]; rfl) h
set_option maxRecDepth 100000 in
theorem B201_153 {x : List Int} {d : Nat} {s : zSt} {Q : zQ} {x0 : Int} {x1 : Int} {x2 : Int} {y0 : Int}  (h : Q (some (.inl y0)) s) : zJ x d 201 153 [some (.inl x0), some (.inl x1), some (.inl x2)] [.inl y0] s Q := zJ_of (b := b201_153) (by rw [kBlk, kb_201]; rfl) h
set_option maxRecDepth 100000 in
theorem B201_154 {x : List Int} {d : Nat} {s : zSt} {Q : zQ} {x0 : Int} {x1 : Int} {x2 : Int}  (h : (x2 = 0 → zJ x d 201 163 [some (.inl x0), some (.inl x1), some (.inl x2)] [] s Q) ∧ (¬ (x2 = 0) → (¬ x2 = (-1) → zJ x d 201 167 [some (.inl x0), some (.inl x1), some (.inl x2)] [] s Q) ∧ (¬ (¬ x2 = (-1)) → zJ x d 201 163 [some (.inl x0), some (.inl x1), some (.inl x2)] [] s Q))) : zJ x d 201 154 [some (.inl x0), some (.inl x1), some (.inl x2)] [] s Q := zJ_of (b := b201_154) (by rw [kBlk, kb_201]; rfl) h
set_option maxRecDepth 100000 in
theorem B201_163 {x : List Int} {d : Nat} {s : zSt} {Q : zQ} {x0 : Int} {x1 : Int} {x2 : Int}  (h : zJ x d 201 170 [some (.inl x0), some (.inl x1), some (.inl x2)] [.inl 0] s Q) : zJ x d 201 163 [some (.inl x0), some (.inl x1), some (.inl x2)] [] s Q := zJ_of (b := b201_163) (by rw [kBlk, kb_201]; rfl) h
set_option maxRecDepth 100000 in
theorem B201_167 {x : List Int} {d : Nat} {s : zSt} {Q : zQ} {x0 : Int} {x1 : Int} {x2 : Int}  (h : if x2 = 0 then False else (zJ x d 201 170 [some (.inl x0), some (.inl x1), some (.inl x2)] [.inl (wr ((x1).tmod x2))] s Q)) : zJ x d 201 167 [some (.inl x0), some (.inl x1), some (.inl x2)] [] s Q := zJ_of (b := b201_167) (by rw [kBlk, kb_201]; rfl) h
set_option maxRecDepth 100000 in
theorem B201_170 {x : List Int} {d : Nat} {s : zSt} {Q : zQ} {x0 : Int} {x1 : Int} {x2 : Int} {y0 : Int}  (h : Q (some (.inl y0)) s) : zJ x d 201 170 [some (.inl x0), some (.inl x1), some (.inl x2)] [.inl y0] s Q := zJ_of (b := b201_170) (by rw [kBlk, kb_201]; rfl) h
set_option maxRecDepth 100000 in
theorem B201_171 {x : List Int} {d : Nat} {s : zSt} {Q : zQ} {x0 : Int} {x1 : Int} {x2 : Int}  (h : (x2 ≤ x1 → zJ x d 201 180 [some (.inl x0), some (.inl x1), some (.inl x2)] [] s Q) ∧ (¬ (x2 ≤ x1) → zJ x d 201 181 [some (.inl x0), some (.inl x1), some (.inl x2)] [.inl 1] s Q)) : zJ x d 201 171 [some (.inl x0), some (.inl x1), some (.inl x2)] [] s Q := zJ_of (b := b201_171) (by rw [kBlk, kb_201]; rfl) h
set_option maxRecDepth 100000 in
theorem B201_180 {x : List Int} {d : Nat} {s : zSt} {Q : zQ} {x0 : Int} {x1 : Int} {x2 : Int}  (h : zJ x d 201 181 [some (.inl x0), some (.inl x1), some (.inl x2)] [.inl 0] s Q) : zJ x d 201 180 [some (.inl x0), some (.inl x1), some (.inl x2)] [] s Q := zJ_of (b := b201_180) (by rw [kBlk, kb_201]; rfl) h
set_option maxRecDepth 100000 in
theorem B201_181 {x : List Int} {d : Nat} {s : zSt} {Q : zQ} {x0 : Int} {x1 : Int} {x2 : Int} {y0 : Int}  (h : Q (some (.inl y0)) s) : zJ x d 201 181 [some (.inl x0), some (.inl x1), some (.inl x2)] [.inl y0] s Q := zJ_of (b := b201_181) (by rw [kBlk, kb_201]; rfl) h
set_option maxRecDepth 100000 in
theorem B201_182 {x : List Int} {d : Nat} {s : zSt} {Q : zQ} {x0 : Int} {x1 : Int} {x2 : Int}  (h : (¬ x1 = x2 → zJ x d 201 191 [some (.inl x0), some (.inl x1), some (.inl x2)] [] s Q) ∧ (¬ (¬ x1 = x2) → zJ x d 201 192 [some (.inl x0), some (.inl x1), some (.inl x2)] [.inl 1] s Q)) : zJ x d 201 182 [some (.inl x0), some (.inl x1), some (.inl x2)] [] s Q := zJ_of (b := b201_182) (by rw [kBlk, kb_201]; rfl) h
set_option maxRecDepth 100000 in
theorem B201_191 {x : List Int} {d : Nat} {s : zSt} {Q : zQ} {x0 : Int} {x1 : Int} {x2 : Int}  (h : zJ x d 201 192 [some (.inl x0), some (.inl x1), some (.inl x2)] [.inl 0] s Q) : zJ x d 201 191 [some (.inl x0), some (.inl x1), some (.inl x2)] [] s Q := zJ_of (b := b201_191) (by rw [kBlk, kb_201]; rfl) h
set_option maxRecDepth 100000 in
theorem B201_192 {x : List Int} {d : Nat} {s : zSt} {Q : zQ} {x0 : Int} {x1 : Int} {x2 : Int} {y0 : Int}  (h : Q (some (.inl y0)) s) : zJ x d 201 192 [some (.inl x0), some (.inl x1), some (.inl x2)] [.inl y0] s Q := zJ_of (b := b201_192) (by rw [kBlk, kb_201]; rfl) h
set_option maxRecDepth 100000 in
theorem B201_193 {x : List Int} {d : Nat} {s : zSt} {Q : zQ} {x0 : Int} {x1 : Int} {x2 : Int}  (h : (x1 ≤ x2 → zJ x d 201 202 [some (.inl x0), some (.inl x1), some (.inl x2)] [] s Q) ∧ (¬ (x1 ≤ x2) → zJ x d 201 203 [some (.inl x0), some (.inl x1), some (.inl x2)] [.inl 1] s Q)) : zJ x d 201 193 [some (.inl x0), some (.inl x1), some (.inl x2)] [] s Q := zJ_of (b := b201_193) (by rw [kBlk, kb_201]; rfl) h
set_option maxRecDepth 100000 in
theorem B201_202 {x : List Int} {d : Nat} {s : zSt} {Q : zQ} {x0 : Int} {x1 : Int} {x2 : Int}  (h : zJ x d 201 203 [some (.inl x0), some (.inl x1), some (.inl x2)] [.inl 0] s Q) : zJ x d 201 202 [some (.inl x0), some (.inl x1), some (.inl x2)] [] s Q := zJ_of (b := b201_202) (by rw [kBlk, kb_201]; rfl) h
set_option maxRecDepth 100000 in
theorem B201_203 {x : List Int} {d : Nat} {s : zSt} {Q : zQ} {x0 : Int} {x1 : Int} {x2 : Int} {y0 : Int}  (h : Q (some (.inl y0)) s) : zJ x d 201 203 [some (.inl x0), some (.inl x1), some (.inl x2)] [.inl y0] s Q := zJ_of (b := b201_203) (by rw [kBlk, kb_201]; rfl) h
set_option maxRecDepth 100000 in
theorem B201_204 {x : List Int} {d : Nat} {s : zSt} {Q : zQ} {x0 : Int} {x1 : Int} {x2 : Int}  (h : (x1 = 0 → zJ x d 201 216 [some (.inl x0), some (.inl x1), some (.inl x2)] [] s Q) ∧ (¬ (x1 = 0) → (x2 = 0 → zJ x d 201 216 [some (.inl x0), some (.inl x1), some (.inl x2)] [] s Q) ∧ (¬ (x2 = 0) → zJ x d 201 217 [some (.inl x0), some (.inl x1), some (.inl x2)] [.inl 1] s Q))) : zJ x d 201 204 [some (.inl x0), some (.inl x1), some (.inl x2)] [] s Q := zJ_of (b := b201_204) (by rw [kBlk, kb_201]; rfl) h
set_option maxRecDepth 100000 in
theorem B201_216 {x : List Int} {d : Nat} {s : zSt} {Q : zQ} {x0 : Int} {x1 : Int} {x2 : Int}  (h : zJ x d 201 217 [some (.inl x0), some (.inl x1), some (.inl x2)] [.inl 0] s Q) : zJ x d 201 216 [some (.inl x0), some (.inl x1), some (.inl x2)] [] s Q := zJ_of (b := b201_216) (by rw [kBlk, kb_201]; rfl) h
set_option maxRecDepth 100000 in
theorem B201_217 {x : List Int} {d : Nat} {s : zSt} {Q : zQ} {x0 : Int} {x1 : Int} {x2 : Int} {y0 : Int}  (h : Q (some (.inl y0)) s) : zJ x d 201 217 [some (.inl x0), some (.inl x1), some (.inl x2)] [.inl y0] s Q := zJ_of (b := b201_217) (by rw [kBlk, kb_201]; rfl) h
set_option maxRecDepth 100000 in
theorem B201_218 {x : List Int} {d : Nat} {s : zSt} {Q : zQ} {x0 : Int} {x1 : Int} {x2 : Int}  (h : (¬ x1 = 0 → zJ x d 201 226 [some (.inl x0), some (.inl x1), some (.inl x2)] [] s Q) ∧ (¬ (¬ x1 = 0) → (x2 = 0 → zJ x d 201 230 [some (.inl x0), some (.inl x1), some (.inl x2)] [] s Q) ∧ (¬ (x2 = 0) → zJ x d 201 226 [some (.inl x0), some (.inl x1), some (.inl x2)] [] s Q))) : zJ x d 201 218 [some (.inl x0), some (.inl x1), some (.inl x2)] [] s Q := zJ_of (b := b201_218) (by rw [kBlk, kb_201]; rfl) h
set_option maxRecDepth 100000 in
theorem B201_226 {x : List Int} {d : Nat} {s : zSt} {Q : zQ} {x0 : Int} {x1 : Int} {x2 : Int}  (h : zJ x d 201 231 [some (.inl x0), some (.inl x1), some (.inl x2)] [.inl 1] s Q) : zJ x d 201 226 [some (.inl x0), some (.inl x1), some (.inl x2)] [] s Q := zJ_of (b := b201_226) (by rw [kBlk, kb_201]; rfl) h
set_option maxRecDepth 100000 in
theorem B201_230 {x : List Int} {d : Nat} {s : zSt} {Q : zQ} {x0 : Int} {x1 : Int} {x2 : Int}  (h : zJ x d 201 231 [some (.inl x0), some (.inl x1), some (.inl x2)] [.inl 0] s Q) : zJ x d 201 230 [some (.inl x0), some (.inl x1), some (.inl x2)] [] s Q := zJ_of (b := b201_230) (by rw [kBlk, kb_201]; rfl) h
set_option maxRecDepth 100000 in
theorem B201_231 {x : List Int} {d : Nat} {s : zSt} {Q : zQ} {x0 : Int} {x1 : Int} {x2 : Int} {y0 : Int}  (h : Q (some (.inl y0)) s) : zJ x d 201 231 [some (.inl x0), some (.inl x1), some (.inl x2)] [.inl y0] s Q := zJ_of (b := b201_231) (by rw [kBlk, kb_201]; rfl) h
set_option maxRecDepth 100000 in
theorem N201 {x : List Int} {d : Nat} {s : zSt} {Q : zQ} {x0 : Int} {x1 : Int} {x2 : Int} (h : zJ x d 201 0 [some (.inl x0), some (.inl x1), some (.inl x2)] [] s Q) : zE x (d + 1) 201 [.inl x0, .inl x1, .inl x2] s Q := zE_of (n := 3) rfl rfl rfl rfl (fun h => (zLok_some (h _ (List.mem_of_getElem? (i := 0) rfl)) (zLok_some (h _ (List.mem_of_getElem? (i := 1) rfl)) (zLok_some (h _ (List.mem_of_getElem? (i := 2) rfl)) zLok_nil)))) h
-- 202: PennyALapModel.worked
set_option maxRecDepth 100000 in
theorem kb_202 : kBls.getD 202 [] = c202 := rfl
set_option maxRecDepth 100000 in
theorem B202_0 {x : List Int} {d : Nat} {s : zSt} {Q : zQ} {x1 : Int} {x2 : Int} {x3 : Int}  (h : zJ x d 202 12 [some (.inr (.inl 42)), some (.inl x1), some (.inl x2), some (.inl x3), some (.inl 0), some (.inl (wr ((wr (130 * x1)) + x2))), none] [] s Q) : zJ x d 202 0 [some (.inr (.inl 42)), some (.inl x1), some (.inl x2), some (.inl x3), none, none, none] [] s Q := zJ_of (b := b202_0) (by rw [kBlk, kb_202]; rfl) h
set_option maxRecDepth 100000 in
theorem B202_12 {x : List Int} {d : Nat} {s : zSt} {Q : zQ} {x1 : Int} {x2 : Int} {x3 : Int} {x4 : Int} {x5 : Int} {o6 : Option zV}  (h : (wr ((wr (130 * x1)) + x3) ≤ x5 → zJ x d 202 188 [some (.inr (.inl 42)), some (.inl x1), some (.inl x2), some (.inl x3), some (.inl x4), some (.inl x5), o6] [] s Q) ∧ (¬ (wr ((wr (130 * x1)) + x3) ≤ x5) → (0 : Int) ≤ x5 ∧ (x5 : Int) < 260 ∧ ((s 58 (x5).toNat = 1 → zJ x d 202 45 [some (.inr (.inl 42)), some (.inl x1), some (.inl x2), some (.inl x3), some (.inl x4), some (.inl x5), some (.inl (s 58 (x5).toNat))] [] s Q) ∧ (¬ (s 58 (x5).toNat = 1) → (¬ s 58 (x5).toNat = 2 → zJ x d 202 86 [some (.inr (.inl 42)), some (.inl x1), some (.inl x2), some (.inl x3), some (.inl x4), some (.inl x5), some (.inl (s 58 (x5).toNat))] [] s Q) ∧ (¬ (¬ s 58 (x5).toNat = 2) → zJ x d 202 45 [some (.inr (.inl 42)), some (.inl x1), some (.inl x2), some (.inl x3), some (.inl x4), some (.inl x5), some (.inl (s 58 (x5).toNat))] [] s Q))))) : zJ x d 202 12 [some (.inr (.inl 42)), some (.inl x1), some (.inl x2), some (.inl x3), some (.inl x4), some (.inl x5), o6] [] s Q := zJ_of (b := b202_12) (by rw [kBlk, kb_202]; rfl) h
set_option maxRecDepth 100000 in
theorem B202_45 {x : List Int} {d : Nat} {s : zSt} {Q : zQ} {x1 : Int} {x2 : Int} {x3 : Int} {x4 : Int} {x5 : Int} {x6 : Int}  (h : (¬ x6 = 1 → zJ x d 202 67 [some (.inr (.inl 42)), some (.inl x1), some (.inl x2), some (.inl x3), some (.inl x4), some (.inl x5), some (.inl x6)] [.inl x4, .inr (.inl 64)] s Q) ∧ (¬ (¬ x6 = 1) → (0 : Int) ≤ x5 ∧ (x5 : Int) < 260 ∧ (zJ x d 202 79 [some (.inr (.inl 42)), some (.inl x1), some (.inl x2), some (.inl x3), some (.inl x4), some (.inl x5), some (.inl x6)] [.inl (s 59 (x5).toNat), .inl x4, .inr (.inl 64)] s Q))) : zJ x d 202 45 [some (.inr (.inl 42)), some (.inl x1), some (.inl x2), some (.inl x3), some (.inl x4), some (.inl x5), some (.inl x6)] [] s Q := zJ_of (b := b202_45) (by rw [kBlk, kb_202]; rfl) h
set_option maxRecDepth 100000 in
theorem B202_67 {x : List Int} {d : Nat} {s : zSt} {Q : zQ} {x1 : Int} {x2 : Int} {x3 : Int} {x4 : Int} {x5 : Int} {x6 : Int} {y0 : Int}  (h : (0 : Int) ≤ x5 ∧ (x5 : Int) < 260 ∧ ((0 : Int) ≤ s 59 (x5).toNat ∧ (s 59 (x5).toNat : Int) < 6 ∧ (zJ x d 202 79 [some (.inr (.inl 42)), some (.inl x1), some (.inl x2), some (.inl x3), some (.inl x4), some (.inl x5), some (.inl x6)] [.inl (s 63 (s 59 (x5).toNat).toNat), .inl y0, .inr (.inl 64)] s Q))) : zJ x d 202 67 [some (.inr (.inl 42)), some (.inl x1), some (.inl x2), some (.inl x3), some (.inl x4), some (.inl x5), some (.inl x6)] [.inl y0, .inr (.inl 64)] s Q := zJ_of (b := b202_67) (by rw [kBlk, kb_202]; rfl) h
set_option maxRecDepth 100000 in
theorem B202_79 {x : List Int} {d : Nat} {s : zSt} {Q : zQ} {x1 : Int} {x2 : Int} {x3 : Int} {x4 : Int} {x5 : Int} {x6 : Int} {y0 : Int} {y1 : Int}  (h : (0 : Int) ≤ y1 ∧ (y1 : Int) < 130 ∧ (zJ x d 202 182 [some (.inr (.inl 42)), some (.inl x1), some (.inl x2), some (.inl x3), some (.inl (wr (x4 + 1))), some (.inl x5), some (.inl x6)] [] (zU s 64 (y1).toNat y0) Q)) : zJ x d 202 79 [some (.inr (.inl 42)), some (.inl x1), some (.inl x2), some (.inl x3), some (.inl x4), some (.inl x5), some (.inl x6)] [.inl y0, .inl y1, .inr (.inl 64)] s Q := zJ_of (b := b202_79) (by rw [kBlk, kb_202]; rfl) h
set_option maxRecDepth 100000 in
theorem B202_86 {x : List Int} {d : Nat} {s : zSt} {Q : zQ} {x1 : Int} {x2 : Int} {x3 : Int} {x4 : Int} {x5 : Int} {x6 : Int}  (h : (¬ x6 = 3 → zJ x d 202 121 [some (.inr (.inl 42)), some (.inl x1), some (.inl x2), some (.inl x3), some (.inl x4), some (.inl x5), some (.inl x6)] [] s Q) ∧ (¬ (¬ x6 = 3) → (0 : Int) ≤ wr (x4 - 1) ∧ (wr (x4 - 1) : Int) < 130 ∧ ((¬ s 64 (wr (x4 - 1)).toNat = 0 → zJ x d 202 116 [some (.inr (.inl 42)), some (.inl x1), some (.inl x2), some (.inl x3), some (.inl x4), some (.inl x5), some (.inl x6)] [.inl (wr (x4 - 1)), .inr (.inl 64)] s Q) ∧ (¬ (¬ s 64 (wr (x4 - 1)).toNat = 0) → zJ x d 202 117 [some (.inr (.inl 42)), some (.inl x1), some (.inl x2), some (.inl x3), some (.inl x4), some (.inl x5), some (.inl x6)] [.inl 1, .inl (wr (x4 - 1)), .inr (.inl 64)] s Q)))) : zJ x d 202 86 [some (.inr (.inl 42)), some (.inl x1), some (.inl x2), some (.inl x3), some (.inl x4), some (.inl x5), some (.inl x6)] [] s Q := zJ_of (b := b202_86) (by rw [kBlk, kb_202]; rfl) h
set_option maxRecDepth 100000 in
theorem B202_116 {x : List Int} {d : Nat} {s : zSt} {Q : zQ} {x1 : Int} {x2 : Int} {x3 : Int} {x4 : Int} {x5 : Int} {x6 : Int} {y0 : Int}  (h : zJ x d 202 117 [some (.inr (.inl 42)), some (.inl x1), some (.inl x2), some (.inl x3), some (.inl x4), some (.inl x5), some (.inl x6)] [.inl 0, .inl y0, .inr (.inl 64)] s Q) : zJ x d 202 116 [some (.inr (.inl 42)), some (.inl x1), some (.inl x2), some (.inl x3), some (.inl x4), some (.inl x5), some (.inl x6)] [.inl y0, .inr (.inl 64)] s Q := zJ_of (b := b202_116) (by rw [kBlk, kb_202]; rfl) h
set_option maxRecDepth 100000 in
theorem B202_117 {x : List Int} {d : Nat} {s : zSt} {Q : zQ} {x1 : Int} {x2 : Int} {x3 : Int} {x4 : Int} {x5 : Int} {x6 : Int} {y0 : Int} {y1 : Int}  (h : (0 : Int) ≤ y1 ∧ (y1 : Int) < 130 ∧ (zJ x d 202 182 [some (.inr (.inl 42)), some (.inl x1), some (.inl x2), some (.inl x3), some (.inl x4), some (.inl x5), some (.inl x6)] [] (zU s 64 (y1).toNat y0) Q)) : zJ x d 202 117 [some (.inr (.inl 42)), some (.inl x1), some (.inl x2), some (.inl x3), some (.inl x4), some (.inl x5), some (.inl x6)] [.inl y0, .inl y1, .inr (.inl 64)] s Q := zJ_of (b := b202_117) (by rw [kBlk, kb_202]; rfl) h
set_option maxRecDepth 100000 in
theorem B202_121 {x : List Int} {d : Nat} {s : zSt} {Q : zQ} {x1 : Int} {x2 : Int} {x3 : Int} {x4 : Int} {x5 : Int} {x6 : Int}  (h : (¬ x6 = 4 → zJ x d 202 149 [some (.inr (.inl 42)), some (.inl x1), some (.inl x2), some (.inl x3), some (.inl x4), some (.inl x5), some (.inl x6)] [] s Q) ∧ (¬ (¬ x6 = 4) → (0 : Int) ≤ wr (x4 - 1) ∧ (wr (x4 - 1) : Int) < 130 ∧ ((0 : Int) ≤ wr (x4 - 1) ∧ (wr (x4 - 1) : Int) < 130 ∧ (zJ x d 202 182 [some (.inr (.inl 42)), some (.inl x1), some (.inl x2), some (.inl x3), some (.inl x4), some (.inl x5), some (.inl x6)] [] (zU s 64 (wr (x4 - 1)).toNat (wr (-(s 64 (wr (x4 - 1)).toNat)))) Q)))) : zJ x d 202 121 [some (.inr (.inl 42)), some (.inl x1), some (.inl x2), some (.inl x3), some (.inl x4), some (.inl x5), some (.inl x6)] [] s Q := zJ_of (b := b202_121) (by rw [kBlk, kb_202]; rfl) h
set_option maxRecDepth 100000 in
theorem B202_149 {x : List Int} {d : Nat} {s : zSt} {Q : zQ} {x1 : Int} {x2 : Int} {x3 : Int} {x4 : Int} {x5 : Int} {x6 : Int}  (h : (0 : Int) ≤ wr ((wr (x4 + (-1))) - 1) ∧ (wr ((wr (x4 + (-1))) - 1) : Int) < 130 ∧ ((0 : Int) ≤ wr (x4 + (-1)) ∧ (wr (x4 + (-1)) : Int) < 130 ∧ (zE x d 201 [.inl x6, .inl (s 64 (wr ((wr (x4 + (-1))) - 1)).toNat), .inl (s 64 (wr (x4 + (-1))).toNat)] s (fun r s1 => zJ x d 202 181 [some (.inr (.inl 42)), some (.inl x1), some (.inl x2), some (.inl x3), some (.inl (wr (x4 + (-1)))), some (.inl x5), some (.inl x6)] (zAp r [.inl (wr ((wr (x4 + (-1))) - 1)), .inr (.inl 64)]) s1 Q)))) : zJ x d 202 149 [some (.inr (.inl 42)), some (.inl x1), some (.inl x2), some (.inl x3), some (.inl x4), some (.inl x5), some (.inl x6)] [] s Q := zJ_of (b := b202_149) (by rw [kBlk, kb_202]; rfl) h
set_option maxRecDepth 100000 in
theorem B202_181 {x : List Int} {d : Nat} {s : zSt} {Q : zQ} {x1 : Int} {x2 : Int} {x3 : Int} {x4 : Int} {x5 : Int} {x6 : Int} {y0 : Int} {y1 : Int}  (h : (0 : Int) ≤ y1 ∧ (y1 : Int) < 130 ∧ (zJ x d 202 182 [some (.inr (.inl 42)), some (.inl x1), some (.inl x2), some (.inl x3), some (.inl x4), some (.inl x5), some (.inl x6)] [] (zU s 64 (y1).toNat y0) Q)) : zJ x d 202 181 [some (.inr (.inl 42)), some (.inl x1), some (.inl x2), some (.inl x3), some (.inl x4), some (.inl x5), some (.inl x6)] [.inl y0, .inl y1, .inr (.inl 64)] s Q := zJ_of (b := b202_181) (by rw [kBlk, kb_202]; rfl) h
set_option maxRecDepth 100000 in
theorem B202_182 {x : List Int} {d : Nat} {s : zSt} {Q : zQ} {x1 : Int} {x2 : Int} {x3 : Int} {x4 : Int} {x5 : Int} {x6 : Int}  (h : zJ x d 202 12 [some (.inr (.inl 42)), some (.inl x1), some (.inl x2), some (.inl x3), some (.inl x4), some (.inl (wr (x5 + 1))), some (.inl x6)] [] s Q) : zJ x d 202 182 [some (.inr (.inl 42)), some (.inl x1), some (.inl x2), some (.inl x3), some (.inl x4), some (.inl x5), some (.inl x6)] [] s Q := zJ_of (b := b202_182) (by rw [kBlk, kb_202]; rfl) h
set_option maxRecDepth 100000 in
theorem B202_188 {x : List Int} {d : Nat} {s : zSt} {Q : zQ} {x1 : Int} {x2 : Int} {x3 : Int} {x4 : Int} {x5 : Int} {o6 : Option zV}  (h : (0 : Int) ≤ 0 ∧ (0 : Int) < 130 ∧ (Q (some (.inl (s 64 0))) s)) : zJ x d 202 188 [some (.inr (.inl 42)), some (.inl x1), some (.inl x2), some (.inl x3), some (.inl x4), some (.inl x5), o6] [] s Q := zJ_of (b := b202_188) (by rw [kBlk, kb_202]; rfl) h
set_option maxRecDepth 100000 in
theorem N202 {x : List Int} {d : Nat} {s : zSt} {Q : zQ} {x1 : Int} {x2 : Int} {x3 : Int} (h : zJ x d 202 0 [some (.inr (.inl 42)), some (.inl x1), some (.inl x2), some (.inl x3), none, none, none] [] s Q) : zE x (d + 1) 202 [.inr (.inl 42), .inl x1, .inl x2, .inl x3] s Q := zE_of (n := 7) rfl rfl rfl rfl (fun h => (zLok_some (h _ (List.mem_of_getElem? (i := 0) rfl)) (zLok_some (h _ (List.mem_of_getElem? (i := 1) rfl)) (zLok_some (h _ (List.mem_of_getElem? (i := 2) rfl)) (zLok_some (h _ (List.mem_of_getElem? (i := 3) rfl)) (zLok_none (zLok_none (zLok_none zLok_nil)))))))) h
-- 203: PennyALapModel.gives
set_option maxRecDepth 100000 in
theorem kb_203 : kBls.getD 203 [] = c203 := rfl
set_option maxRecDepth 100000 in
theorem B203_0 {x : List Int} {d : Nat} {s : zSt} {Q : zQ} {x1 : Int}  (h : zJ x d 203 7 [some (.inr (.inl 42)), some (.inl x1), some (.inl 0), some (.inl (wr (61 * x1)))] [] s Q) : zJ x d 203 0 [some (.inr (.inl 42)), some (.inl x1), none, none] [] s Q := zJ_of (b := b203_0) (by rw [kBlk, kb_203]; rfl) h
set_option maxRecDepth 100000 in
theorem B203_7 {x : List Int} {d : Nat} {s : zSt} {Q : zQ} {x1 : Int} {x2 : Int} {x3 : Int}  (h : (0 : Int) ≤ x1 ∧ (x1 : Int) < 2 ∧ ((wr ((wr (61 * x1)) + (s 60 (x1).toNat)) ≤ x3 → zJ x d 203 78 [some (.inr (.inl 42)), some (.inl x1), some (.inl x2), some (.inl x3)] [] s Q) ∧ (¬ (wr ((wr (61 * x1)) + (s 60 (x1).toNat)) ≤ x3) → (0 : Int) ≤ x3 ∧ (x3 : Int) < 122 ∧ ((s 61 (x3).toNat = x2 → zJ x d 203 47 [some (.inr (.inl 42)), some (.inl x1), some (.inl x2), some (.inl x3)] [] s Q) ∧ (¬ (s 61 (x3).toNat = x2) → (0 : Int) ≤ x3 ∧ (x3 : Int) < 122 ∧ (zE x d 202 [.inr (.inl 42), .inl x1, .inl x2, .inl (s 61 (x3).toNat)] s (fun r s1 => zJ x d 203 44 [some (.inr (.inl 42)), some (.inl x1), some (.inl x2), some (.inl x3)] (zAp r []) s1 Q))))))) : zJ x d 203 7 [some (.inr (.inl 42)), some (.inl x1), some (.inl x2), some (.inl x3)] [] s Q := zJ_of (b := b203_7) (by rw [kBlk, kb_203]; rfl) h
set_option maxRecDepth 100000 in
theorem B203_44 {x : List Int} {d : Nat} {s : zSt} {Q : zQ} {x1 : Int} {x2 : Int} {x3 : Int} {y0 : Int}  (h : (y0 = 0 → zJ x d 203 65 [some (.inr (.inl 42)), some (.inl x1), some (.inl x2), some (.inl x3)] [] s Q) ∧ (¬ (y0 = 0) → zJ x d 203 47 [some (.inr (.inl 42)), some (.inl x1), some (.inl x2), some (.inl x3)] [] s Q)) : zJ x d 203 44 [some (.inr (.inl 42)), some (.inl x1), some (.inl x2), some (.inl x3)] [.inl y0] s Q := zJ_of (b := b203_44) (by rw [kBlk, kb_203]; rfl) h
set_option maxRecDepth 100000 in
theorem B203_47 {x : List Int} {d : Nat} {s : zSt} {Q : zQ} {x1 : Int} {x2 : Int} {x3 : Int}  (h : (0 : Int) ≤ x3 ∧ (x3 : Int) < 122 ∧ ((0 : Int) ≤ x3 ∧ (x3 : Int) < 122 ∧ (zE x d 202 [.inr (.inl 42), .inl x1, .inl (s 61 (x3).toNat), .inl (s 62 (x3).toNat)] s (fun r s1 => zJ x d 203 64 [some (.inr (.inl 42)), some (.inl x1), some (.inl x2), some (.inl x3)] (zAp r []) s1 Q)))) : zJ x d 203 47 [some (.inr (.inl 42)), some (.inl x1), some (.inl x2), some (.inl x3)] [] s Q := zJ_of (b := b203_47) (by rw [kBlk, kb_203]; rfl) h
set_option maxRecDepth 100000 in
theorem B203_64 {x : List Int} {d : Nat} {s : zSt} {Q : zQ} {x1 : Int} {x2 : Int} {x3 : Int} {y0 : Int}  (h : Q (some (.inl y0)) s) : zJ x d 203 64 [some (.inr (.inl 42)), some (.inl x1), some (.inl x2), some (.inl x3)] [.inl y0] s Q := zJ_of (b := b203_64) (by rw [kBlk, kb_203]; rfl) h
set_option maxRecDepth 100000 in
theorem B203_65 {x : List Int} {d : Nat} {s : zSt} {Q : zQ} {x1 : Int} {x2 : Int} {x3 : Int}  (h : (0 : Int) ≤ x3 ∧ (x3 : Int) < 122 ∧ (zJ x d 203 7 [some (.inr (.inl 42)), some (.inl x1), some (.inl (s 62 (x3).toNat)), some (.inl (wr (x3 + 1)))] [] s Q)) : zJ x d 203 65 [some (.inr (.inl 42)), some (.inl x1), some (.inl x2), some (.inl x3)] [] s Q := zJ_of (b := b203_65) (by rw [kBlk, kb_203]; rfl) h
set_option maxRecDepth 100000 in
theorem B203_78 {x : List Int} {d : Nat} {s : zSt} {Q : zQ} {x1 : Int} {x2 : Int} {x3 : Int}  (h : Q (some (.inl 0)) s) : zJ x d 203 78 [some (.inr (.inl 42)), some (.inl x1), some (.inl x2), some (.inl x3)] [] s Q := zJ_of (b := b203_78) (by rw [kBlk, kb_203]; rfl) h
set_option maxRecDepth 100000 in
theorem N203 {x : List Int} {d : Nat} {s : zSt} {Q : zQ} {x1 : Int} (h : zJ x d 203 0 [some (.inr (.inl 42)), some (.inl x1), none, none] [] s Q) : zE x (d + 1) 203 [.inr (.inl 42), .inl x1] s Q := zE_of (n := 4) rfl rfl rfl rfl (fun h => (zLok_some (h _ (List.mem_of_getElem? (i := 0) rfl)) (zLok_some (h _ (List.mem_of_getElem? (i := 1) rfl)) (zLok_none (zLok_none zLok_nil))))) h
-- 204: PennyALapModel.law
set_option maxRecDepth 100000 in
theorem kb_204 : kBls.getD 204 [] = c204 := rfl
set_option maxRecDepth 100000 in
theorem B204_0 {x : List Int} {d : Nat} {s : zSt} {Q : zQ}   (h : zE x d 200 [.inr (.inl 42), .inl 0] s (fun r s1 => zJ x d 204 5 [some (.inr (.inl 42)), none] (zAp r []) s1 Q)) : zJ x d 204 0 [some (.inr (.inl 42)), none] [] s Q := zJ_of (b := b204_0) (by rw [kBlk, kb_204]; rfl) h
set_option maxRecDepth 100000 in
theorem B204_5 {x : List Int} {d : Nat} {s : zSt} {Q : zQ} {y0 : Int}  (h : (y0 < 0 → zJ x d 204 15 [some (.inr (.inl 42)), some (.inl y0)] [] s Q) ∧ (¬ (y0 < 0) → Q (some (.inl (wr ((-100) - y0)))) s)) : zJ x d 204 5 [some (.inr (.inl 42)), none] [.inl y0] s Q := zJ_of (b := b204_5) (by rw [kBlk, kb_204]; rfl) h
set_option maxRecDepth 100000 in
theorem B204_15 {x : List Int} {d : Nat} {s : zSt} {Q : zQ} {x1 : Int}  (h : ((1 : Int) = 0 ∨ (1 : Int) = 1) ∧ (Q (some (.inl 1)) (zU s 42 36 1))) : zJ x d 204 15 [some (.inr (.inl 42)), some (.inl x1)] [] s Q := zJ_of (b := b204_15) (by rw [kBlk, kb_204]; rfl) h
set_option maxRecDepth 100000 in
theorem N204 {x : List Int} {d : Nat} {s : zSt} {Q : zQ}  (h : zJ x d 204 0 [some (.inr (.inl 42)), none] [] s Q) : zE x (d + 1) 204 [.inr (.inl 42)] s Q := zE_of (n := 2) rfl rfl rfl rfl (fun h => (zLok_some (h _ (List.mem_of_getElem? (i := 0) rfl)) (zLok_none zLok_nil))) h
-- 205: PennyALapModel.lapOf
set_option maxRecDepth 100000 in
theorem kb_205 : kBls.getD 205 [] = c205 := rfl
set_option maxRecDepth 100000 in
theorem B205_0 {x : List Int} {d : Nat} {s : zSt} {Q : zQ} {x1 : Int} {x2 : Int} {x3 : Int}  (h : (0 : Int) ≤ x1 ∧ (x1 : Int) < 6 ∧ ((0 : Int) ≤ x1 ∧ (x1 : Int) < 6 ∧ ((s 42 36 = 0 → zJ x d 205 93 [some (.inr (.inl 42)), some (.inl x1), some (.inl x2), some (.inl x3), some (.inl (wr ((wr ((s 43 (x1).toNat) + (wr ((wr ((s 44 (x1).toNat) * x2)).tdiv 4)))) + (s 42 13))))] [] s Q) ∧ (¬ (s 42 36 = 0) → (0 : Int) ≤ x1 ∧ (x1 : Int) < 6 ∧ ((0 : Int) ≤ 0 ∧ (0 : Int) < 6 ∧ ((0 : Int) ≤ x1 ∧ (x1 : Int) < 6 ∧ ((0 : Int) ≤ 1 ∧ (1 : Int) < 6 ∧ ((0 : Int) ≤ 2 ∧ (2 : Int) < 6 ∧ ((0 : Int) ≤ 3 ∧ (3 : Int) < 6 ∧ ((0 : Int) ≤ 4 ∧ (4 : Int) < 6 ∧ ((0 : Int) ≤ 5 ∧ (5 : Int) < 6 ∧ (zE x d 203 [.inr (.inl 42), .inl 0] (zU (zU (zU (zU (zU (zU s 63 0 (s 43 (x1).toNat)) 63 1 (s 44 (x1).toNat)) 63 2 x2) 63 3 x3) 63 4 (s 42 13)) 63 5 x1) (fun r s1 => zJ x d 205 91 [some (.inr (.inl 42)), some (.inl x1), some (.inl x2), some (.inl x3), some (.inl (wr ((wr ((s 43 (x1).toNat) + (wr ((wr ((s 44 (x1).toNat) * x2)).tdiv 4)))) + (s 42 13))))] (zAp r []) s1 Q))))))))))))) : zJ x d 205 0 [some (.inr (.inl 42)), some (.inl x1), some (.inl x2), some (.inl x3), none] [] s Q := zJ_of (b := b205_0) (by rw [kBlk, kb_205]; rfl) h
set_option maxRecDepth 100000 in
theorem B205_91 {x : List Int} {d : Nat} {s : zSt} {Q : zQ} {x1 : Int} {x2 : Int} {x3 : Int} {x4 : Int} {y0 : Int}  (h : zJ x d 205 93 [some (.inr (.inl 42)), some (.inl x1), some (.inl x2), some (.inl x3), some (.inl y0)] [] s Q) : zJ x d 205 91 [some (.inr (.inl 42)), some (.inl x1), some (.inl x2), some (.inl x3), some (.inl x4)] [.inl y0] s Q := zJ_of (b := b205_91) (by rw [kBlk, kb_205]; rfl) h
set_option maxRecDepth 100000 in
theorem B205_93 {x : List Int} {d : Nat} {s : zSt} {Q : zQ} {x1 : Int} {x2 : Int} {x3 : Int} {x4 : Int}  (h : (1 ≤ x4 → zJ x d 205 103 [some (.inr (.inl 42)), some (.inl x1), some (.inl x2), some (.inl x3), some (.inl x4)] [] s Q) ∧ (¬ (1 ≤ x4) → zJ x d 205 117 [some (.inr (.inl 42)), some (.inl x1), some (.inl x2), some (.inl x3), some (.inl x4)] [.inl 1] s Q)) : zJ x d 205 93 [some (.inr (.inl 42)), some (.inl x1), some (.inl x2), some (.inl x3), some (.inl x4)] [] s Q := zJ_of (b := b205_93) (by rw [kBlk, kb_205]; rfl) h
set_option maxRecDepth 100000 in
theorem B205_103 {x : List Int} {d : Nat} {s : zSt} {Q : zQ} {x1 : Int} {x2 : Int} {x3 : Int} {x4 : Int}  (h : (x4 ≤ 99 → zJ x d 205 115 [some (.inr (.inl 42)), some (.inl x1), some (.inl x2), some (.inl x3), some (.inl x4)] [] s Q) ∧ (¬ (x4 ≤ 99) → zJ x d 205 117 [some (.inr (.inl 42)), some (.inl x1), some (.inl x2), some (.inl x3), some (.inl x4)] [.inl 99] s Q)) : zJ x d 205 103 [some (.inr (.inl 42)), some (.inl x1), some (.inl x2), some (.inl x3), some (.inl x4)] [] s Q := zJ_of (b := b205_103) (by rw [kBlk, kb_205]; rfl) h
set_option maxRecDepth 100000 in
theorem B205_115 {x : List Int} {d : Nat} {s : zSt} {Q : zQ} {x1 : Int} {x2 : Int} {x3 : Int} {x4 : Int}  (h : zJ x d 205 117 [some (.inr (.inl 42)), some (.inl x1), some (.inl x2), some (.inl x3), some (.inl x4)] [.inl x4] s Q) : zJ x d 205 115 [some (.inr (.inl 42)), some (.inl x1), some (.inl x2), some (.inl x3), some (.inl x4)] [] s Q := zJ_of (b := b205_115) (by rw [kBlk, kb_205]; rfl) h
set_option maxRecDepth 100000 in
theorem B205_117 {x : List Int} {d : Nat} {s : zSt} {Q : zQ} {x1 : Int} {x2 : Int} {x3 : Int} {x4 : Int} {y0 : Int}  (h : Q (some (.inl y0)) s) : zJ x d 205 117 [some (.inr (.inl 42)), some (.inl x1), some (.inl x2), some (.inl x3), some (.inl x4)] [.inl y0] s Q := zJ_of (b := b205_117) (by rw [kBlk, kb_205]; rfl) h
set_option maxRecDepth 100000 in
theorem N205 {x : List Int} {d : Nat} {s : zSt} {Q : zQ} {x1 : Int} {x2 : Int} {x3 : Int} (h : zJ x d 205 0 [some (.inr (.inl 42)), some (.inl x1), some (.inl x2), some (.inl x3), none] [] s Q) : zE x (d + 1) 205 [.inr (.inl 42), .inl x1, .inl x2, .inl x3] s Q := zE_of (n := 5) rfl rfl rfl rfl (fun h => (zLok_some (h _ (List.mem_of_getElem? (i := 0) rfl)) (zLok_some (h _ (List.mem_of_getElem? (i := 1) rfl)) (zLok_some (h _ (List.mem_of_getElem? (i := 2) rfl)) (zLok_some (h _ (List.mem_of_getElem? (i := 3) rfl)) (zLok_none zLok_nil)))))) h
-- 206: PennyALapModel.lap
set_option maxRecDepth 100000 in
theorem kb_206 : kBls.getD 206 [] = c206 := rfl
set_option maxRecDepth 100000 in
theorem B206_0 {x : List Int} {d : Nat} {s : zSt} {Q : zQ} {x1 : Int} {x2 : Int}  (h : zE x d 171 [.inr (.inl 42), .inl x1] s (fun r s1 => zJ x d 206 5 [some (.inr (.inl 42)), some (.inl x1), some (.inl x2)] (zAp r []) s1 Q)) : zJ x d 206 0 [some (.inr (.inl 42)), some (.inl x1), some (.inl x2)] [] s Q := zJ_of (b := b206_0) (by rw [kBlk, kb_206]; rfl) h
set_option maxRecDepth 100000 in
theorem B206_5 {x : List Int} {d : Nat} {s : zSt} {Q : zQ} {x1 : Int} {x2 : Int} {y0 : Int}  (h : (y0 = 0 → zJ x d 206 40 [some (.inr (.inl 42)), some (.inl x1), some (.inl x2)] [] s Q) ∧ (¬ (y0 = 0) → (x2 < 0 → zJ x d 206 40 [some (.inr (.inl 42)), some (.inl x1), some (.inl x2)] [] s Q) ∧ (¬ (x2 < 0) → (99 < wr ((x2).tdiv 1000) → zJ x d 206 40 [some (.inr (.inl 42)), some (.inl x1), some (.inl x2)] [] s Q) ∧ (¬ (99 < wr ((x2).tdiv 1000)) → zE x d 205 [.inr (.inl 42), .inl x1, .inl (wr ((x2).tdiv 1000)), .inl (wr ((x2).tmod 1000))] s (fun r s1 => zJ x d 206 37 [some (.inr (.inl 42)), some (.inl x1), some (.inl x2)] (zAp r []) s1 Q))))) : zJ x d 206 5 [some (.inr (.inl 42)), some (.inl x1), some (.inl x2)] [.inl y0] s Q := zJ_of (b := b206_5) (by rw [kBlk, kb_206]; rfl) h
set_option maxRecDepth 100000 in
theorem B206_37 {x : List Int} {d : Nat} {s : zSt} {Q : zQ} {x1 : Int} {x2 : Int} {y0 : Int}  (h : zJ x d 206 41 [some (.inr (.inl 42)), some (.inl x1), some (.inl x2)] [.inl y0] s Q) : zJ x d 206 37 [some (.inr (.inl 42)), some (.inl x1), some (.inl x2)] [.inl y0] s Q := zJ_of (b := b206_37) (by rw [kBlk, kb_206]; rfl) h
set_option maxRecDepth 100000 in
theorem B206_40 {x : List Int} {d : Nat} {s : zSt} {Q : zQ} {x1 : Int} {x2 : Int}  (h : zJ x d 206 41 [some (.inr (.inl 42)), some (.inl x1), some (.inl x2)] [.inl (-1)] s Q) : zJ x d 206 40 [some (.inr (.inl 42)), some (.inl x1), some (.inl x2)] [] s Q := zJ_of (b := b206_40) (by rw [kBlk, kb_206]; rfl) h
set_option maxRecDepth 100000 in
theorem B206_41 {x : List Int} {d : Nat} {s : zSt} {Q : zQ} {x1 : Int} {x2 : Int} {y0 : Int}  (h : Q (some (.inl y0)) s) : zJ x d 206 41 [some (.inr (.inl 42)), some (.inl x1), some (.inl x2)] [.inl y0] s Q := zJ_of (b := b206_41) (by rw [kBlk, kb_206]; rfl) h
set_option maxRecDepth 100000 in
theorem N206 {x : List Int} {d : Nat} {s : zSt} {Q : zQ} {x1 : Int} {x2 : Int} (h : zJ x d 206 0 [some (.inr (.inl 42)), some (.inl x1), some (.inl x2)] [] s Q) : zE x (d + 1) 206 [.inr (.inl 42), .inl x1, .inl x2] s Q := zE_of (n := 3) rfl rfl rfl rfl (fun h => (zLok_some (h _ (List.mem_of_getElem? (i := 0) rfl)) (zLok_some (h _ (List.mem_of_getElem? (i := 1) rfl)) (zLok_some (h _ (List.mem_of_getElem? (i := 2) rfl)) zLok_nil)))) h
-- 207: PennyALapModel.isTime
set_option maxRecDepth 100000 in
theorem kb_207 : kBls.getD 207 [] = c207 := rfl
set_option maxRecDepth 100000 in
theorem B207_0 {x : List Int} {d : Nat} {s : zSt} {Q : zQ} {x0 : Int}  (h : zE x d 170 [.inl x0, .inl 0, .inl 999] s (fun r s1 => zJ x d 207 8 [some (.inl x0)] (zAp r []) s1 Q)) : zJ x d 207 0 [some (.inl x0)] [] s Q := zJ_of (b := b207_0) (by rw [kBlk, kb_207]; rfl) h
set_option maxRecDepth 100000 in
theorem B207_8 {x : List Int} {d : Nat} {s : zSt} {Q : zQ} {x0 : Int} {y0 : Int}  (h : ((y0 : Int) = 0 ∨ (y0 : Int) = 1) ∧ Q (some (.inl y0)) s) : zJ x d 207 8 [some (.inl x0)] [.inl y0] s Q := zJ_of (b := b207_8) (by rw [kBlk, kb_207]; rfl) h
set_option maxRecDepth 100000 in
theorem N207 {x : List Int} {d : Nat} {s : zSt} {Q : zQ} {x0 : Int} (h : zJ x d 207 0 [some (.inl x0)] [] s Q) : zE x (d + 1) 207 [.inl x0] s Q := zE_of (n := 1) rfl rfl rfl rfl (fun h => (zLok_some (h _ (List.mem_of_getElem? (i := 0) rfl)) zLok_nil)) h
-- 208: PennyALapModel.lapsBy
set_option maxRecDepth 100000 in
theorem kb_208 : kBls.getD 208 [] = c208 := rfl
set_option maxRecDepth 100000 in
theorem B208_0 {x : List Int} {d : Nat} {s : zSt} {Q : zQ} {x1 : Int} {x2 : Int}  (h : zJ x d 208 5 [some (.inr (.inl 42)), some (.inl x1), some (.inl x2), some (.inl 0), some (.inl 0)] [] s Q) : zJ x d 208 0 [some (.inr (.inl 42)), some (.inl x1), some (.inl x2), none, none] [] s Q := zJ_of (b := b208_0) (by rw [kBlk, kb_208]; rfl) h
set_option maxRecDepth 100000 in
theorem B208_5 {x : List Int} {d : Nat} {s : zSt} {Q : zQ} {x1 : Int} {x2 : Int} {x3 : Int} {x4 : Int}  (h : (0 : Int) ≤ x1 ∧ (x1 : Int) < 6 ∧ ((s 45 (x1).toNat ≤ x4 → zJ x d 208 41 [some (.inr (.inl 42)), some (.inl x1), some (.inl x2), some (.inl x3), some (.inl x4)] [] s Q) ∧ (¬ (s 45 (x1).toNat ≤ x4) → zE x d 205 [.inr (.inl 42), .inl x1, .inl x4, .inl x3] s (fun r s1 => zJ x d 208 25 [some (.inr (.inl 42)), some (.inl x1), some (.inl x2), some (.inl x3), some (.inl x4)] (zAp r [.inl x3]) s1 Q)))) : zJ x d 208 5 [some (.inr (.inl 42)), some (.inl x1), some (.inl x2), some (.inl x3), some (.inl x4)] [] s Q := zJ_of (b := b208_5) (by rw [kBlk, kb_208]; rfl) h
set_option maxRecDepth 100000 in
theorem B208_25 {x : List Int} {d : Nat} {s : zSt} {Q : zQ} {x1 : Int} {x2 : Int} {x3 : Int} {x4 : Int} {y0 : Int} {y1 : Int}  (h : (wr (y1 + y0) ≤ x2 → zJ x d 208 35 [some (.inr (.inl 42)), some (.inl x1), some (.inl x2), some (.inl (wr (y1 + y0))), some (.inl x4)] [] s Q) ∧ (¬ (wr (y1 + y0) ≤ x2) → Q (some (.inl x4)) s)) : zJ x d 208 25 [some (.inr (.inl 42)), some (.inl x1), some (.inl x2), some (.inl x3), some (.inl x4)] [.inl y0, .inl y1] s Q := zJ_of (b := b208_25) (by rw [kBlk, kb_208]; rfl) h
set_option maxRecDepth 100000 in
theorem B208_35 {x : List Int} {d : Nat} {s : zSt} {Q : zQ} {x1 : Int} {x2 : Int} {x3 : Int} {x4 : Int}  (h : zJ x d 208 5 [some (.inr (.inl 42)), some (.inl x1), some (.inl x2), some (.inl x3), some (.inl (wr (x4 + 1)))] [] s Q) : zJ x d 208 35 [some (.inr (.inl 42)), some (.inl x1), some (.inl x2), some (.inl x3), some (.inl x4)] [] s Q := zJ_of (b := b208_35) (by rw [kBlk, kb_208]; rfl) h
set_option maxRecDepth 100000 in
theorem B208_41 {x : List Int} {d : Nat} {s : zSt} {Q : zQ} {x1 : Int} {x2 : Int} {x3 : Int} {x4 : Int}  (h : Q (some (.inl x4)) s) : zJ x d 208 41 [some (.inr (.inl 42)), some (.inl x1), some (.inl x2), some (.inl x3), some (.inl x4)] [] s Q := zJ_of (b := b208_41) (by rw [kBlk, kb_208]; rfl) h
set_option maxRecDepth 100000 in
theorem N208 {x : List Int} {d : Nat} {s : zSt} {Q : zQ} {x1 : Int} {x2 : Int} (h : zJ x d 208 0 [some (.inr (.inl 42)), some (.inl x1), some (.inl x2), none, none] [] s Q) : zE x (d + 1) 208 [.inr (.inl 42), .inl x1, .inl x2] s Q := zE_of (n := 5) rfl rfl rfl rfl (fun h => (zLok_some (h _ (List.mem_of_getElem? (i := 0) rfl)) (zLok_some (h _ (List.mem_of_getElem? (i := 1) rfl)) (zLok_some (h _ (List.mem_of_getElem? (i := 2) rfl)) (zLok_none (zLok_none zLok_nil)))))) h
-- 209: PennyALapModel.minutesOf
set_option maxRecDepth 100000 in
theorem kb_209 : kBls.getD 209 [] = c209 := rfl
set_option maxRecDepth 100000 in
theorem B209_0 {x : List Int} {d : Nat} {s : zSt} {Q : zQ} {x1 : Int} {x2 : Int}  (h : zJ x d 209 5 [some (.inr (.inl 42)), some (.inl x1), some (.inl x2), some (.inl 0), some (.inl 0)] [] s Q) : zJ x d 209 0 [some (.inr (.inl 42)), some (.inl x1), some (.inl x2), none, none] [] s Q := zJ_of (b := b209_0) (by rw [kBlk, kb_209]; rfl) h
set_option maxRecDepth 100000 in
theorem B209_5 {x : List Int} {d : Nat} {s : zSt} {Q : zQ} {x1 : Int} {x2 : Int} {x3 : Int} {x4 : Int}  (h : (x2 ≤ x4 → zJ x d 209 28 [some (.inr (.inl 42)), some (.inl x1), some (.inl x2), some (.inl x3), some (.inl x4)] [] s Q) ∧ (¬ (x2 ≤ x4) → zE x d 205 [.inr (.inl 42), .inl x1, .inl x4, .inl x3] s (fun r s1 => zJ x d 209 20 [some (.inr (.inl 42)), some (.inl x1), some (.inl x2), some (.inl x3), some (.inl x4)] (zAp r [.inl x3]) s1 Q))) : zJ x d 209 5 [some (.inr (.inl 42)), some (.inl x1), some (.inl x2), some (.inl x3), some (.inl x4)] [] s Q := zJ_of (b := b209_5) (by rw [kBlk, kb_209]; rfl) h
set_option maxRecDepth 100000 in
theorem B209_20 {x : List Int} {d : Nat} {s : zSt} {Q : zQ} {x1 : Int} {x2 : Int} {x3 : Int} {x4 : Int} {y0 : Int} {y1 : Int}  (h : zJ x d 209 5 [some (.inr (.inl 42)), some (.inl x1), some (.inl x2), some (.inl (wr (y1 + y0))), some (.inl (wr (x4 + 1)))] [] s Q) : zJ x d 209 20 [some (.inr (.inl 42)), some (.inl x1), some (.inl x2), some (.inl x3), some (.inl x4)] [.inl y0, .inl y1] s Q := zJ_of (b := b209_20) (by rw [kBlk, kb_209]; rfl) h
set_option maxRecDepth 100000 in
theorem B209_28 {x : List Int} {d : Nat} {s : zSt} {Q : zQ} {x1 : Int} {x2 : Int} {x3 : Int} {x4 : Int}  (h : Q (some (.inl x3)) s) : zJ x d 209 28 [some (.inr (.inl 42)), some (.inl x1), some (.inl x2), some (.inl x3), some (.inl x4)] [] s Q := zJ_of (b := b209_28) (by rw [kBlk, kb_209]; rfl) h
set_option maxRecDepth 100000 in
theorem N209 {x : List Int} {d : Nat} {s : zSt} {Q : zQ} {x1 : Int} {x2 : Int} (h : zJ x d 209 0 [some (.inr (.inl 42)), some (.inl x1), some (.inl x2), none, none] [] s Q) : zE x (d + 1) 209 [.inr (.inl 42), .inl x1, .inl x2] s Q := zE_of (n := 5) rfl rfl rfl rfl (fun h => (zLok_some (h _ (List.mem_of_getElem? (i := 0) rfl)) (zLok_some (h _ (List.mem_of_getElem? (i := 1) rfl)) (zLok_some (h _ (List.mem_of_getElem? (i := 2) rfl)) (zLok_none (zLok_none zLok_nil)))))) h
-- 210: PennyALapModel.minutes
set_option maxRecDepth 100000 in
theorem kb_210 : kBls.getD 210 [] = c210 := rfl
set_option maxRecDepth 100000 in
theorem B210_0 {x : List Int} {d : Nat} {s : zSt} {Q : zQ} {x1 : Int} {x2 : Int}  (h : zE x d 171 [.inr (.inl 42), .inl x1] s (fun r s1 => zJ x d 210 5 [some (.inr (.inl 42)), some (.inl x1), some (.inl x2)] (zAp r []) s1 Q)) : zJ x d 210 0 [some (.inr (.inl 42)), some (.inl x1), some (.inl x2)] [] s Q := zJ_of (b := b210_0) (by rw [kBlk, kb_210]; rfl) h
set_option maxRecDepth 100000 in
theorem B210_5 {x : List Int} {d : Nat} {s : zSt} {Q : zQ} {x1 : Int} {x2 : Int} {y0 : Int}  (h : (y0 = 0 → zJ x d 210 18 [some (.inr (.inl 42)), some (.inl x1), some (.inl x2)] [] s Q) ∧ (¬ (y0 = 0) → zE x d 170 [.inl x2, .inl 0, .inl 99] s (fun r s1 => zJ x d 210 15 [some (.inr (.inl 42)), some (.inl x1), some (.inl x2)] (zAp r []) s1 Q))) : zJ x d 210 5 [some (.inr (.inl 42)), some (.inl x1), some (.inl x2)] [.inl y0] s Q := zJ_of (b := b210_5) (by rw [kBlk, kb_210]; rfl) h
set_option maxRecDepth 100000 in
theorem B210_15 {x : List Int} {d : Nat} {s : zSt} {Q : zQ} {x1 : Int} {x2 : Int} {y0 : Int}  (h : (¬ y0 = 0 → zJ x d 210 20 [some (.inr (.inl 42)), some (.inl x1), some (.inl x2)] [] s Q) ∧ (¬ (¬ y0 = 0) → zJ x d 210 18 [some (.inr (.inl 42)), some (.inl x1), some (.inl x2)] [] s Q)) : zJ x d 210 15 [some (.inr (.inl 42)), some (.inl x1), some (.inl x2)] [.inl y0] s Q := zJ_of (b := b210_15) (by rw [kBlk, kb_210]; rfl) h
set_option maxRecDepth 100000 in
theorem B210_18 {x : List Int} {d : Nat} {s : zSt} {Q : zQ} {x1 : Int} {x2 : Int}  (h : Q (some (.inl (-1))) s) : zJ x d 210 18 [some (.inr (.inl 42)), some (.inl x1), some (.inl x2)] [] s Q := zJ_of (b := b210_18) (by rw [kBlk, kb_210]; rfl) h
set_option maxRecDepth 100000 in
theorem B210_20 {x : List Int} {d : Nat} {s : zSt} {Q : zQ} {x1 : Int} {x2 : Int}  (h : (0 : Int) ≤ x1 ∧ (x1 : Int) < 6 ∧ ((x2 ≤ s 45 (x1).toNat → zJ x d 210 35 [some (.inr (.inl 42)), some (.inl x1), some (.inl x2)] [] s Q) ∧ (¬ (x2 ≤ s 45 (x1).toNat) → zJ x d 210 41 [some (.inr (.inl 42)), some (.inl x1), some (.inl x2)] [.inl (-2)] s Q))) : zJ x d 210 20 [some (.inr (.inl 42)), some (.inl x1), some (.inl x2)] [] s Q := zJ_of (b := b210_20) (by rw [kBlk, kb_210]; rfl) h
set_option maxRecDepth 100000 in
theorem B210_35 {x : List Int} {d : Nat} {s : zSt} {Q : zQ} {x1 : Int} {x2 : Int}  (h : zE x d 209 [.inr (.inl 42), .inl x1, .inl x2] s (fun r s1 => zJ x d 210 41 [some (.inr (.inl 42)), some (.inl x1), some (.inl x2)] (zAp r []) s1 Q)) : zJ x d 210 35 [some (.inr (.inl 42)), some (.inl x1), some (.inl x2)] [] s Q := zJ_of (b := b210_35) (by rw [kBlk, kb_210]; rfl) h
set_option maxRecDepth 100000 in
theorem B210_41 {x : List Int} {d : Nat} {s : zSt} {Q : zQ} {x1 : Int} {x2 : Int} {y0 : Int}  (h : Q (some (.inl y0)) s) : zJ x d 210 41 [some (.inr (.inl 42)), some (.inl x1), some (.inl x2)] [.inl y0] s Q := zJ_of (b := b210_41) (by rw [kBlk, kb_210]; rfl) h
set_option maxRecDepth 100000 in
theorem N210 {x : List Int} {d : Nat} {s : zSt} {Q : zQ} {x1 : Int} {x2 : Int} (h : zJ x d 210 0 [some (.inr (.inl 42)), some (.inl x1), some (.inl x2)] [] s Q) : zE x (d + 1) 210 [.inr (.inl 42), .inl x1, .inl x2] s Q := zE_of (n := 3) rfl rfl rfl rfl (fun h => (zLok_some (h _ (List.mem_of_getElem? (i := 0) rfl)) (zLok_some (h _ (List.mem_of_getElem? (i := 1) rfl)) (zLok_some (h _ (List.mem_of_getElem? (i := 2) rfl)) zLok_nil)))) h
-- 211: PennyALapModel.plainOf
set_option maxRecDepth 100000 in
theorem kb_211 : kBls.getD 211 [] = c211 := rfl
set_option maxRecDepth 100000 in
theorem B211_0 {x : List Int} {d : Nat} {s : zSt} {Q : zQ} {x1 : Int} {x2 : Int}  (h : (0 : Int) ≤ x1 ∧ (x1 : Int) < 16 ∧ ((0 : Int) ≤ x1 ∧ (x1 : Int) < 16 ∧ ((x2 < s 50 (x1).toNat → zJ x d 211 27 [some (.inr (.inl 42)), some (.inl x1), some (.inl x2)] [.inl (wr ((s 48 (x1).toNat) * x2))] s Q) ∧ (¬ (x2 < s 50 (x1).toNat) → (0 : Int) ≤ x1 ∧ (x1 : Int) < 16 ∧ (zJ x d 211 28 [some (.inr (.inl 42)), some (.inl x1), some (.inl x2)] [.inl (s 49 (x1).toNat), .inl (wr ((s 48 (x1).toNat) * x2))] s Q))))) : zJ x d 211 0 [some (.inr (.inl 42)), some (.inl x1), some (.inl x2)] [] s Q := zJ_of (b := b211_0) (by rw [kBlk, kb_211]; rfl) h
set_option maxRecDepth 100000 in
theorem B211_27 {x : List Int} {d : Nat} {s : zSt} {Q : zQ} {x1 : Int} {x2 : Int} {y0 : Int}  (h : zJ x d 211 28 [some (.inr (.inl 42)), some (.inl x1), some (.inl x2)] [.inl 0, .inl y0] s Q) : zJ x d 211 27 [some (.inr (.inl 42)), some (.inl x1), some (.inl x2)] [.inl y0] s Q := zJ_of (b := b211_27) (by rw [kBlk, kb_211]; rfl) h
set_option maxRecDepth 100000 in
theorem B211_28 {x : List Int} {d : Nat} {s : zSt} {Q : zQ} {x1 : Int} {x2 : Int} {y0 : Int} {y1 : Int}  (h : Q (some (.inl (wr (y1 + y0)))) s) : zJ x d 211 28 [some (.inr (.inl 42)), some (.inl x1), some (.inl x2)] [.inl y0, .inl y1] s Q := zJ_of (b := b211_28) (by rw [kBlk, kb_211]; rfl) h
set_option maxRecDepth 100000 in
theorem N211 {x : List Int} {d : Nat} {s : zSt} {Q : zQ} {x1 : Int} {x2 : Int} (h : zJ x d 211 0 [some (.inr (.inl 42)), some (.inl x1), some (.inl x2)] [] s Q) : zE x (d + 1) 211 [.inr (.inl 42), .inl x1, .inl x2] s Q := zE_of (n := 3) rfl rfl rfl rfl (fun h => (zLok_some (h _ (List.mem_of_getElem? (i := 0) rfl)) (zLok_some (h _ (List.mem_of_getElem? (i := 1) rfl)) (zLok_some (h _ (List.mem_of_getElem? (i := 2) rfl)) zLok_nil)))) h
-- 212: PennyALapModel.owesOf
set_option maxRecDepth 100000 in
theorem kb_212 : kBls.getD 212 [] = c212 := rfl
set_option maxRecDepth 100000 in
theorem B212_0 {x : List Int} {d : Nat} {s : zSt} {Q : zQ} {x1 : Int} {x2 : Int}  (h : zE x d 211 [.inr (.inl 42), .inl x1, .inl x2] s (fun r s1 => zJ x d 212 6 [some (.inr (.inl 42)), some (.inl x1), some (.inl x2), none] (zAp r []) s1 Q)) : zJ x d 212 0 [some (.inr (.inl 42)), some (.inl x1), some (.inl x2), none] [] s Q := zJ_of (b := b212_0) (by rw [kBlk, kb_212]; rfl) h
set_option maxRecDepth 100000 in
theorem B212_6 {x : List Int} {d : Nat} {s : zSt} {Q : zQ} {x1 : Int} {x2 : Int} {y0 : Int}  (h : (0 : Int) ≤ x1 ∧ (x1 : Int) < 16 ∧ ((s 51 (x1).toNat ≤ 0 → zJ x d 212 35 [some (.inr (.inl 42)), some (.inl x1), some (.inl x2), some (.inl y0)] [] s Q) ∧ (¬ (s 51 (x1).toNat ≤ 0) → (0 : Int) ≤ x1 ∧ (x1 : Int) < 16 ∧ ((y0 ≤ s 51 (x1).toNat → zJ x d 212 35 [some (.inr (.inl 42)), some (.inl x1), some (.inl x2), some (.inl y0)] [] s Q) ∧ (¬ (y0 ≤ s 51 (x1).toNat) → (0 : Int) ≤ x1 ∧ (x1 : Int) < 16 ∧ (zJ x d 212 36 [some (.inr (.inl 42)), some (.inl x1), some (.inl x2), some (.inl y0)] [.inl (s 51 (x1).toNat)] s Q)))))) : zJ x d 212 6 [some (.inr (.inl 42)), some (.inl x1), some (.inl x2), none] [.inl y0] s Q := zJ_of (b := b212_6) (by rw [kBlk, kb_212]; rfl) h
set_option maxRecDepth 100000 in
theorem B212_35 {x : List Int} {d : Nat} {s : zSt} {Q : zQ} {x1 : Int} {x2 : Int} {x3 : Int}  (h : zJ x d 212 36 [some (.inr (.inl 42)), some (.inl x1), some (.inl x2), some (.inl x3)] [.inl x3] s Q) : zJ x d 212 35 [some (.inr (.inl 42)), some (.inl x1), some (.inl x2), some (.inl x3)] [] s Q := zJ_of (b := b212_35) (by rw [kBlk, kb_212]; rfl) h
set_option maxRecDepth 100000 in
theorem B212_36 {x : List Int} {d : Nat} {s : zSt} {Q : zQ} {x1 : Int} {x2 : Int} {x3 : Int} {y0 : Int}  (h : Q (some (.inl y0)) s) : zJ x d 212 36 [some (.inr (.inl 42)), some (.inl x1), some (.inl x2), some (.inl x3)] [.inl y0] s Q := zJ_of (b := b212_36) (by rw [kBlk, kb_212]; rfl) h
set_option maxRecDepth 100000 in
theorem N212 {x : List Int} {d : Nat} {s : zSt} {Q : zQ} {x1 : Int} {x2 : Int} (h : zJ x d 212 0 [some (.inr (.inl 42)), some (.inl x1), some (.inl x2), none] [] s Q) : zE x (d + 1) 212 [.inr (.inl 42), .inl x1, .inl x2] s Q := zE_of (n := 4) rfl rfl rfl rfl (fun h => (zLok_some (h _ (List.mem_of_getElem? (i := 0) rfl)) (zLok_some (h _ (List.mem_of_getElem? (i := 1) rfl)) (zLok_some (h _ (List.mem_of_getElem? (i := 2) rfl)) (zLok_none zLok_nil))))) h
-- 213: PennyALapModel.paysOf
set_option maxRecDepth 100000 in
theorem kb_213 : kBls.getD 213 [] = c213 := rfl
set_option maxRecDepth 100000 in
theorem B213_0 {x : List Int} {d : Nat} {s : zSt} {Q : zQ} {x1 : Int} {x2 : Int}  (h : zE x d 212 [.inr (.inl 42), .inl x1, .inl x2] s (fun r s1 => zJ x d 213 6 [some (.inr (.inl 42)), some (.inl x1), some (.inl x2), none] (zAp r []) s1 Q)) : zJ x d 213 0 [some (.inr (.inl 42)), some (.inl x1), some (.inl x2), none] [] s Q := zJ_of (b := b213_0) (by rw [kBlk, kb_213]; rfl) h
set_option maxRecDepth 100000 in
theorem B213_6 {x : List Int} {d : Nat} {s : zSt} {Q : zQ} {x1 : Int} {x2 : Int} {y0 : Int}  (h : (0 : Int) ≤ x1 ∧ (x1 : Int) < 16 ∧ ((y0 ≤ s 52 (x1).toNat → zJ x d 213 26 [some (.inr (.inl 42)), some (.inl x1), some (.inl x2), some (.inl y0)] [] s Q) ∧ (¬ (y0 ≤ s 52 (x1).toNat) → (0 : Int) ≤ x1 ∧ (x1 : Int) < 16 ∧ (zJ x d 213 27 [some (.inr (.inl 42)), some (.inl x1), some (.inl x2), some (.inl y0)] [.inl (s 52 (x1).toNat)] s Q)))) : zJ x d 213 6 [some (.inr (.inl 42)), some (.inl x1), some (.inl x2), none] [.inl y0] s Q := zJ_of (b := b213_6) (by rw [kBlk, kb_213]; rfl) h
set_option maxRecDepth 100000 in
theorem B213_26 {x : List Int} {d : Nat} {s : zSt} {Q : zQ} {x1 : Int} {x2 : Int} {x3 : Int}  (h : zJ x d 213 27 [some (.inr (.inl 42)), some (.inl x1), some (.inl x2), some (.inl x3)] [.inl x3] s Q) : zJ x d 213 26 [some (.inr (.inl 42)), some (.inl x1), some (.inl x2), some (.inl x3)] [] s Q := zJ_of (b := b213_26) (by rw [kBlk, kb_213]; rfl) h
set_option maxRecDepth 100000 in
theorem B213_27 {x : List Int} {d : Nat} {s : zSt} {Q : zQ} {x1 : Int} {x2 : Int} {x3 : Int} {y0 : Int}  (h : Q (some (.inl y0)) s) : zJ x d 213 27 [some (.inr (.inl 42)), some (.inl x1), some (.inl x2), some (.inl x3)] [.inl y0] s Q := zJ_of (b := b213_27) (by rw [kBlk, kb_213]; rfl) h
set_option maxRecDepth 100000 in
theorem N213 {x : List Int} {d : Nat} {s : zSt} {Q : zQ} {x1 : Int} {x2 : Int} (h : zJ x d 213 0 [some (.inr (.inl 42)), some (.inl x1), some (.inl x2), none] [] s Q) : zE x (d + 1) 213 [.inr (.inl 42), .inl x1, .inl x2] s Q := zE_of (n := 4) rfl rfl rfl rfl (fun h => (zLok_some (h _ (List.mem_of_getElem? (i := 0) rfl)) (zLok_some (h _ (List.mem_of_getElem? (i := 1) rfl)) (zLok_some (h _ (List.mem_of_getElem? (i := 2) rfl)) (zLok_none zLok_nil))))) h
-- 214: PennyALapModel.owes
set_option maxRecDepth 100000 in
theorem kb_214 : kBls.getD 214 [] = c214 := rfl
set_option maxRecDepth 100000 in
theorem B214_0 {x : List Int} {d : Nat} {s : zSt} {Q : zQ} {x1 : Int} {x2 : Int} {x3 : Int}  (h : zE x d 172 [.inr (.inl 42), .inl x1] s (fun r s1 => zJ x d 214 5 [some (.inr (.inl 42)), some (.inl x1), some (.inl x2), some (.inl x3)] (zAp r []) s1 Q)) : zJ x d 214 0 [some (.inr (.inl 42)), some (.inl x1), some (.inl x2), some (.inl x3)] [] s Q := zJ_of (b := b214_0) (by rw [kBlk, kb_214]; rfl) h
set_option maxRecDepth 100000 in
theorem B214_5 {x : List Int} {d : Nat} {s : zSt} {Q : zQ} {x1 : Int} {x2 : Int} {x3 : Int} {y0 : Int}  (h : (y0 = 0 → zJ x d 214 27 [some (.inr (.inl 42)), some (.inl x1), some (.inl x2), some (.inl x3)] [] s Q) ∧ (¬ (y0 = 0) → zE x d 170 [.inl x2, .inl 0, .inl 99] s (fun r s1 => zJ x d 214 15 [some (.inr (.inl 42)), some (.inl x1), some (.inl x2), some (.inl x3)] (zAp r []) s1 Q))) : zJ x d 214 5 [some (.inr (.inl 42)), some (.inl x1), some (.inl x2), some (.inl x3)] [.inl y0] s Q := zJ_of (b := b214_5) (by rw [kBlk, kb_214]; rfl) h
set_option maxRecDepth 100000 in
theorem B214_15 {x : List Int} {d : Nat} {s : zSt} {Q : zQ} {x1 : Int} {x2 : Int} {x3 : Int} {y0 : Int}  (h : (y0 = 0 → zJ x d 214 27 [some (.inr (.inl 42)), some (.inl x1), some (.inl x2), some (.inl x3)] [] s Q) ∧ (¬ (y0 = 0) → zE x d 170 [.inl x3, .inl 0, .inl 1] s (fun r s1 => zJ x d 214 24 [some (.inr (.inl 42)), some (.inl x1), some (.inl x2), some (.inl x3)] (zAp r []) s1 Q))) : zJ x d 214 15 [some (.inr (.inl 42)), some (.inl x1), some (.inl x2), some (.inl x3)] [.inl y0] s Q := zJ_of (b := b214_15) (by rw [kBlk, kb_214]; rfl) h
set_option maxRecDepth 100000 in
theorem B214_24 {x : List Int} {d : Nat} {s : zSt} {Q : zQ} {x1 : Int} {x2 : Int} {x3 : Int} {y0 : Int}  (h : (¬ y0 = 0 → zJ x d 214 29 [some (.inr (.inl 42)), some (.inl x1), some (.inl x2), some (.inl x3)] [] s Q) ∧ (¬ (¬ y0 = 0) → zJ x d 214 27 [some (.inr (.inl 42)), some (.inl x1), some (.inl x2), some (.inl x3)] [] s Q)) : zJ x d 214 24 [some (.inr (.inl 42)), some (.inl x1), some (.inl x2), some (.inl x3)] [.inl y0] s Q := zJ_of (b := b214_24) (by rw [kBlk, kb_214]; rfl) h
set_option maxRecDepth 100000 in
theorem B214_27 {x : List Int} {d : Nat} {s : zSt} {Q : zQ} {x1 : Int} {x2 : Int} {x3 : Int}  (h : Q (some (.inl (-1))) s) : zJ x d 214 27 [some (.inr (.inl 42)), some (.inl x1), some (.inl x2), some (.inl x3)] [] s Q := zJ_of (b := b214_27) (by rw [kBlk, kb_214]; rfl) h
set_option maxRecDepth 100000 in
theorem B214_29 {x : List Int} {d : Nat} {s : zSt} {Q : zQ} {x1 : Int} {x2 : Int} {x3 : Int}  (h : (¬ x3 = 0 → zJ x d 214 42 [some (.inr (.inl 42)), some (.inl x1), some (.inl x2), some (.inl x3)] [] s Q) ∧ (¬ (¬ x3 = 0) → zE x d 212 [.inr (.inl 42), .inl x1, .inl x2] s (fun r s1 => zJ x d 214 39 [some (.inr (.inl 42)), some (.inl x1), some (.inl x2), some (.inl x3)] (zAp r []) s1 Q))) : zJ x d 214 29 [some (.inr (.inl 42)), some (.inl x1), some (.inl x2), some (.inl x3)] [] s Q := zJ_of (b := b214_29) (by rw [kBlk, kb_214]; rfl) h
set_option maxRecDepth 100000 in
theorem B214_39 {x : List Int} {d : Nat} {s : zSt} {Q : zQ} {x1 : Int} {x2 : Int} {x3 : Int} {y0 : Int}  (h : zJ x d 214 48 [some (.inr (.inl 42)), some (.inl x1), some (.inl x2), some (.inl x3)] [.inl y0] s Q) : zJ x d 214 39 [some (.inr (.inl 42)), some (.inl x1), some (.inl x2), some (.inl x3)] [.inl y0] s Q := zJ_of (b := b214_39) (by rw [kBlk, kb_214]; rfl) h
set_option maxRecDepth 100000 in
theorem B214_42 {x : List Int} {d : Nat} {s : zSt} {Q : zQ} {x1 : Int} {x2 : Int} {x3 : Int}  (h : zE x d 213 [.inr (.inl 42), .inl x1, .inl x2] s (fun r s1 => zJ x d 214 48 [some (.inr (.inl 42)), some (.inl x1), some (.inl x2), some (.inl x3)] (zAp r []) s1 Q)) : zJ x d 214 42 [some (.inr (.inl 42)), some (.inl x1), some (.inl x2), some (.inl x3)] [] s Q := zJ_of (b := b214_42) (by rw [kBlk, kb_214]; rfl) h
set_option maxRecDepth 100000 in
theorem B214_48 {x : List Int} {d : Nat} {s : zSt} {Q : zQ} {x1 : Int} {x2 : Int} {x3 : Int} {y0 : Int}  (h : Q (some (.inl y0)) s) : zJ x d 214 48 [some (.inr (.inl 42)), some (.inl x1), some (.inl x2), some (.inl x3)] [.inl y0] s Q := zJ_of (b := b214_48) (by rw [kBlk, kb_214]; rfl) h
set_option maxRecDepth 100000 in
theorem N214 {x : List Int} {d : Nat} {s : zSt} {Q : zQ} {x1 : Int} {x2 : Int} {x3 : Int} (h : zJ x d 214 0 [some (.inr (.inl 42)), some (.inl x1), some (.inl x2), some (.inl x3)] [] s Q) : zE x (d + 1) 214 [.inr (.inl 42), .inl x1, .inl x2, .inl x3] s Q := zE_of (n := 4) rfl rfl rfl rfl (fun h => (zLok_some (h _ (List.mem_of_getElem? (i := 0) rfl)) (zLok_some (h _ (List.mem_of_getElem? (i := 1) rfl)) (zLok_some (h _ (List.mem_of_getElem? (i := 2) rfl)) (zLok_some (h _ (List.mem_of_getElem? (i := 3) rfl)) zLok_nil))))) h
-- 215: PennyALapModel.owedTo
set_option maxRecDepth 100000 in
theorem kb_215 : kBls.getD 215 [] = c215 := rfl
set_option maxRecDepth 100000 in
theorem B215_0 {x : List Int} {d : Nat} {s : zSt} {Q : zQ} {x1 : Int} {x2 : Int}  (h : zJ x d 215 5 [some (.inr (.inl 42)), some (.inl x1), some (.inl x2), some (.inl 0), some (.inl 0)] [] s Q) : zJ x d 215 0 [some (.inr (.inl 42)), some (.inl x1), some (.inl x2), none, none] [] s Q := zJ_of (b := b215_0) (by rw [kBlk, kb_215]; rfl) h
set_option maxRecDepth 100000 in
theorem B215_5 {x : List Int} {d : Nat} {s : zSt} {Q : zQ} {x1 : Int} {x2 : Int} {x3 : Int} {x4 : Int}  (h : (s 42 6 ≤ x4 → zJ x d 215 41 [some (.inr (.inl 42)), some (.inl x1), some (.inl x2), some (.inl x3), some (.inl x4)] [] s Q) ∧ (¬ (s 42 6 ≤ x4) → (0 : Int) ≤ x4 ∧ (x4 : Int) < 16 ∧ ((¬ s 47 (x4).toNat = x1 → zJ x d 215 35 [some (.inr (.inl 42)), some (.inl x1), some (.inl x2), some (.inl x3), some (.inl x4)] [] s Q) ∧ (¬ (¬ s 47 (x4).toNat = x1) → zE x d 212 [.inr (.inl 42), .inl x4, .inl x2] s (fun r s1 => zJ x d 215 33 [some (.inr (.inl 42)), some (.inl x1), some (.inl x2), some (.inl x3), some (.inl x4)] (zAp r [.inl x3]) s1 Q))))) : zJ x d 215 5 [some (.inr (.inl 42)), some (.inl x1), some (.inl x2), some (.inl x3), some (.inl x4)] [] s Q := zJ_of (b := b215_5) (by rw [kBlk, kb_215]; rfl) h
set_option maxRecDepth 100000 in
theorem B215_33 {x : List Int} {d : Nat} {s : zSt} {Q : zQ} {x1 : Int} {x2 : Int} {x3 : Int} {x4 : Int} {y0 : Int} {y1 : Int}  (h : zJ x d 215 35 [some (.inr (.inl 42)), some (.inl x1), some (.inl x2), some (.inl (wr (y1 + y0))), some (.inl x4)] [] s Q) : zJ x d 215 33 [some (.inr (.inl 42)), some (.inl x1), some (.inl x2), some (.inl x3), some (.inl x4)] [.inl y0, .inl y1] s Q := zJ_of (b := b215_33) (by rw [kBlk, kb_215]; rfl) h
set_option maxRecDepth 100000 in
theorem B215_35 {x : List Int} {d : Nat} {s : zSt} {Q : zQ} {x1 : Int} {x2 : Int} {x3 : Int} {x4 : Int}  (h : zJ x d 215 5 [some (.inr (.inl 42)), some (.inl x1), some (.inl x2), some (.inl x3), some (.inl (wr (x4 + 1)))] [] s Q) : zJ x d 215 35 [some (.inr (.inl 42)), some (.inl x1), some (.inl x2), some (.inl x3), some (.inl x4)] [] s Q := zJ_of (b := b215_35) (by rw [kBlk, kb_215]; rfl) h
set_option maxRecDepth 100000 in
theorem B215_41 {x : List Int} {d : Nat} {s : zSt} {Q : zQ} {x1 : Int} {x2 : Int} {x3 : Int} {x4 : Int}  (h : Q (some (.inl x3)) s) : zJ x d 215 41 [some (.inr (.inl 42)), some (.inl x1), some (.inl x2), some (.inl x3), some (.inl x4)] [] s Q := zJ_of (b := b215_41) (by rw [kBlk, kb_215]; rfl) h
set_option maxRecDepth 100000 in
theorem N215 {x : List Int} {d : Nat} {s : zSt} {Q : zQ} {x1 : Int} {x2 : Int} (h : zJ x d 215 0 [some (.inr (.inl 42)), some (.inl x1), some (.inl x2), none, none] [] s Q) : zE x (d + 1) 215 [.inr (.inl 42), .inl x1, .inl x2] s Q := zE_of (n := 5) rfl rfl rfl rfl (fun h => (zLok_some (h _ (List.mem_of_getElem? (i := 0) rfl)) (zLok_some (h _ (List.mem_of_getElem? (i := 1) rfl)) (zLok_some (h _ (List.mem_of_getElem? (i := 2) rfl)) (zLok_none (zLok_none zLok_nil)))))) h
-- 216: PennyALapModel.paidTo
set_option maxRecDepth 100000 in
theorem kb_216 : kBls.getD 216 [] = c216 := rfl
set_option maxRecDepth 100000 in
theorem B216_0 {x : List Int} {d : Nat} {s : zSt} {Q : zQ} {x1 : Int} {x2 : Int}  (h : zJ x d 216 5 [some (.inr (.inl 42)), some (.inl x1), some (.inl x2), some (.inl 0), some (.inl 0)] [] s Q) : zJ x d 216 0 [some (.inr (.inl 42)), some (.inl x1), some (.inl x2), none, none] [] s Q := zJ_of (b := b216_0) (by rw [kBlk, kb_216]; rfl) h
set_option maxRecDepth 100000 in
theorem B216_5 {x : List Int} {d : Nat} {s : zSt} {Q : zQ} {x1 : Int} {x2 : Int} {x3 : Int} {x4 : Int}  (h : (s 42 6 ≤ x4 → zJ x d 216 41 [some (.inr (.inl 42)), some (.inl x1), some (.inl x2), some (.inl x3), some (.inl x4)] [] s Q) ∧ (¬ (s 42 6 ≤ x4) → (0 : Int) ≤ x4 ∧ (x4 : Int) < 16 ∧ ((¬ s 47 (x4).toNat = x1 → zJ x d 216 35 [some (.inr (.inl 42)), some (.inl x1), some (.inl x2), some (.inl x3), some (.inl x4)] [] s Q) ∧ (¬ (¬ s 47 (x4).toNat = x1) → zE x d 213 [.inr (.inl 42), .inl x4, .inl x2] s (fun r s1 => zJ x d 216 33 [some (.inr (.inl 42)), some (.inl x1), some (.inl x2), some (.inl x3), some (.inl x4)] (zAp r [.inl x3]) s1 Q))))) : zJ x d 216 5 [some (.inr (.inl 42)), some (.inl x1), some (.inl x2), some (.inl x3), some (.inl x4)] [] s Q := zJ_of (b := b216_5) (by rw [kBlk, kb_216]; rfl) h
set_option maxRecDepth 100000 in
theorem B216_33 {x : List Int} {d : Nat} {s : zSt} {Q : zQ} {x1 : Int} {x2 : Int} {x3 : Int} {x4 : Int} {y0 : Int} {y1 : Int}  (h : zJ x d 216 35 [some (.inr (.inl 42)), some (.inl x1), some (.inl x2), some (.inl (wr (y1 + y0))), some (.inl x4)] [] s Q) : zJ x d 216 33 [some (.inr (.inl 42)), some (.inl x1), some (.inl x2), some (.inl x3), some (.inl x4)] [.inl y0, .inl y1] s Q := zJ_of (b := b216_33) (by rw [kBlk, kb_216]; rfl) h
set_option maxRecDepth 100000 in
theorem B216_35 {x : List Int} {d : Nat} {s : zSt} {Q : zQ} {x1 : Int} {x2 : Int} {x3 : Int} {x4 : Int}  (h : zJ x d 216 5 [some (.inr (.inl 42)), some (.inl x1), some (.inl x2), some (.inl x3), some (.inl (wr (x4 + 1)))] [] s Q) : zJ x d 216 35 [some (.inr (.inl 42)), some (.inl x1), some (.inl x2), some (.inl x3), some (.inl x4)] [] s Q := zJ_of (b := b216_35) (by rw [kBlk, kb_216]; rfl) h
set_option maxRecDepth 100000 in
theorem B216_41 {x : List Int} {d : Nat} {s : zSt} {Q : zQ} {x1 : Int} {x2 : Int} {x3 : Int} {x4 : Int}  (h : Q (some (.inl x3)) s) : zJ x d 216 41 [some (.inr (.inl 42)), some (.inl x1), some (.inl x2), some (.inl x3), some (.inl x4)] [] s Q := zJ_of (b := b216_41) (by rw [kBlk, kb_216]; rfl) h
set_option maxRecDepth 100000 in
theorem N216 {x : List Int} {d : Nat} {s : zSt} {Q : zQ} {x1 : Int} {x2 : Int} (h : zJ x d 216 0 [some (.inr (.inl 42)), some (.inl x1), some (.inl x2), none, none] [] s Q) : zE x (d + 1) 216 [.inr (.inl 42), .inl x1, .inl x2] s Q := zE_of (n := 5) rfl rfl rfl rfl (fun h => (zLok_some (h _ (List.mem_of_getElem? (i := 0) rfl)) (zLok_some (h _ (List.mem_of_getElem? (i := 1) rfl)) (zLok_some (h _ (List.mem_of_getElem? (i := 2) rfl)) (zLok_none (zLok_none zLok_nil)))))) h
-- 217: PennyALapModel.goTo
set_option maxRecDepth 100000 in
theorem kb_217 : kBls.getD 217 [] = c217 := rfl
set_option maxRecDepth 100000 in
theorem B217_0 {x : List Int} {d : Nat} {s : zSt} {Q : zQ} {x1 : Int}  (h : zJ x d 217 2 [some (.inr (.inl 42)), some (.inl x1), some (.inl 0)] [] s Q) : zJ x d 217 0 [some (.inr (.inl 42)), some (.inl x1), none] [] s Q := zJ_of (b := b217_0) (by rw [kBlk, kb_217]; rfl) h
set_option maxRecDepth 100000 in
theorem B217_2 {x : List Int} {d : Nat} {s : zSt} {Q : zQ} {x1 : Int} {x2 : Int}  (h : (s 42 1 ≤ x2 → zJ x d 217 28 [some (.inr (.inl 42)), some (.inl x1), some (.inl x2)] [] s Q) ∧ (¬ (s 42 1 ≤ x2) → zE x d 208 [.inr (.inl 42), .inl x2, .inl x1] s (fun r s1 => zJ x d 217 21 [some (.inr (.inl 42)), some (.inl x1), some (.inl x2)] (zAp r [.inl x2, .inr (.inl 65)]) s1 Q))) : zJ x d 217 2 [some (.inr (.inl 42)), some (.inl x1), some (.inl x2)] [] s Q := zJ_of (b := b217_2) (by rw [kBlk, kb_217]; rfl) h
set_option maxRecDepth 100000 in
theorem B217_21 {x : List Int} {d : Nat} {s : zSt} {Q : zQ} {x1 : Int} {x2 : Int} {y0 : Int} {y1 : Int}  (h : (0 : Int) ≤ y1 ∧ (y1 : Int) < 6 ∧ (zJ x d 217 2 [some (.inr (.inl 42)), some (.inl x1), some (.inl (wr (x2 + 1)))] [] (zU s 65 (y1).toNat y0) Q)) : zJ x d 217 21 [some (.inr (.inl 42)), some (.inl x1), some (.inl x2)] [.inl y0, .inl y1, .inr (.inl 65)] s Q := zJ_of (b := b217_21) (by rw [kBlk, kb_217]; rfl) h
set_option maxRecDepth 100000 in
theorem B217_28 {x : List Int} {d : Nat} {s : zSt} {Q : zQ} {x1 : Int} {x2 : Int}  (h : Q none s) : zJ x d 217 28 [some (.inr (.inl 42)), some (.inl x1), some (.inl x2)] [] s Q := zJ_of (b := b217_28) (by rw [kBlk, kb_217]; rfl) h
set_option maxRecDepth 100000 in
theorem N217 {x : List Int} {d : Nat} {s : zSt} {Q : zQ} {x1 : Int} (h : zJ x d 217 0 [some (.inr (.inl 42)), some (.inl x1), none] [] s Q) : zE x (d + 1) 217 [.inr (.inl 42), .inl x1] s Q := zE_of (n := 3) rfl rfl rfl rfl (fun h => (zLok_some (h _ (List.mem_of_getElem? (i := 0) rfl)) (zLok_some (h _ (List.mem_of_getElem? (i := 1) rfl)) (zLok_none zLok_nil)))) h
-- 218: PennyALapModel.lapsAll
set_option maxRecDepth 100000 in
theorem kb_218 : kBls.getD 218 [] = c218 := rfl
set_option maxRecDepth 100000 in
theorem B218_0 {x : List Int} {d : Nat} {s : zSt} {Q : zQ}   (h : zJ x d 218 4 [some (.inr (.inl 42)), some (.inl 0), some (.inl 0)] [] s Q) : zJ x d 218 0 [some (.inr (.inl 42)), none, none] [] s Q := zJ_of (b := b218_0) (by rw [kBlk, kb_218]; rfl) h
set_option maxRecDepth 100000 in
theorem B218_4 {x : List Int} {d : Nat} {s : zSt} {Q : zQ} {x1 : Int} {x2 : Int}  (h : (s 42 1 ≤ x2 → zJ x d 218 27 [some (.inr (.inl 42)), some (.inl x1), some (.inl x2)] [] s Q) ∧ (¬ (s 42 1 ≤ x2) → (0 : Int) ≤ x2 ∧ (x2 : Int) < 6 ∧ (zJ x d 218 4 [some (.inr (.inl 42)), some (.inl (wr (x1 + (s 65 (x2).toNat)))), some (.inl (wr (x2 + 1)))] [] s Q))) : zJ x d 218 4 [some (.inr (.inl 42)), some (.inl x1), some (.inl x2)] [] s Q := zJ_of (b := b218_4) (by rw [kBlk, kb_218]; rfl) h
set_option maxRecDepth 100000 in
theorem B218_27 {x : List Int} {d : Nat} {s : zSt} {Q : zQ} {x1 : Int} {x2 : Int}  (h : Q (some (.inl x1)) s) : zJ x d 218 27 [some (.inr (.inl 42)), some (.inl x1), some (.inl x2)] [] s Q := zJ_of (b := b218_27) (by rw [kBlk, kb_218]; rfl) h
set_option maxRecDepth 100000 in
theorem N218 {x : List Int} {d : Nat} {s : zSt} {Q : zQ}  (h : zJ x d 218 0 [some (.inr (.inl 42)), none, none] [] s Q) : zE x (d + 1) 218 [.inr (.inl 42)] s Q := zE_of (n := 3) rfl rfl rfl rfl (fun h => (zLok_some (h _ (List.mem_of_getElem? (i := 0) rfl)) (zLok_none (zLok_none zLok_nil)))) h
-- 219: PennyALapModel.mostLaps
set_option maxRecDepth 100000 in
theorem kb_219 : kBls.getD 219 [] = c219 := rfl
set_option maxRecDepth 100000 in
theorem B219_0 {x : List Int} {d : Nat} {s : zSt} {Q : zQ}   (h : zJ x d 219 5 [some (.inr (.inl 42)), some (.inl (-2)), some (.inl 0)] [] s Q) : zJ x d 219 0 [some (.inr (.inl 42)), none, none] [] s Q := zJ_of (b := b219_0) (by rw [kBlk, kb_219]; rfl) h
set_option maxRecDepth 100000 in
theorem B219_5 {x : List Int} {d : Nat} {s : zSt} {Q : zQ} {x1 : Int} {x2 : Int}  (h : (s 42 1 ≤ x2 → zJ x d 219 49 [some (.inr (.inl 42)), some (.inl x1), some (.inl x2)] [] s Q) ∧ (¬ (s 42 1 ≤ x2) → (0 : Int) ≤ x2 ∧ (x2 : Int) < 6 ∧ ((s 65 (x2).toNat ≤ 0 → zJ x d 219 43 [some (.inr (.inl 42)), some (.inl x1), some (.inl x2)] [] s Q) ∧ (¬ (s 65 (x2).toNat ≤ 0) → (x1 < 0 → zJ x d 219 41 [some (.inr (.inl 42)), some (.inl x1), some (.inl x2)] [] s Q) ∧ (¬ (x1 < 0) → (0 : Int) ≤ x2 ∧ (x2 : Int) < 6 ∧ ((0 : Int) ≤ x1 ∧ (x1 : Int) < 6 ∧ ((s 65 (x2).toNat ≤ s 65 (x1).toNat → zJ x d 219 43 [some (.inr (.inl 42)), some (.inl x1), some (.inl x2)] [] s Q) ∧ (¬ (s 65 (x2).toNat ≤ s 65 (x1).toNat) → zJ x d 219 41 [some (.inr (.inl 42)), some (.inl x1), some (.inl x2)] [] s Q)))))))) : zJ x d 219 5 [some (.inr (.inl 42)), some (.inl x1), some (.inl x2)] [] s Q := zJ_of (b := b219_5) (by rw [kBlk, kb_219]; rfl) h
set_option maxRecDepth 100000 in
theorem B219_41 {x : List Int} {d : Nat} {s : zSt} {Q : zQ} {x1 : Int} {x2 : Int}  (h : zJ x d 219 43 [some (.inr (.inl 42)), some (.inl x2), some (.inl x2)] [] s Q) : zJ x d 219 41 [some (.inr (.inl 42)), some (.inl x1), some (.inl x2)] [] s Q := zJ_of (b := b219_41) (by rw [kBlk, kb_219]; rfl) h
set_option maxRecDepth 100000 in
theorem B219_43 {x : List Int} {d : Nat} {s : zSt} {Q : zQ} {x1 : Int} {x2 : Int}  (h : zJ x d 219 5 [some (.inr (.inl 42)), some (.inl x1), some (.inl (wr (x2 + 1)))] [] s Q) : zJ x d 219 43 [some (.inr (.inl 42)), some (.inl x1), some (.inl x2)] [] s Q := zJ_of (b := b219_43) (by rw [kBlk, kb_219]; rfl) h
set_option maxRecDepth 100000 in
theorem B219_49 {x : List Int} {d : Nat} {s : zSt} {Q : zQ} {x1 : Int} {x2 : Int}  (h : Q (some (.inl x1)) s) : zJ x d 219 49 [some (.inr (.inl 42)), some (.inl x1), some (.inl x2)] [] s Q := zJ_of (b := b219_49) (by rw [kBlk, kb_219]; rfl) h
set_option maxRecDepth 100000 in
theorem N219 {x : List Int} {d : Nat} {s : zSt} {Q : zQ}  (h : zJ x d 219 0 [some (.inr (.inl 42)), none, none] [] s Q) : zE x (d + 1) 219 [.inr (.inl 42)] s Q := zE_of (n := 3) rfl rfl rfl rfl (fun h => (zLok_some (h _ (List.mem_of_getElem? (i := 0) rfl)) (zLok_none (zLok_none zLok_nil)))) h
-- 220: PennyALapModel.paidAll
set_option maxRecDepth 100000 in
theorem kb_220 : kBls.getD 220 [] = c220 := rfl
set_option maxRecDepth 100000 in
theorem B220_0 {x : List Int} {d : Nat} {s : zSt} {Q : zQ}   (h : zJ x d 220 4 [some (.inr (.inl 42)), some (.inl 0), some (.inl 0)] [] s Q) : zJ x d 220 0 [some (.inr (.inl 42)), none, none] [] s Q := zJ_of (b := b220_0) (by rw [kBlk, kb_220]; rfl) h
set_option maxRecDepth 100000 in
theorem B220_4 {x : List Int} {d : Nat} {s : zSt} {Q : zQ} {x1 : Int} {x2 : Int}  (h : (s 42 1 ≤ x2 → zJ x d 220 32 [some (.inr (.inl 42)), some (.inl x1), some (.inl x2)] [] s Q) ∧ (¬ (s 42 1 ≤ x2) → (0 : Int) ≤ x2 ∧ (x2 : Int) < 6 ∧ (zE x d 216 [.inr (.inl 42), .inl x2, .inl (s 65 (x2).toNat)] s (fun r s1 => zJ x d 220 24 [some (.inr (.inl 42)), some (.inl x1), some (.inl x2)] (zAp r [.inl x1]) s1 Q)))) : zJ x d 220 4 [some (.inr (.inl 42)), some (.inl x1), some (.inl x2)] [] s Q := zJ_of (b := b220_4) (by rw [kBlk, kb_220]; rfl) h
set_option maxRecDepth 100000 in
theorem B220_24 {x : List Int} {d : Nat} {s : zSt} {Q : zQ} {x1 : Int} {x2 : Int} {y0 : Int} {y1 : Int}  (h : zJ x d 220 4 [some (.inr (.inl 42)), some (.inl (wr (y1 + y0))), some (.inl (wr (x2 + 1)))] [] s Q) : zJ x d 220 24 [some (.inr (.inl 42)), some (.inl x1), some (.inl x2)] [.inl y0, .inl y1] s Q := zJ_of (b := b220_24) (by rw [kBlk, kb_220]; rfl) h
set_option maxRecDepth 100000 in
theorem B220_32 {x : List Int} {d : Nat} {s : zSt} {Q : zQ} {x1 : Int} {x2 : Int}  (h : zE x d 219 [.inr (.inl 42)] s (fun r s1 => zJ x d 220 36 [some (.inr (.inl 42)), some (.inl x1), some (.inl x2)] (zAp r []) s1 Q)) : zJ x d 220 32 [some (.inr (.inl 42)), some (.inl x1), some (.inl x2)] [] s Q := zJ_of (b := b220_32) (by rw [kBlk, kb_220]; rfl) h
set_option maxRecDepth 100000 in
theorem B220_36 {x : List Int} {d : Nat} {s : zSt} {Q : zQ} {x1 : Int} {x2 : Int} {y0 : Int}  (h : (0 ≤ y0 → zJ x d 220 43 [some (.inr (.inl 42)), some (.inl x1), some (.inl x2)] [] s Q) ∧ (¬ (0 ≤ y0) → zJ x d 220 49 [some (.inr (.inl 42)), some (.inl x1), some (.inl x2)] [.inl x1] s Q)) : zJ x d 220 36 [some (.inr (.inl 42)), some (.inl x1), some (.inl x2)] [.inl y0] s Q := zJ_of (b := b220_36) (by rw [kBlk, kb_220]; rfl) h
set_option maxRecDepth 100000 in
theorem B220_43 {x : List Int} {d : Nat} {s : zSt} {Q : zQ} {x1 : Int} {x2 : Int}  (h : zJ x d 220 49 [some (.inr (.inl 42)), some (.inl x1), some (.inl x2)] [.inl (wr (x1 - (s 42 16)))] s Q) : zJ x d 220 43 [some (.inr (.inl 42)), some (.inl x1), some (.inl x2)] [] s Q := zJ_of (b := b220_43) (by rw [kBlk, kb_220]; rfl) h
set_option maxRecDepth 100000 in
theorem B220_49 {x : List Int} {d : Nat} {s : zSt} {Q : zQ} {x1 : Int} {x2 : Int} {y0 : Int}  (h : Q (some (.inl y0)) s) : zJ x d 220 49 [some (.inr (.inl 42)), some (.inl x1), some (.inl x2)] [.inl y0] s Q := zJ_of (b := b220_49) (by rw [kBlk, kb_220]; rfl) h
set_option maxRecDepth 100000 in
theorem N220 {x : List Int} {d : Nat} {s : zSt} {Q : zQ}  (h : zJ x d 220 0 [some (.inr (.inl 42)), none, none] [] s Q) : zE x (d + 1) 220 [.inr (.inl 42)] s Q := zE_of (n := 3) rfl rfl rfl rfl (fun h => (zLok_some (h _ (List.mem_of_getElem? (i := 0) rfl)) (zLok_none (zLok_none zLok_nil)))) h
-- 221: PennyALapModel.laps
set_option maxRecDepth 100000 in
theorem kb_221 : kBls.getD 221 [] = c221 := rfl
set_option maxRecDepth 100000 in
theorem B221_0 {x : List Int} {d : Nat} {s : zSt} {Q : zQ} {x1 : Int} {x2 : Int} {x3 : Int}  (h : zE x d 170 [.inl x1, .inl (-1), .inl (wr ((s 42 1) - 1))] s (fun r s1 => zJ x d 221 11 [some (.inr (.inl 42)), some (.inl x1), some (.inl x2), some (.inl x3), none, none] (zAp r []) s1 Q)) : zJ x d 221 0 [some (.inr (.inl 42)), some (.inl x1), some (.inl x2), some (.inl x3), none, none] [] s Q := zJ_of (b := b221_0) (by rw [kBlk, kb_221]; rfl) h
set_option maxRecDepth 100000 in
theorem B221_11 {x : List Int} {d : Nat} {s : zSt} {Q : zQ} {x1 : Int} {x2 : Int} {x3 : Int} {y0 : Int}  (h : (y0 = 0 → zJ x d 221 30 [some (.inr (.inl 42)), some (.inl x1), some (.inl x2), some (.inl x3), none, none] [] s Q) ∧ (¬ (y0 = 0) → zE x d 207 [.inl x2] s (fun r s1 => zJ x d 221 18 [some (.inr (.inl 42)), some (.inl x1), some (.inl x2), some (.inl x3), none, none] (zAp r []) s1 Q))) : zJ x d 221 11 [some (.inr (.inl 42)), some (.inl x1), some (.inl x2), some (.inl x3), none, none] [.inl y0] s Q := zJ_of (b := b221_11) (by rw [kBlk, kb_221]; rfl) h
set_option maxRecDepth 100000 in
theorem B221_18 {x : List Int} {d : Nat} {s : zSt} {Q : zQ} {x1 : Int} {x2 : Int} {x3 : Int} {y0 : Int}  (h : (y0 = 0 → zJ x d 221 30 [some (.inr (.inl 42)), some (.inl x1), some (.inl x2), some (.inl x3), none, none] [] s Q) ∧ (¬ (y0 = 0) → zE x d 170 [.inl x3, .inl 0, .inl 2] s (fun r s1 => zJ x d 221 27 [some (.inr (.inl 42)), some (.inl x1), some (.inl x2), some (.inl x3), none, none] (zAp r []) s1 Q))) : zJ x d 221 18 [some (.inr (.inl 42)), some (.inl x1), some (.inl x2), some (.inl x3), none, none] [.inl y0] s Q := zJ_of (b := b221_18) (by rw [kBlk, kb_221]; rfl) h
set_option maxRecDepth 100000 in
theorem B221_27 {x : List Int} {d : Nat} {s : zSt} {Q : zQ} {x1 : Int} {x2 : Int} {x3 : Int} {y0 : Int}  (h : (¬ y0 = 0 → zJ x d 221 32 [some (.inr (.inl 42)), some (.inl x1), some (.inl x2), some (.inl x3), none, none] [] s Q) ∧ (¬ (¬ y0 = 0) → zJ x d 221 30 [some (.inr (.inl 42)), some (.inl x1), some (.inl x2), some (.inl x3), none, none] [] s Q)) : zJ x d 221 27 [some (.inr (.inl 42)), some (.inl x1), some (.inl x2), some (.inl x3), none, none] [.inl y0] s Q := zJ_of (b := b221_27) (by rw [kBlk, kb_221]; rfl) h
set_option maxRecDepth 100000 in
theorem B221_30 {x : List Int} {d : Nat} {s : zSt} {Q : zQ} {x1 : Int} {x2 : Int} {x3 : Int}  (h : Q (some (.inl (-1))) s) : zJ x d 221 30 [some (.inr (.inl 42)), some (.inl x1), some (.inl x2), some (.inl x3), none, none] [] s Q := zJ_of (b := b221_30) (by rw [kBlk, kb_221]; rfl) h
set_option maxRecDepth 100000 in
theorem B221_32 {x : List Int} {d : Nat} {s : zSt} {Q : zQ} {x1 : Int} {x2 : Int} {x3 : Int}  (h : zE x d 217 [.inr (.inl 42), .inl x2] s (fun r s1 => zJ x d 221 37 [some (.inr (.inl 42)), some (.inl x1), some (.inl x2), some (.inl x3), none, none] (zAp r []) s1 Q)) : zJ x d 221 32 [some (.inr (.inl 42)), some (.inl x1), some (.inl x2), some (.inl x3), none, none] [] s Q := zJ_of (b := b221_32) (by rw [kBlk, kb_221]; rfl) h
set_option maxRecDepth 100000 in
theorem B221_37 {x : List Int} {d : Nat} {s : zSt} {Q : zQ} {x1 : Int} {x2 : Int} {x3 : Int}  (h : (x1 < 0 → zJ x d 221 85 [some (.inr (.inl 42)), some (.inl x1), some (.inl x2), some (.inl x3), none, none] [] s Q) ∧ (¬ (x1 < 0) → (¬ x3 = 0 → zJ x d 221 54 [some (.inr (.inl 42)), some (.inl x1), some (.inl x2), some (.inl x3), none, none] [] s Q) ∧ (¬ (¬ x3 = 0) → (0 : Int) ≤ x1 ∧ (x1 : Int) < 6 ∧ (zJ x d 221 84 [some (.inr (.inl 42)), some (.inl x1), some (.inl x2), some (.inl x3), none, none] [.inl (s 65 (x1).toNat)] s Q)))) : zJ x d 221 37 [some (.inr (.inl 42)), some (.inl x1), some (.inl x2), some (.inl x3), none, none] [] s Q := zJ_of (b := b221_37) (by rw [kBlk, kb_221]; rfl) h
set_option maxRecDepth 100000 in
theorem B221_54 {x : List Int} {d : Nat} {s : zSt} {Q : zQ} {x1 : Int} {x2 : Int} {x3 : Int}  (h : (¬ x3 = 1 → zJ x d 221 73 [some (.inr (.inl 42)), some (.inl x1), some (.inl x2), some (.inl x3), none, none] [] s Q) ∧ (¬ (¬ x3 = 1) → (0 : Int) ≤ x1 ∧ (x1 : Int) < 6 ∧ (zE x d 215 [.inr (.inl 42), .inl x1, .inl (s 65 (x1).toNat)] s (fun r s1 => zJ x d 221 70 [some (.inr (.inl 42)), some (.inl x1), some (.inl x2), some (.inl x3), none, none] (zAp r []) s1 Q)))) : zJ x d 221 54 [some (.inr (.inl 42)), some (.inl x1), some (.inl x2), some (.inl x3), none, none] [] s Q := zJ_of (b := b221_54) (by rw [kBlk, kb_221]; rfl) h
set_option maxRecDepth 100000 in
theorem B221_70 {x : List Int} {d : Nat} {s : zSt} {Q : zQ} {x1 : Int} {x2 : Int} {x3 : Int} {y0 : Int}  (h : zJ x d 221 84 [some (.inr (.inl 42)), some (.inl x1), some (.inl x2), some (.inl x3), none, none] [.inl y0] s Q) : zJ x d 221 70 [some (.inr (.inl 42)), some (.inl x1), some (.inl x2), some (.inl x3), none, none] [.inl y0] s Q := zJ_of (b := b221_70) (by rw [kBlk, kb_221]; rfl) h
set_option maxRecDepth 100000 in
theorem B221_73 {x : List Int} {d : Nat} {s : zSt} {Q : zQ} {x1 : Int} {x2 : Int} {x3 : Int}  (h : (0 : Int) ≤ x1 ∧ (x1 : Int) < 6 ∧ (zE x d 216 [.inr (.inl 42), .inl x1, .inl (s 65 (x1).toNat)] s (fun r s1 => zJ x d 221 84 [some (.inr (.inl 42)), some (.inl x1), some (.inl x2), some (.inl x3), none, none] (zAp r []) s1 Q))) : zJ x d 221 73 [some (.inr (.inl 42)), some (.inl x1), some (.inl x2), some (.inl x3), none, none] [] s Q := zJ_of (b := b221_73) (by rw [kBlk, kb_221]; rfl) h
set_option maxRecDepth 100000 in
theorem B221_84 {x : List Int} {d : Nat} {s : zSt} {Q : zQ} {x1 : Int} {x2 : Int} {x3 : Int} {y0 : Int}  (h : Q (some (.inl y0)) s) : zJ x d 221 84 [some (.inr (.inl 42)), some (.inl x1), some (.inl x2), some (.inl x3), none, none] [.inl y0] s Q := zJ_of (b := b221_84) (by rw [kBlk, kb_221]; rfl) h
set_option maxRecDepth 100000 in
theorem B221_85 {x : List Int} {d : Nat} {s : zSt} {Q : zQ} {x1 : Int} {x2 : Int} {x3 : Int}  (h : (¬ x3 = 0 → zJ x d 221 94 [some (.inr (.inl 42)), some (.inl x1), some (.inl x2), some (.inl x3), none, none] [] s Q) ∧ (¬ (¬ x3 = 0) → zE x d 218 [.inr (.inl 42)] s (fun r s1 => zJ x d 221 93 [some (.inr (.inl 42)), some (.inl x1), some (.inl x2), some (.inl x3), none, none] (zAp r []) s1 Q))) : zJ x d 221 85 [some (.inr (.inl 42)), some (.inl x1), some (.inl x2), some (.inl x3), none, none] [] s Q := zJ_of (b := b221_85) (by rw [kBlk, kb_221]; rfl) h
set_option maxRecDepth 100000 in
theorem B221_93 {x : List Int} {d : Nat} {s : zSt} {Q : zQ} {x1 : Int} {x2 : Int} {x3 : Int} {y0 : Int}  (h : Q (some (.inl y0)) s) : zJ x d 221 93 [some (.inr (.inl 42)), some (.inl x1), some (.inl x2), some (.inl x3), none, none] [.inl y0] s Q := zJ_of (b := b221_93) (by rw [kBlk, kb_221]; rfl) h
set_option maxRecDepth 100000 in
theorem B221_94 {x : List Int} {d : Nat} {s : zSt} {Q : zQ} {x1 : Int} {x2 : Int} {x3 : Int}  (h : (¬ x3 = 2 → zJ x d 221 104 [some (.inr (.inl 42)), some (.inl x1), some (.inl x2), some (.inl x3), none, none] [] s Q) ∧ (¬ (¬ x3 = 2) → zE x d 220 [.inr (.inl 42)] s (fun r s1 => zJ x d 221 103 [some (.inr (.inl 42)), some (.inl x1), some (.inl x2), some (.inl x3), none, none] (zAp r []) s1 Q))) : zJ x d 221 94 [some (.inr (.inl 42)), some (.inl x1), some (.inl x2), some (.inl x3), none, none] [] s Q := zJ_of (b := b221_94) (by rw [kBlk, kb_221]; rfl) h
set_option maxRecDepth 100000 in
theorem B221_103 {x : List Int} {d : Nat} {s : zSt} {Q : zQ} {x1 : Int} {x2 : Int} {x3 : Int} {y0 : Int}  (h : Q (some (.inl y0)) s) : zJ x d 221 103 [some (.inr (.inl 42)), some (.inl x1), some (.inl x2), some (.inl x3), none, none] [.inl y0] s Q := zJ_of (b := b221_103) (by rw [kBlk, kb_221]; rfl) h
set_option maxRecDepth 100000 in
theorem B221_104 {x : List Int} {d : Nat} {s : zSt} {Q : zQ} {x1 : Int} {x2 : Int} {x3 : Int}  (h : zJ x d 221 110 [some (.inr (.inl 42)), some (.inl x1), some (.inl x2), some (.inl x3), some (.inl 0), some (.inl 0)] [] s Q) : zJ x d 221 104 [some (.inr (.inl 42)), some (.inl x1), some (.inl x2), some (.inl x3), none, none] [] s Q := zJ_of (b := b221_104) (by rw [kBlk, kb_221]; rfl) h
set_option maxRecDepth 100000 in
theorem B221_110 {x : List Int} {d : Nat} {s : zSt} {Q : zQ} {x1 : Int} {x2 : Int} {x3 : Int} {x4 : Int} {x5 : Int}  (h : (s 42 1 ≤ x5 → zJ x d 221 143 [some (.inr (.inl 42)), some (.inl x1), some (.inl x2), some (.inl x3), some (.inl x4), some (.inl x5)] [] s Q) ∧ (¬ (s 42 1 ≤ x5) → (0 : Int) ≤ x5 ∧ (x5 : Int) < 6 ∧ (zE x d 215 [.inr (.inl 42), .inl x5, .inl (s 65 (x5).toNat)] s (fun r s1 => zJ x d 221 134 [some (.inr (.inl 42)), some (.inl x1), some (.inl x2), some (.inl x3), some (.inl x4), some (.inl x5)] (zAp r [.inl x4]) s1 Q)))) : zJ x d 221 110 [some (.inr (.inl 42)), some (.inl x1), some (.inl x2), some (.inl x3), some (.inl x4), some (.inl x5)] [] s Q := zJ_of (b := b221_110) (by rw [kBlk, kb_221]; rfl) h
set_option maxRecDepth 100000 in
theorem B221_134 {x : List Int} {d : Nat} {s : zSt} {Q : zQ} {x1 : Int} {x2 : Int} {x3 : Int} {x4 : Int} {x5 : Int} {y0 : Int} {y1 : Int}  (h : zJ x d 221 110 [some (.inr (.inl 42)), some (.inl x1), some (.inl x2), some (.inl x3), some (.inl (wr (y1 + y0))), some (.inl (wr (x5 + 1)))] [] s Q) : zJ x d 221 134 [some (.inr (.inl 42)), some (.inl x1), some (.inl x2), some (.inl x3), some (.inl x4), some (.inl x5)] [.inl y0, .inl y1] s Q := zJ_of (b := b221_134) (by rw [kBlk, kb_221]; rfl) h
set_option maxRecDepth 100000 in
theorem B221_143 {x : List Int} {d : Nat} {s : zSt} {Q : zQ} {x1 : Int} {x2 : Int} {x3 : Int} {x4 : Int} {x5 : Int}  (h : Q (some (.inl x4)) s) : zJ x d 221 143 [some (.inr (.inl 42)), some (.inl x1), some (.inl x2), some (.inl x3), some (.inl x4), some (.inl x5)] [] s Q := zJ_of (b := b221_143) (by rw [kBlk, kb_221]; rfl) h
set_option maxRecDepth 100000 in
theorem N221 {x : List Int} {d : Nat} {s : zSt} {Q : zQ} {x1 : Int} {x2 : Int} {x3 : Int} (h : zJ x d 221 0 [some (.inr (.inl 42)), some (.inl x1), some (.inl x2), some (.inl x3), none, none] [] s Q) : zE x (d + 1) 221 [.inr (.inl 42), .inl x1, .inl x2, .inl x3] s Q := zE_of (n := 6) rfl rfl rfl rfl (fun h => (zLok_some (h _ (List.mem_of_getElem? (i := 0) rfl)) (zLok_some (h _ (List.mem_of_getElem? (i := 1) rfl)) (zLok_some (h _ (List.mem_of_getElem? (i := 2) rfl)) (zLok_some (h _ (List.mem_of_getElem? (i := 3) rfl)) (zLok_none (zLok_none zLok_nil))))))) h
-- 222: PennyALapModel.surprised
set_option maxRecDepth 100000 in
theorem kb_222 : kBls.getD 222 [] = c222 := rfl
set_option maxRecDepth 100000 in
theorem B222_0 {x : List Int} {d : Nat} {s : zSt} {Q : zQ}   (h : zJ x d 222 4 [some (.inr (.inl 42)), some (.inl 0), some (.inl 0)] [] s Q) : zJ x d 222 0 [some (.inr (.inl 42)), none, none] [] s Q := zJ_of (b := b222_0) (by rw [kBlk, kb_222]; rfl) h
set_option maxRecDepth 100000 in
theorem B222_4 {x : List Int} {d : Nat} {s : zSt} {Q : zQ} {x1 : Int} {x2 : Int}  (h : (s 42 6 ≤ x2 → zJ x d 222 49 [some (.inr (.inl 42)), some (.inl x1), some (.inl x2)] [] s Q) ∧ (¬ (s 42 6 ≤ x2) → (0 : Int) ≤ x2 ∧ (x2 : Int) < 16 ∧ ((0 : Int) ≤ s 47 (x2).toNat ∧ (s 47 (x2).toNat : Int) < 6 ∧ (zE x d 212 [.inr (.inl 42), .inl x2, .inl (s 65 (s 47 (x2).toNat).toNat)] s (fun r s1 => zJ x d 222 28 [some (.inr (.inl 42)), some (.inl x1), some (.inl x2)] (zAp r []) s1 Q))))) : zJ x d 222 4 [some (.inr (.inl 42)), some (.inl x1), some (.inl x2)] [] s Q := zJ_of (b := b222_4) (by rw [kBlk, kb_222]; rfl) h
set_option maxRecDepth 100000 in
theorem B222_28 {x : List Int} {d : Nat} {s : zSt} {Q : zQ} {x1 : Int} {x2 : Int} {y0 : Int}  (h : (0 : Int) ≤ x2 ∧ (x2 : Int) < 16 ∧ ((y0 ≤ s 52 (x2).toNat → zJ x d 222 43 [some (.inr (.inl 42)), some (.inl x1), some (.inl x2)] [] s Q) ∧ (¬ (y0 ≤ s 52 (x2).toNat) → zJ x d 222 43 [some (.inr (.inl 42)), some (.inl (zOr x1 (zShl 1 x2))), some (.inl x2)] [] s Q))) : zJ x d 222 28 [some (.inr (.inl 42)), some (.inl x1), some (.inl x2)] [.inl y0] s Q := zJ_of (b := b222_28) (by rw [kBlk, kb_222]; rfl) h
set_option maxRecDepth 100000 in
theorem B222_43 {x : List Int} {d : Nat} {s : zSt} {Q : zQ} {x1 : Int} {x2 : Int}  (h : zJ x d 222 4 [some (.inr (.inl 42)), some (.inl x1), some (.inl (wr (x2 + 1)))] [] s Q) : zJ x d 222 43 [some (.inr (.inl 42)), some (.inl x1), some (.inl x2)] [] s Q := zJ_of (b := b222_43) (by rw [kBlk, kb_222]; rfl) h
set_option maxRecDepth 100000 in
theorem B222_49 {x : List Int} {d : Nat} {s : zSt} {Q : zQ} {x1 : Int} {x2 : Int}  (h : Q (some (.inl x1)) s) : zJ x d 222 49 [some (.inr (.inl 42)), some (.inl x1), some (.inl x2)] [] s Q := zJ_of (b := b222_49) (by rw [kBlk, kb_222]; rfl) h
set_option maxRecDepth 100000 in
theorem N222 {x : List Int} {d : Nat} {s : zSt} {Q : zQ}  (h : zJ x d 222 0 [some (.inr (.inl 42)), none, none] [] s Q) : zE x (d + 1) 222 [.inr (.inl 42)] s Q := zE_of (n := 3) rfl rfl rfl rfl (fun h => (zLok_some (h _ (List.mem_of_getElem? (i := 0) rfl)) (zLok_none (zLok_none zLok_nil)))) h
-- 223: PennyALapModel.mostPence
set_option maxRecDepth 100000 in
theorem kb_223 : kBls.getD 223 [] = c223 := rfl
set_option maxRecDepth 100000 in
theorem B223_0 {x : List Int} {d : Nat} {s : zSt} {Q : zQ}   (h : zJ x d 223 5 [some (.inr (.inl 42)), some (.inl (-2)), some (.inl 0)] [] s Q) : zJ x d 223 0 [some (.inr (.inl 42)), none, none] [] s Q := zJ_of (b := b223_0) (by rw [kBlk, kb_223]; rfl) h
set_option maxRecDepth 100000 in
theorem B223_5 {x : List Int} {d : Nat} {s : zSt} {Q : zQ} {x1 : Int} {x2 : Int}  (h : (s 42 1 ≤ x2 → zJ x d 223 50 [some (.inr (.inl 42)), some (.inl x1), some (.inl x2)] [] s Q) ∧ (¬ (s 42 1 ≤ x2) → (x1 < 0 → zJ x d 223 42 [some (.inr (.inl 42)), some (.inl x1), some (.inl x2)] [] s Q) ∧ (¬ (x1 < 0) → (0 : Int) ≤ x2 ∧ (x2 : Int) < 6 ∧ (zE x d 216 [.inr (.inl 42), .inl x2, .inl (s 65 (x2).toNat)] s (fun r s1 => zJ x d 223 28 [some (.inr (.inl 42)), some (.inl x1), some (.inl x2)] (zAp r []) s1 Q))))) : zJ x d 223 5 [some (.inr (.inl 42)), some (.inl x1), some (.inl x2)] [] s Q := zJ_of (b := b223_5) (by rw [kBlk, kb_223]; rfl) h
set_option maxRecDepth 100000 in
theorem B223_28 {x : List Int} {d : Nat} {s : zSt} {Q : zQ} {x1 : Int} {x2 : Int} {y0 : Int}  (h : (0 : Int) ≤ x1 ∧ (x1 : Int) < 6 ∧ (zE x d 216 [.inr (.inl 42), .inl x1, .inl (s 65 (x1).toNat)] s (fun r s1 => zJ x d 223 39 [some (.inr (.inl 42)), some (.inl x1), some (.inl x2)] (zAp r [.inl y0]) s1 Q))) : zJ x d 223 28 [some (.inr (.inl 42)), some (.inl x1), some (.inl x2)] [.inl y0] s Q := zJ_of (b := b223_28) (by rw [kBlk, kb_223]; rfl) h
set_option maxRecDepth 100000 in
theorem B223_39 {x : List Int} {d : Nat} {s : zSt} {Q : zQ} {x1 : Int} {x2 : Int} {y0 : Int} {y1 : Int}  (h : (y1 ≤ y0 → zJ x d 223 44 [some (.inr (.inl 42)), some (.inl x1), some (.inl x2)] [] s Q) ∧ (¬ (y1 ≤ y0) → zJ x d 223 42 [some (.inr (.inl 42)), some (.inl x1), some (.inl x2)] [] s Q)) : zJ x d 223 39 [some (.inr (.inl 42)), some (.inl x1), some (.inl x2)] [.inl y0, .inl y1] s Q := zJ_of (b := b223_39) (by rw [kBlk, kb_223]; rfl) h
set_option maxRecDepth 100000 in
theorem B223_42 {x : List Int} {d : Nat} {s : zSt} {Q : zQ} {x1 : Int} {x2 : Int}  (h : zJ x d 223 44 [some (.inr (.inl 42)), some (.inl x2), some (.inl x2)] [] s Q) : zJ x d 223 42 [some (.inr (.inl 42)), some (.inl x1), some (.inl x2)] [] s Q := zJ_of (b := b223_42) (by rw [kBlk, kb_223]; rfl) h
set_option maxRecDepth 100000 in
theorem B223_44 {x : List Int} {d : Nat} {s : zSt} {Q : zQ} {x1 : Int} {x2 : Int}  (h : zJ x d 223 5 [some (.inr (.inl 42)), some (.inl x1), some (.inl (wr (x2 + 1)))] [] s Q) : zJ x d 223 44 [some (.inr (.inl 42)), some (.inl x1), some (.inl x2)] [] s Q := zJ_of (b := b223_44) (by rw [kBlk, kb_223]; rfl) h
set_option maxRecDepth 100000 in
theorem B223_50 {x : List Int} {d : Nat} {s : zSt} {Q : zQ} {x1 : Int} {x2 : Int}  (h : Q (some (.inl x1)) s) : zJ x d 223 50 [some (.inr (.inl 42)), some (.inl x1), some (.inl x2)] [] s Q := zJ_of (b := b223_50) (by rw [kBlk, kb_223]; rfl) h
set_option maxRecDepth 100000 in
theorem N223 {x : List Int} {d : Nat} {s : zSt} {Q : zQ}  (h : zJ x d 223 0 [some (.inr (.inl 42)), none, none] [] s Q) : zE x (d + 1) 223 [.inr (.inl 42)] s Q := zE_of (n := 3) rfl rfl rfl rfl (fun h => (zLok_some (h _ (List.mem_of_getElem? (i := 0) rfl)) (zLok_none (zLok_none zLok_nil)))) h
-- 224: PennyALapModel.most
set_option maxRecDepth 100000 in
theorem kb_224 : kBls.getD 224 [] = c224 := rfl
set_option maxRecDepth 100000 in
theorem B224_0 {x : List Int} {d : Nat} {s : zSt} {Q : zQ} {x1 : Int} {x2 : Int}  (h : zE x d 207 [.inl x1] s (fun r s1 => zJ x d 224 4 [some (.inr (.inl 42)), some (.inl x1), some (.inl x2)] (zAp r []) s1 Q)) : zJ x d 224 0 [some (.inr (.inl 42)), some (.inl x1), some (.inl x2)] [] s Q := zJ_of (b := b224_0) (by rw [kBlk, kb_224]; rfl) h
set_option maxRecDepth 100000 in
theorem B224_4 {x : List Int} {d : Nat} {s : zSt} {Q : zQ} {x1 : Int} {x2 : Int} {y0 : Int}  (h : (y0 = 0 → zJ x d 224 16 [some (.inr (.inl 42)), some (.inl x1), some (.inl x2)] [] s Q) ∧ (¬ (y0 = 0) → zE x d 170 [.inl x2, .inl 0, .inl 2] s (fun r s1 => zJ x d 224 13 [some (.inr (.inl 42)), some (.inl x1), some (.inl x2)] (zAp r []) s1 Q))) : zJ x d 224 4 [some (.inr (.inl 42)), some (.inl x1), some (.inl x2)] [.inl y0] s Q := zJ_of (b := b224_4) (by rw [kBlk, kb_224]; rfl) h
set_option maxRecDepth 100000 in
theorem B224_13 {x : List Int} {d : Nat} {s : zSt} {Q : zQ} {x1 : Int} {x2 : Int} {y0 : Int}  (h : (¬ y0 = 0 → zJ x d 224 18 [some (.inr (.inl 42)), some (.inl x1), some (.inl x2)] [] s Q) ∧ (¬ (¬ y0 = 0) → zJ x d 224 16 [some (.inr (.inl 42)), some (.inl x1), some (.inl x2)] [] s Q)) : zJ x d 224 13 [some (.inr (.inl 42)), some (.inl x1), some (.inl x2)] [.inl y0] s Q := zJ_of (b := b224_13) (by rw [kBlk, kb_224]; rfl) h
set_option maxRecDepth 100000 in
theorem B224_16 {x : List Int} {d : Nat} {s : zSt} {Q : zQ} {x1 : Int} {x2 : Int}  (h : Q (some (.inl (-1))) s) : zJ x d 224 16 [some (.inr (.inl 42)), some (.inl x1), some (.inl x2)] [] s Q := zJ_of (b := b224_16) (by rw [kBlk, kb_224]; rfl) h
set_option maxRecDepth 100000 in
theorem B224_18 {x : List Int} {d : Nat} {s : zSt} {Q : zQ} {x1 : Int} {x2 : Int}  (h : zE x d 217 [.inr (.inl 42), .inl x1] s (fun r s1 => zJ x d 224 23 [some (.inr (.inl 42)), some (.inl x1), some (.inl x2)] (zAp r []) s1 Q)) : zJ x d 224 18 [some (.inr (.inl 42)), some (.inl x1), some (.inl x2)] [] s Q := zJ_of (b := b224_18) (by rw [kBlk, kb_224]; rfl) h
set_option maxRecDepth 100000 in
theorem B224_23 {x : List Int} {d : Nat} {s : zSt} {Q : zQ} {x1 : Int} {x2 : Int}  (h : (¬ x2 = 0 → zJ x d 224 34 [some (.inr (.inl 42)), some (.inl x1), some (.inl x2)] [] s Q) ∧ (¬ (¬ x2 = 0) → zE x d 222 [.inr (.inl 42)] s (fun r s1 => zJ x d 224 31 [some (.inr (.inl 42)), some (.inl x1), some (.inl x2)] (zAp r []) s1 Q))) : zJ x d 224 23 [some (.inr (.inl 42)), some (.inl x1), some (.inl x2)] [] s Q := zJ_of (b := b224_23) (by rw [kBlk, kb_224]; rfl) h
set_option maxRecDepth 100000 in
theorem B224_31 {x : List Int} {d : Nat} {s : zSt} {Q : zQ} {x1 : Int} {x2 : Int} {y0 : Int}  (h : zJ x d 224 50 [some (.inr (.inl 42)), some (.inl x1), some (.inl x2)] [.inl y0] s Q) : zJ x d 224 31 [some (.inr (.inl 42)), some (.inl x1), some (.inl x2)] [.inl y0] s Q := zJ_of (b := b224_31) (by rw [kBlk, kb_224]; rfl) h
set_option maxRecDepth 100000 in
theorem B224_34 {x : List Int} {d : Nat} {s : zSt} {Q : zQ} {x1 : Int} {x2 : Int}  (h : (¬ x2 = 1 → zJ x d 224 46 [some (.inr (.inl 42)), some (.inl x1), some (.inl x2)] [] s Q) ∧ (¬ (¬ x2 = 1) → zE x d 219 [.inr (.inl 42)] s (fun r s1 => zJ x d 224 43 [some (.inr (.inl 42)), some (.inl x1), some (.inl x2)] (zAp r []) s1 Q))) : zJ x d 224 34 [some (.inr (.inl 42)), some (.inl x1), some (.inl x2)] [] s Q := zJ_of (b := b224_34) (by rw [kBlk, kb_224]; rfl) h
set_option maxRecDepth 100000 in
theorem B224_43 {x : List Int} {d : Nat} {s : zSt} {Q : zQ} {x1 : Int} {x2 : Int} {y0 : Int}  (h : zJ x d 224 50 [some (.inr (.inl 42)), some (.inl x1), some (.inl x2)] [.inl y0] s Q) : zJ x d 224 43 [some (.inr (.inl 42)), some (.inl x1), some (.inl x2)] [.inl y0] s Q := zJ_of (b := b224_43) (by rw [kBlk, kb_224]; rfl) h
set_option maxRecDepth 100000 in
theorem B224_46 {x : List Int} {d : Nat} {s : zSt} {Q : zQ} {x1 : Int} {x2 : Int}  (h : zE x d 223 [.inr (.inl 42)] s (fun r s1 => zJ x d 224 50 [some (.inr (.inl 42)), some (.inl x1), some (.inl x2)] (zAp r []) s1 Q)) : zJ x d 224 46 [some (.inr (.inl 42)), some (.inl x1), some (.inl x2)] [] s Q := zJ_of (b := b224_46) (by rw [kBlk, kb_224]; rfl) h
set_option maxRecDepth 100000 in
theorem B224_50 {x : List Int} {d : Nat} {s : zSt} {Q : zQ} {x1 : Int} {x2 : Int} {y0 : Int}  (h : Q (some (.inl y0)) s) : zJ x d 224 50 [some (.inr (.inl 42)), some (.inl x1), some (.inl x2)] [.inl y0] s Q := zJ_of (b := b224_50) (by rw [kBlk, kb_224]; rfl) h
set_option maxRecDepth 100000 in
theorem N224 {x : List Int} {d : Nat} {s : zSt} {Q : zQ} {x1 : Int} {x2 : Int} (h : zJ x d 224 0 [some (.inr (.inl 42)), some (.inl x1), some (.inl x2)] [] s Q) : zE x (d + 1) 224 [.inr (.inl 42), .inl x1, .inl x2] s Q := zE_of (n := 3) rfl rfl rfl rfl (fun h => (zLok_some (h _ (List.mem_of_getElem? (i := 0) rfl)) (zLok_some (h _ (List.mem_of_getElem? (i := 1) rfl)) (zLok_some (h _ (List.mem_of_getElem? (i := 2) rfl)) zLok_nil)))) h
-- 225: PennyALapModel.moreBy
set_option maxRecDepth 100000 in
theorem kb_225 : kBls.getD 225 [] = c225 := rfl
set_option maxRecDepth 100000 in
theorem B225_0 {x : List Int} {d : Nat} {s : zSt} {Q : zQ} {x1 : Int} {x2 : Int}  (h : zE x d 216 [.inr (.inl 42), .inl x1, .inl (wr (x2 + 1))] s (fun r s1 => zJ x d 225 8 [some (.inr (.inl 42)), some (.inl x1), some (.inl x2)] (zAp r []) s1 Q)) : zJ x d 225 0 [some (.inr (.inl 42)), some (.inl x1), some (.inl x2)] [] s Q := zJ_of (b := b225_0) (by rw [kBlk, kb_225]; rfl) h
set_option maxRecDepth 100000 in
theorem B225_8 {x : List Int} {d : Nat} {s : zSt} {Q : zQ} {x1 : Int} {x2 : Int} {y0 : Int}  (h : zE x d 216 [.inr (.inl 42), .inl x1, .inl x2] s (fun r s1 => zJ x d 225 14 [some (.inr (.inl 42)), some (.inl x1), some (.inl x2)] (zAp r [.inl y0]) s1 Q)) : zJ x d 225 8 [some (.inr (.inl 42)), some (.inl x1), some (.inl x2)] [.inl y0] s Q := zJ_of (b := b225_8) (by rw [kBlk, kb_225]; rfl) h
set_option maxRecDepth 100000 in
theorem B225_14 {x : List Int} {d : Nat} {s : zSt} {Q : zQ} {x1 : Int} {x2 : Int} {y0 : Int} {y1 : Int}  (h : Q (some (.inl (wr (y1 - y0)))) s) : zJ x d 225 14 [some (.inr (.inl 42)), some (.inl x1), some (.inl x2)] [.inl y0, .inl y1] s Q := zJ_of (b := b225_14) (by rw [kBlk, kb_225]; rfl) h
set_option maxRecDepth 100000 in
theorem N225 {x : List Int} {d : Nat} {s : zSt} {Q : zQ} {x1 : Int} {x2 : Int} (h : zJ x d 225 0 [some (.inr (.inl 42)), some (.inl x1), some (.inl x2)] [] s Q) : zE x (d + 1) 225 [.inr (.inl 42), .inl x1, .inl x2] s Q := zE_of (n := 3) rfl rfl rfl rfl (fun h => (zLok_some (h _ (List.mem_of_getElem? (i := 0) rfl)) (zLok_some (h _ (List.mem_of_getElem? (i := 1) rfl)) (zLok_some (h _ (List.mem_of_getElem? (i := 2) rfl)) zLok_nil)))) h
-- 226: PennyALapModel.more
set_option maxRecDepth 100000 in
theorem kb_226 : kBls.getD 226 [] = c226 := rfl
set_option maxRecDepth 100000 in
theorem B226_0 {x : List Int} {d : Nat} {s : zSt} {Q : zQ} {x1 : Int} {x2 : Int}  (h : zE x d 171 [.inr (.inl 42), .inl x1] s (fun r s1 => zJ x d 226 5 [some (.inr (.inl 42)), some (.inl x1), some (.inl x2)] (zAp r []) s1 Q)) : zJ x d 226 0 [some (.inr (.inl 42)), some (.inl x1), some (.inl x2)] [] s Q := zJ_of (b := b226_0) (by rw [kBlk, kb_226]; rfl) h
set_option maxRecDepth 100000 in
theorem B226_5 {x : List Int} {d : Nat} {s : zSt} {Q : zQ} {x1 : Int} {x2 : Int} {y0 : Int}  (h : (y0 = 0 → zJ x d 226 27 [some (.inr (.inl 42)), some (.inl x1), some (.inl x2)] [] s Q) ∧ (¬ (y0 = 0) → zE x d 170 [.inl x2, .inl 0, .inl 98] s (fun r s1 => zJ x d 226 15 [some (.inr (.inl 42)), some (.inl x1), some (.inl x2)] (zAp r []) s1 Q))) : zJ x d 226 5 [some (.inr (.inl 42)), some (.inl x1), some (.inl x2)] [.inl y0] s Q := zJ_of (b := b226_5) (by rw [kBlk, kb_226]; rfl) h
set_option maxRecDepth 100000 in
theorem B226_15 {x : List Int} {d : Nat} {s : zSt} {Q : zQ} {x1 : Int} {x2 : Int} {y0 : Int}  (h : (y0 = 0 → zJ x d 226 27 [some (.inr (.inl 42)), some (.inl x1), some (.inl x2)] [] s Q) ∧ (¬ (y0 = 0) → zE x d 225 [.inr (.inl 42), .inl x1, .inl x2] s (fun r s1 => zJ x d 226 24 [some (.inr (.inl 42)), some (.inl x1), some (.inl x2)] (zAp r []) s1 Q))) : zJ x d 226 15 [some (.inr (.inl 42)), some (.inl x1), some (.inl x2)] [.inl y0] s Q := zJ_of (b := b226_15) (by rw [kBlk, kb_226]; rfl) h
set_option maxRecDepth 100000 in
theorem B226_24 {x : List Int} {d : Nat} {s : zSt} {Q : zQ} {x1 : Int} {x2 : Int} {y0 : Int}  (h : zJ x d 226 28 [some (.inr (.inl 42)), some (.inl x1), some (.inl x2)] [.inl y0] s Q) : zJ x d 226 24 [some (.inr (.inl 42)), some (.inl x1), some (.inl x2)] [.inl y0] s Q := zJ_of (b := b226_24) (by rw [kBlk, kb_226]; rfl) h
set_option maxRecDepth 100000 in
theorem B226_27 {x : List Int} {d : Nat} {s : zSt} {Q : zQ} {x1 : Int} {x2 : Int}  (h : zJ x d 226 28 [some (.inr (.inl 42)), some (.inl x1), some (.inl x2)] [.inl (-1)] s Q) : zJ x d 226 27 [some (.inr (.inl 42)), some (.inl x1), some (.inl x2)] [] s Q := zJ_of (b := b226_27) (by rw [kBlk, kb_226]; rfl) h
set_option maxRecDepth 100000 in
theorem B226_28 {x : List Int} {d : Nat} {s : zSt} {Q : zQ} {x1 : Int} {x2 : Int} {y0 : Int}  (h : Q (some (.inl y0)) s) : zJ x d 226 28 [some (.inr (.inl 42)), some (.inl x1), some (.inl x2)] [.inl y0] s Q := zJ_of (b := b226_28) (by rw [kBlk, kb_226]; rfl) h
set_option maxRecDepth 100000 in
theorem N226 {x : List Int} {d : Nat} {s : zSt} {Q : zQ} {x1 : Int} {x2 : Int} (h : zJ x d 226 0 [some (.inr (.inl 42)), some (.inl x1), some (.inl x2)] [] s Q) : zE x (d + 1) 226 [.inr (.inl 42), .inl x1, .inl x2] s Q := zE_of (n := 3) rfl rfl rfl rfl (fun h => (zLok_some (h _ (List.mem_of_getElem? (i := 0) rfl)) (zLok_some (h _ (List.mem_of_getElem? (i := 1) rfl)) (zLok_some (h _ (List.mem_of_getElem? (i := 2) rfl)) zLok_nil)))) h
-- 227: PennyALapModel.done
set_option maxRecDepth 100000 in
theorem kb_227 : kBls.getD 227 [] = c227 := rfl
set_option maxRecDepth 100000 in
theorem B227_0 {x : List Int} {d : Nat} {s : zSt} {Q : zQ} {x1 : Int}  (h : zE x d 171 [.inr (.inl 42), .inl x1] s (fun r s1 => zJ x d 227 5 [some (.inr (.inl 42)), some (.inl x1), none] (zAp r []) s1 Q)) : zJ x d 227 0 [some (.inr (.inl 42)), some (.inl x1), none] [] s Q := zJ_of (b := b227_0) (by rw [kBlk, kb_227]; rfl) h
set_option maxRecDepth 100000 in
theorem B227_5 {x : List Int} {d : Nat} {s : zSt} {Q : zQ} {x1 : Int} {y0 : Int}  (h : (¬ y0 = 0 → zJ x d 227 10 [some (.inr (.inl 42)), some (.inl x1), none] [] s Q) ∧ (¬ (¬ y0 = 0) → Q (some (.inl (-1))) s)) : zJ x d 227 5 [some (.inr (.inl 42)), some (.inl x1), none] [.inl y0] s Q := zJ_of (b := b227_5) (by rw [kBlk, kb_227]; rfl) h
set_option maxRecDepth 100000 in
theorem B227_10 {x : List Int} {d : Nat} {s : zSt} {Q : zQ} {x1 : Int}  (h : zJ x d 227 13 [some (.inr (.inl 42)), some (.inl x1), some (.inl 99)] [] s Q) : zJ x d 227 10 [some (.inr (.inl 42)), some (.inl x1), none] [] s Q := zJ_of (b := b227_10) (by rw [kBlk, kb_227]; rfl) h
set_option maxRecDepth 100000 in
theorem B227_13 {x : List Int} {d : Nat} {s : zSt} {Q : zQ} {x1 : Int} {x2 : Int}  (h : (x2 ≤ 0 → zJ x d 227 34 [some (.inr (.inl 42)), some (.inl x1), some (.inl x2)] [] s Q) ∧ (¬ (x2 ≤ 0) → zE x d 225 [.inr (.inl 42), .inl x1, .inl (wr (x2 - 1))] s (fun r s1 => zJ x d 227 25 [some (.inr (.inl 42)), some (.inl x1), some (.inl x2)] (zAp r []) s1 Q))) : zJ x d 227 13 [some (.inr (.inl 42)), some (.inl x1), some (.inl x2)] [] s Q := zJ_of (b := b227_13) (by rw [kBlk, kb_227]; rfl) h
set_option maxRecDepth 100000 in
theorem B227_25 {x : List Int} {d : Nat} {s : zSt} {Q : zQ} {x1 : Int} {x2 : Int} {y0 : Int}  (h : (¬ y0 = 0 → zJ x d 227 34 [some (.inr (.inl 42)), some (.inl x1), some (.inl x2)] [] s Q) ∧ (¬ (¬ y0 = 0) → zJ x d 227 13 [some (.inr (.inl 42)), some (.inl x1), some (.inl (wr (x2 + (-1))))] [] s Q)) : zJ x d 227 25 [some (.inr (.inl 42)), some (.inl x1), some (.inl x2)] [.inl y0] s Q := zJ_of (b := b227_25) (by rw [kBlk, kb_227]; rfl) h
set_option maxRecDepth 100000 in
theorem B227_34 {x : List Int} {d : Nat} {s : zSt} {Q : zQ} {x1 : Int} {x2 : Int}  (h : Q (some (.inl x2)) s) : zJ x d 227 34 [some (.inr (.inl 42)), some (.inl x1), some (.inl x2)] [] s Q := zJ_of (b := b227_34) (by rw [kBlk, kb_227]; rfl) h
set_option maxRecDepth 100000 in
theorem N227 {x : List Int} {d : Nat} {s : zSt} {Q : zQ} {x1 : Int} (h : zJ x d 227 0 [some (.inr (.inl 42)), some (.inl x1), none] [] s Q) : zE x (d + 1) 227 [.inr (.inl 42), .inl x1] s Q := zE_of (n := 3) rfl rfl rfl rfl (fun h => (zLok_some (h _ (List.mem_of_getElem? (i := 0) rfl)) (zLok_some (h _ (List.mem_of_getElem? (i := 1) rfl)) (zLok_none zLok_nil)))) h
-- 228: PennyALapModel.lapOrSum
set_option maxRecDepth 100000 in
theorem kb_228 : kBls.getD 228 [] = c228 := rfl
set_option maxRecDepth 100000 in
theorem B228_0 {x : List Int} {d : Nat} {s : zSt} {Q : zQ} {x1 : Int} {x2 : Int}  (h : zE x d 172 [.inr (.inl 42), .inl x1] s (fun r s1 => zJ x d 228 5 [some (.inr (.inl 42)), some (.inl x1), some (.inl x2), none] (zAp r []) s1 Q)) : zJ x d 228 0 [some (.inr (.inl 42)), some (.inl x1), some (.inl x2), none] [] s Q := zJ_of (b := b228_0) (by rw [kBlk, kb_228]; rfl) h
set_option maxRecDepth 100000 in
theorem B228_5 {x : List Int} {d : Nat} {s : zSt} {Q : zQ} {x1 : Int} {x2 : Int} {y0 : Int}  (h : (y0 = 0 → zJ x d 228 19 [some (.inr (.inl 42)), some (.inl x1), some (.inl x2), none] [] s Q) ∧ (¬ (y0 = 0) → zE x d 170 [.inl x2, .inl 0, .inl 9999] s (fun r s1 => zJ x d 228 16 [some (.inr (.inl 42)), some (.inl x1), some (.inl x2), none] (zAp r []) s1 Q))) : zJ x d 228 5 [some (.inr (.inl 42)), some (.inl x1), some (.inl x2), none] [.inl y0] s Q := zJ_of (b := b228_5) (by rw [kBlk, kb_228]; rfl) h
set_option maxRecDepth 100000 in
theorem B228_16 {x : List Int} {d : Nat} {s : zSt} {Q : zQ} {x1 : Int} {x2 : Int} {y0 : Int}  (h : (¬ y0 = 0 → zJ x d 228 21 [some (.inr (.inl 42)), some (.inl x1), some (.inl x2), none] [] s Q) ∧ (¬ (¬ y0 = 0) → zJ x d 228 19 [some (.inr (.inl 42)), some (.inl x1), some (.inl x2), none] [] s Q)) : zJ x d 228 16 [some (.inr (.inl 42)), some (.inl x1), some (.inl x2), none] [.inl y0] s Q := zJ_of (b := b228_16) (by rw [kBlk, kb_228]; rfl) h
set_option maxRecDepth 100000 in
theorem B228_19 {x : List Int} {d : Nat} {s : zSt} {Q : zQ} {x1 : Int} {x2 : Int}  (h : Q (some (.inl (-1))) s) : zJ x d 228 19 [some (.inr (.inl 42)), some (.inl x1), some (.inl x2), none] [] s Q := zJ_of (b := b228_19) (by rw [kBlk, kb_228]; rfl) h
set_option maxRecDepth 100000 in
theorem B228_21 {x : List Int} {d : Nat} {s : zSt} {Q : zQ} {x1 : Int} {x2 : Int}  (h : zJ x d 228 23 [some (.inr (.inl 42)), some (.inl x1), some (.inl x2), some (.inl 0)] [] s Q) : zJ x d 228 21 [some (.inr (.inl 42)), some (.inl x1), some (.inl x2), none] [] s Q := zJ_of (b := b228_21) (by rw [kBlk, kb_228]; rfl) h
set_option maxRecDepth 100000 in
theorem B228_23 {x : List Int} {d : Nat} {s : zSt} {Q : zQ} {x1 : Int} {x2 : Int} {x3 : Int}  (h : (99 < x3 → zJ x d 228 47 [some (.inr (.inl 42)), some (.inl x1), some (.inl x2), some (.inl x3)] [] s Q) ∧ (¬ (99 < x3) → zE x d 212 [.inr (.inl 42), .inl x1, .inl x3] s (fun r s1 => zJ x d 228 35 [some (.inr (.inl 42)), some (.inl x1), some (.inl x2), some (.inl x3)] (zAp r []) s1 Q))) : zJ x d 228 23 [some (.inr (.inl 42)), some (.inl x1), some (.inl x2), some (.inl x3)] [] s Q := zJ_of (b := b228_23) (by rw [kBlk, kb_228]; rfl) h
set_option maxRecDepth 100000 in
theorem B228_35 {x : List Int} {d : Nat} {s : zSt} {Q : zQ} {x1 : Int} {x2 : Int} {x3 : Int} {y0 : Int}  (h : (y0 < x2 → zJ x d 228 41 [some (.inr (.inl 42)), some (.inl x1), some (.inl x2), some (.inl x3)] [] s Q) ∧ (¬ (y0 < x2) → Q (some (.inl x3)) s)) : zJ x d 228 35 [some (.inr (.inl 42)), some (.inl x1), some (.inl x2), some (.inl x3)] [.inl y0] s Q := zJ_of (b := b228_35) (by rw [kBlk, kb_228]; rfl) h
set_option maxRecDepth 100000 in
theorem B228_41 {x : List Int} {d : Nat} {s : zSt} {Q : zQ} {x1 : Int} {x2 : Int} {x3 : Int}  (h : zJ x d 228 23 [some (.inr (.inl 42)), some (.inl x1), some (.inl x2), some (.inl (wr (x3 + 1)))] [] s Q) : zJ x d 228 41 [some (.inr (.inl 42)), some (.inl x1), some (.inl x2), some (.inl x3)] [] s Q := zJ_of (b := b228_41) (by rw [kBlk, kb_228]; rfl) h
set_option maxRecDepth 100000 in
theorem B228_47 {x : List Int} {d : Nat} {s : zSt} {Q : zQ} {x1 : Int} {x2 : Int} {x3 : Int}  (h : Q (some (.inl (-2))) s) : zJ x d 228 47 [some (.inr (.inl 42)), some (.inl x1), some (.inl x2), some (.inl x3)] [] s Q := zJ_of (b := b228_47) (by rw [kBlk, kb_228]; rfl) h
set_option maxRecDepth 100000 in
theorem N228 {x : List Int} {d : Nat} {s : zSt} {Q : zQ} {x1 : Int} {x2 : Int} (h : zJ x d 228 0 [some (.inr (.inl 42)), some (.inl x1), some (.inl x2), none] [] s Q) : zE x (d + 1) 228 [.inr (.inl 42), .inl x1, .inl x2] s Q := zE_of (n := 4) rfl rfl rfl rfl (fun h => (zLok_some (h _ (List.mem_of_getElem? (i := 0) rfl)) (zLok_some (h _ (List.mem_of_getElem? (i := 1) rfl)) (zLok_some (h _ (List.mem_of_getElem? (i := 2) rfl)) (zLok_none zLok_nil))))) h
-- 229: PennyALapModel.top
set_option maxRecDepth 100000 in
theorem kb_229 : kBls.getD 229 [] = c229 := rfl
set_option maxRecDepth 100000 in
theorem B229_0 {x : List Int} {d : Nat} {s : zSt} {Q : zQ} {x1 : Int}  (h : zE x d 172 [.inr (.inl 42), .inl x1] s (fun r s1 => zJ x d 229 5 [some (.inr (.inl 42)), some (.inl x1), none, none] (zAp r []) s1 Q)) : zJ x d 229 0 [some (.inr (.inl 42)), some (.inl x1), none, none] [] s Q := zJ_of (b := b229_0) (by rw [kBlk, kb_229]; rfl) h
set_option maxRecDepth 100000 in
theorem B229_5 {x : List Int} {d : Nat} {s : zSt} {Q : zQ} {x1 : Int} {y0 : Int}  (h : (¬ y0 = 0 → zJ x d 229 10 [some (.inr (.inl 42)), some (.inl x1), none, none] [] s Q) ∧ (¬ (¬ y0 = 0) → Q (some (.inl (-1))) s)) : zJ x d 229 5 [some (.inr (.inl 42)), some (.inl x1), none, none] [.inl y0] s Q := zJ_of (b := b229_5) (by rw [kBlk, kb_229]; rfl) h
set_option maxRecDepth 100000 in
theorem B229_10 {x : List Int} {d : Nat} {s : zSt} {Q : zQ} {x1 : Int}  (h : zJ x d 229 14 [some (.inr (.inl 42)), some (.inl x1), some (.inl 0), some (.inl 0)] [] s Q) : zJ x d 229 10 [some (.inr (.inl 42)), some (.inl x1), none, none] [] s Q := zJ_of (b := b229_10) (by rw [kBlk, kb_229]; rfl) h
set_option maxRecDepth 100000 in
theorem B229_14 {x : List Int} {d : Nat} {s : zSt} {Q : zQ} {x1 : Int} {x2 : Int} {x3 : Int}  (h : (99 < x3 → zJ x d 229 43 [some (.inr (.inl 42)), some (.inl x1), some (.inl x2), some (.inl x3)] [] s Q) ∧ (¬ (99 < x3) → zE x d 211 [.inr (.inl 42), .inl x1, .inl x3] s (fun r s1 => zJ x d 229 26 [some (.inr (.inl 42)), some (.inl x1), some (.inl x2), some (.inl x3)] (zAp r []) s1 Q))) : zJ x d 229 14 [some (.inr (.inl 42)), some (.inl x1), some (.inl x2), some (.inl x3)] [] s Q := zJ_of (b := b229_14) (by rw [kBlk, kb_229]; rfl) h
set_option maxRecDepth 100000 in
theorem B229_26 {x : List Int} {d : Nat} {s : zSt} {Q : zQ} {x1 : Int} {x2 : Int} {x3 : Int} {y0 : Int}  (h : (y0 ≤ x2 → zJ x d 229 37 [some (.inr (.inl 42)), some (.inl x1), some (.inl x2), some (.inl x3)] [] s Q) ∧ (¬ (y0 ≤ x2) → zE x d 211 [.inr (.inl 42), .inl x1, .inl x3] s (fun r s1 => zJ x d 229 36 [some (.inr (.inl 42)), some (.inl x1), some (.inl x2), some (.inl x3)] (zAp r []) s1 Q))) : zJ x d 229 26 [some (.inr (.inl 42)), some (.inl x1), some (.inl x2), some (.inl x3)] [.inl y0] s Q := zJ_of (b := b229_26) (by rw [kBlk, kb_229]; rfl) h
set_option maxRecDepth 100000 in
theorem B229_36 {x : List Int} {d : Nat} {s : zSt} {Q : zQ} {x1 : Int} {x2 : Int} {x3 : Int} {y0 : Int}  (h : zJ x d 229 37 [some (.inr (.inl 42)), some (.inl x1), some (.inl y0), some (.inl x3)] [] s Q) : zJ x d 229 36 [some (.inr (.inl 42)), some (.inl x1), some (.inl x2), some (.inl x3)] [.inl y0] s Q := zJ_of (b := b229_36) (by rw [kBlk, kb_229]; rfl) h
set_option maxRecDepth 100000 in
theorem B229_37 {x : List Int} {d : Nat} {s : zSt} {Q : zQ} {x1 : Int} {x2 : Int} {x3 : Int}  (h : zJ x d 229 14 [some (.inr (.inl 42)), some (.inl x1), some (.inl x2), some (.inl (wr (x3 + 1)))] [] s Q) : zJ x d 229 37 [some (.inr (.inl 42)), some (.inl x1), some (.inl x2), some (.inl x3)] [] s Q := zJ_of (b := b229_37) (by rw [kBlk, kb_229]; rfl) h
set_option maxRecDepth 100000 in
theorem B229_43 {x : List Int} {d : Nat} {s : zSt} {Q : zQ} {x1 : Int} {x2 : Int} {x3 : Int}  (h : (0 : Int) ≤ x1 ∧ (x1 : Int) < 16 ∧ ((s 52 (x1).toNat < x2 → zJ x d 229 55 [some (.inr (.inl 42)), some (.inl x1), some (.inl x2), some (.inl x3)] [] s Q) ∧ (¬ (s 52 (x1).toNat < x2) → Q (some (.inl 0)) s))) : zJ x d 229 43 [some (.inr (.inl 42)), some (.inl x1), some (.inl x2), some (.inl x3)] [] s Q := zJ_of (b := b229_43) (by rw [kBlk, kb_229]; rfl) h
set_option maxRecDepth 100000 in
theorem B229_55 {x : List Int} {d : Nat} {s : zSt} {Q : zQ} {x1 : Int} {x2 : Int} {x3 : Int}  (h : (0 : Int) ≤ x1 ∧ (x1 : Int) < 16 ∧ ((1 ≤ s 52 (x1).toNat → zJ x d 229 69 [some (.inr (.inl 42)), some (.inl x1), some (.inl x2), some (.inl x3)] [] s Q) ∧ (¬ (1 ≤ s 52 (x1).toNat) → zJ x d 229 75 [some (.inr (.inl 42)), some (.inl x1), some (.inl x2), some (.inl x3)] [.inl 1] s Q))) : zJ x d 229 55 [some (.inr (.inl 42)), some (.inl x1), some (.inl x2), some (.inl x3)] [] s Q := zJ_of (b := b229_55) (by rw [kBlk, kb_229]; rfl) h
set_option maxRecDepth 100000 in
theorem B229_69 {x : List Int} {d : Nat} {s : zSt} {Q : zQ} {x1 : Int} {x2 : Int} {x3 : Int}  (h : (0 : Int) ≤ x1 ∧ (x1 : Int) < 16 ∧ (zJ x d 229 75 [some (.inr (.inl 42)), some (.inl x1), some (.inl x2), some (.inl x3)] [.inl (s 52 (x1).toNat)] s Q)) : zJ x d 229 69 [some (.inr (.inl 42)), some (.inl x1), some (.inl x2), some (.inl x3)] [] s Q := zJ_of (b := b229_69) (by rw [kBlk, kb_229]; rfl) h
set_option maxRecDepth 100000 in
theorem B229_75 {x : List Int} {d : Nat} {s : zSt} {Q : zQ} {x1 : Int} {x2 : Int} {x3 : Int} {y0 : Int}  (h : Q (some (.inl y0)) s) : zJ x d 229 75 [some (.inr (.inl 42)), some (.inl x1), some (.inl x2), some (.inl x3)] [.inl y0] s Q := zJ_of (b := b229_75) (by rw [kBlk, kb_229]; rfl) h
set_option maxRecDepth 100000 in
theorem N229 {x : List Int} {d : Nat} {s : zSt} {Q : zQ} {x1 : Int} (h : zJ x d 229 0 [some (.inr (.inl 42)), some (.inl x1), none, none] [] s Q) : zE x (d + 1) 229 [.inr (.inl 42), .inl x1] s Q := zE_of (n := 4) rfl rfl rfl rfl (fun h => (zLok_some (h _ (List.mem_of_getElem? (i := 0) rfl)) (zLok_some (h _ (List.mem_of_getElem? (i := 1) rfl)) (zLok_none (zLok_none zLok_nil))))) h
-- 230: PennyALapModel.howLong
set_option maxRecDepth 100000 in
theorem kb_230 : kBls.getD 230 [] = c230 := rfl
set_option maxRecDepth 100000 in
theorem B230_0 {x : List Int} {d : Nat} {s : zSt} {Q : zQ} {x1 : Int}  (h : zE x d 170 [.inl x1, .inl 0, .inl 99999] s (fun r s1 => zJ x d 230 8 [some (.inr (.inl 42)), some (.inl x1), none] (zAp r []) s1 Q)) : zJ x d 230 0 [some (.inr (.inl 42)), some (.inl x1), none] [] s Q := zJ_of (b := b230_0) (by rw [kBlk, kb_230]; rfl) h
set_option maxRecDepth 100000 in
theorem B230_8 {x : List Int} {d : Nat} {s : zSt} {Q : zQ} {x1 : Int} {y0 : Int}  (h : (¬ y0 = 0 → zJ x d 230 13 [some (.inr (.inl 42)), some (.inl x1), none] [] s Q) ∧ (¬ (¬ y0 = 0) → Q (some (.inl (-1))) s)) : zJ x d 230 8 [some (.inr (.inl 42)), some (.inl x1), none] [.inl y0] s Q := zJ_of (b := b230_8) (by rw [kBlk, kb_230]; rfl) h
set_option maxRecDepth 100000 in
theorem B230_13 {x : List Int} {d : Nat} {s : zSt} {Q : zQ} {x1 : Int}  (h : zJ x d 230 15 [some (.inr (.inl 42)), some (.inl x1), some (.inl 0)] [] s Q) : zJ x d 230 13 [some (.inr (.inl 42)), some (.inl x1), none] [] s Q := zJ_of (b := b230_13) (by rw [kBlk, kb_230]; rfl) h
set_option maxRecDepth 100000 in
theorem B230_15 {x : List Int} {d : Nat} {s : zSt} {Q : zQ} {x1 : Int} {x2 : Int}  (h : (999 < x2 → zJ x d 230 43 [some (.inr (.inl 42)), some (.inl x1), some (.inl x2)] [] s Q) ∧ (¬ (999 < x2) → zE x d 217 [.inr (.inl 42), .inl x2] s (fun r s1 => zJ x d 230 27 [some (.inr (.inl 42)), some (.inl x1), some (.inl x2)] (zAp r []) s1 Q))) : zJ x d 230 15 [some (.inr (.inl 42)), some (.inl x1), some (.inl x2)] [] s Q := zJ_of (b := b230_15) (by rw [kBlk, kb_230]; rfl) h
set_option maxRecDepth 100000 in
theorem B230_27 {x : List Int} {d : Nat} {s : zSt} {Q : zQ} {x1 : Int} {x2 : Int}  (h : zE x d 220 [.inr (.inl 42)] s (fun r s1 => zJ x d 230 31 [some (.inr (.inl 42)), some (.inl x1), some (.inl x2)] (zAp r []) s1 Q)) : zJ x d 230 27 [some (.inr (.inl 42)), some (.inl x1), some (.inl x2)] [] s Q := zJ_of (b := b230_27) (by rw [kBlk, kb_230]; rfl) h
set_option maxRecDepth 100000 in
theorem B230_31 {x : List Int} {d : Nat} {s : zSt} {Q : zQ} {x1 : Int} {x2 : Int} {y0 : Int}  (h : (y0 < x1 → zJ x d 230 37 [some (.inr (.inl 42)), some (.inl x1), some (.inl x2)] [] s Q) ∧ (¬ (y0 < x1) → Q (some (.inl x2)) s)) : zJ x d 230 31 [some (.inr (.inl 42)), some (.inl x1), some (.inl x2)] [.inl y0] s Q := zJ_of (b := b230_31) (by rw [kBlk, kb_230]; rfl) h
set_option maxRecDepth 100000 in
theorem B230_37 {x : List Int} {d : Nat} {s : zSt} {Q : zQ} {x1 : Int} {x2 : Int}  (h : zJ x d 230 15 [some (.inr (.inl 42)), some (.inl x1), some (.inl (wr (x2 + 1)))] [] s Q) : zJ x d 230 37 [some (.inr (.inl 42)), some (.inl x1), some (.inl x2)] [] s Q := zJ_of (b := b230_37) (by rw [kBlk, kb_230]; rfl) h
set_option maxRecDepth 100000 in
theorem B230_43 {x : List Int} {d : Nat} {s : zSt} {Q : zQ} {x1 : Int} {x2 : Int}  (h : Q (some (.inl (-2))) s) : zJ x d 230 43 [some (.inr (.inl 42)), some (.inl x1), some (.inl x2)] [] s Q := zJ_of (b := b230_43) (by rw [kBlk, kb_230]; rfl) h
set_option maxRecDepth 100000 in
theorem N230 {x : List Int} {d : Nat} {s : zSt} {Q : zQ} {x1 : Int} (h : zJ x d 230 0 [some (.inr (.inl 42)), some (.inl x1), none] [] s Q) : zE x (d + 1) 230 [.inr (.inl 42), .inl x1] s Q := zE_of (n := 3) rfl rfl rfl rfl (fun h => (zLok_some (h _ (List.mem_of_getElem? (i := 0) rfl)) (zLok_some (h _ (List.mem_of_getElem? (i := 1) rfl)) (zLok_none zLok_nil)))) h
-- 231: PennyALapModel.partFrom
set_option maxRecDepth 100000 in
theorem kb_231 : kBls.getD 231 [] = c231 := rfl
set_option maxRecDepth 100000 in
theorem B231_0 {x : List Int} {d : Nat} {s : zSt} {Q : zQ} {x1 : Int}  (h : zJ x d 231 2 [some (.inr (.inl 42)), some (.inl x1), some (.inl 0), none, none, none, none, none, none, none] [] s Q) : zJ x d 231 0 [some (.inr (.inl 42)), some (.inl x1), none, none, none, none, none, none, none, none] [] s Q := zJ_of (b := b231_0) (by rw [kBlk, kb_231]; rfl) h
set_option maxRecDepth 100000 in
theorem B231_2 {x : List Int} {d : Nat} {s : zSt} {Q : zQ} {x1 : Int} {x2 : Int} {o3 : Option zV} {o4 : Option zV} {o5 : Option zV} {o6 : Option zV} {o7 : Option zV} {o8 : Option zV} {o9 : Option zV}  (h : (300 < x2 → zJ x d 231 182 [some (.inr (.inl 42)), some (.inl x1), some (.inl x2), o3, o4, o5, o6, o7, o8, o9] [] s Q) ∧ (¬ (300 < x2) → zJ x d 231 17 [some (.inr (.inl 42)), some (.inl x1), some (.inl x2), some (.inl (-1)), some (.inl 0), some (.inl 0), o6, o7, o8, o9] [] s Q)) : zJ x d 231 2 [some (.inr (.inl 42)), some (.inl x1), some (.inl x2), o3, o4, o5, o6, o7, o8, o9] [] s Q := zJ_of (b := b231_2) (by rw [kBlk, kb_231]; rfl) h
set_option maxRecDepth 100000 in
theorem B231_17 {x : List Int} {d : Nat} {s : zSt} {Q : zQ} {x1 : Int} {x2 : Int} {x3 : Int} {x4 : Int} {x5 : Int} {o6 : Option zV} {o7 : Option zV} {o8 : Option zV} {o9 : Option zV}  (h : (0 : Int) ≤ x1 ∧ (x1 : Int) < 6 ∧ ((s 45 (x1).toNat < x5 → zJ x d 231 176 [some (.inr (.inl 42)), some (.inl x1), some (.inl x2), some (.inl x3), some (.inl x4), some (.inl x5), o6, o7, o8, o9] [] s Q) ∧ (¬ (s 45 (x1).toNat < x5) → (x2 < x4 → zJ x d 231 176 [some (.inr (.inl 42)), some (.inl x1), some (.inl x2), some (.inl x3), some (.inl x4), some (.inl x5), o6, o7, o8, o9] [] s Q) ∧ (¬ (x2 < x4) → zE x d 216 [.inr (.inl 42), .inl x1, .inl x5] s (fun r s1 => zJ x d 231 55 [some (.inr (.inl 42)), some (.inl x1), some (.inl x2), some (.inl x3), some (.inl x4), some (.inl x5), some (.inl (wr ((wr ((wr (301 * (wr (x1 + 1)))) + x2)) - x4))), o7, o8, o9] (zAp r []) s1 Q))))) : zJ x d 231 17 [some (.inr (.inl 42)), some (.inl x1), some (.inl x2), some (.inl x3), some (.inl x4), some (.inl x5), o6, o7, o8, o9] [] s Q := zJ_of (b := b231_17) (by rw [kBlk, kb_231]; rfl) h
set_option maxRecDepth 100000 in
theorem B231_55 {x : List Int} {d : Nat} {s : zSt} {Q : zQ} {x1 : Int} {x2 : Int} {x3 : Int} {x4 : Int} {x5 : Int} {x6 : Int} {o7 : Option zV} {o8 : Option zV} {o9 : Option zV} {y0 : Int}  (h : (0 : Int) ≤ x6 ∧ (x6 : Int) < 2107 ∧ ((0 : Int) ≤ x6 ∧ (x6 : Int) < 2107 ∧ ((x3 < 0 → zJ x d 231 126 [some (.inr (.inl 42)), some (.inl x1), some (.inl x2), some (.inl x3), some (.inl x4), some (.inl x5), some (.inl x6), some (.inl (wr (y0 + (s 66 (x6).toNat)))), some (.inl (wr (x4 + (s 67 (x6).toNat)))), some (.inl (wr ((wr (301 * x1)) + x2)))] [] s Q) ∧ (¬ (x3 < 0) → (0 : Int) ≤ wr ((wr (301 * x1)) + x2) ∧ (wr ((wr (301 * x1)) + x2) : Int) < 2107 ∧ ((s 66 (wr ((wr (301 * x1)) + x2)).toNat < wr (y0 + (s 66 (x6).toNat)) → zJ x d 231 126 [some (.inr (.inl 42)), some (.inl x1), some (.inl x2), some (.inl x3), some (.inl x4), some (.inl x5), some (.inl x6), some (.inl (wr (y0 + (s 66 (x6).toNat)))), some (.inl (wr (x4 + (s 67 (x6).toNat)))), some (.inl (wr ((wr (301 * x1)) + x2)))] [] s Q) ∧ (¬ (s 66 (wr ((wr (301 * x1)) + x2)).toNat < wr (y0 + (s 66 (x6).toNat))) → (0 : Int) ≤ wr ((wr (301 * x1)) + x2) ∧ (wr ((wr (301 * x1)) + x2) : Int) < 2107 ∧ ((¬ wr (y0 + (s 66 (x6).toNat)) = s 66 (wr ((wr (301 * x1)) + x2)).toNat → zJ x d 231 156 [some (.inr (.inl 42)), some (.inl x1), some (.inl x2), some (.inl x3), some (.inl x4), some (.inl x5), some (.inl x6), some (.inl (wr (y0 + (s 66 (x6).toNat)))), some (.inl (wr (x4 + (s 67 (x6).toNat)))), some (.inl (wr ((wr (301 * x1)) + x2)))] [] s Q) ∧ (¬ (¬ wr (y0 + (s 66 (x6).toNat)) = s 66 (wr ((wr (301 * x1)) + x2)).toNat) → (0 : Int) ≤ wr ((wr (301 * x1)) + x2) ∧ (wr ((wr (301 * x1)) + x2) : Int) < 2107 ∧ ((s 67 (wr ((wr (301 * x1)) + x2)).toNat ≤ wr (x4 + (s 67 (x6).toNat)) → zJ x d 231 156 [some (.inr (.inl 42)), some (.inl x1), some (.inl x2), some (.inl x3), some (.inl x4), some (.inl x5), some (.inl x6), some (.inl (wr (y0 + (s 66 (x6).toNat)))), some (.inl (wr (x4 + (s 67 (x6).toNat)))), some (.inl (wr ((wr (301 * x1)) + x2)))] [] s Q) ∧ (¬ (s 67 (wr ((wr (301 * x1)) + x2)).toNat ≤ wr (x4 + (s 67 (x6).toNat))) → zJ x d 231 126 [some (.inr (.inl 42)), some (.inl x1), some (.inl x2), some (.inl x3), some (.inl x4), some (.inl x5), some (.inl x6), some (.inl (wr (y0 + (s 66 (x6).toNat)))), some (.inl (wr (x4 + (s 67 (x6).toNat)))), some (.inl (wr ((wr (301 * x1)) + x2)))] [] s Q)))))))))) : zJ x d 231 55 [some (.inr (.inl 42)), some (.inl x1), some (.inl x2), some (.inl x3), some (.inl x4), some (.inl x5), some (.inl x6), o7, o8, o9] [.inl y0] s Q := zJ_of (b := b231_55) (by rw [kBlk, kb_231]; rfl) h
set_option maxRecDepth 100000 in
theorem B231_126 {x : List Int} {d : Nat} {s : zSt} {Q : zQ} {x1 : Int} {x2 : Int} {x3 : Int} {x4 : Int} {x5 : Int} {x6 : Int} {x7 : Int} {x8 : Int} {x9 : Int}  (h : (0 : Int) ≤ x9 ∧ (x9 : Int) < 2107 ∧ ((0 : Int) ≤ x9 ∧ (x9 : Int) < 2107 ∧ ((0 : Int) ≤ x9 ∧ (x9 : Int) < 2107 ∧ (zJ x d 231 156 [some (.inr (.inl 42)), some (.inl x1), some (.inl x2), some (.inl x5), some (.inl x4), some (.inl x5), some (.inl x6), some (.inl x7), some (.inl x8), some (.inl x9)] [] (zU (zU (zU s 66 (x9).toNat x7) 67 (x9).toNat x8) 68 (x9).toNat x5) Q)))) : zJ x d 231 126 [some (.inr (.inl 42)), some (.inl x1), some (.inl x2), some (.inl x3), some (.inl x4), some (.inl x5), some (.inl x6), some (.inl x7), some (.inl x8), some (.inl x9)] [] s Q := zJ_of (b := b231_126) (by rw [kBlk, kb_231]; rfl) h
set_option maxRecDepth 100000 in
theorem B231_156 {x : List Int} {d : Nat} {s : zSt} {Q : zQ} {x1 : Int} {x2 : Int} {x3 : Int} {x4 : Int} {x5 : Int} {x6 : Int} {x7 : Int} {x8 : Int} {x9 : Int}  (h : zE x d 205 [.inr (.inl 42), .inl x1, .inl x5, .inl x4] s (fun r s1 => zJ x d 231 167 [some (.inr (.inl 42)), some (.inl x1), some (.inl x2), some (.inl x3), some (.inl x4), some (.inl x5), some (.inl x6), some (.inl x7), some (.inl x8), some (.inl x9)] (zAp r [.inl x4]) s1 Q)) : zJ x d 231 156 [some (.inr (.inl 42)), some (.inl x1), some (.inl x2), some (.inl x3), some (.inl x4), some (.inl x5), some (.inl x6), some (.inl x7), some (.inl x8), some (.inl x9)] [] s Q := zJ_of (b := b231_156) (by rw [kBlk, kb_231]; rfl) h
set_option maxRecDepth 100000 in
theorem B231_167 {x : List Int} {d : Nat} {s : zSt} {Q : zQ} {x1 : Int} {x2 : Int} {x3 : Int} {x4 : Int} {x5 : Int} {x6 : Int} {x7 : Int} {x8 : Int} {x9 : Int} {y0 : Int} {y1 : Int}  (h : zJ x d 231 17 [some (.inr (.inl 42)), some (.inl x1), some (.inl x2), some (.inl x3), some (.inl (wr (y1 + y0))), some (.inl (wr (x5 + 1))), some (.inl x6), some (.inl x7), some (.inl x8), some (.inl x9)] [] s Q) : zJ x d 231 167 [some (.inr (.inl 42)), some (.inl x1), some (.inl x2), some (.inl x3), some (.inl x4), some (.inl x5), some (.inl x6), some (.inl x7), some (.inl x8), some (.inl x9)] [.inl y0, .inl y1] s Q := zJ_of (b := b231_167) (by rw [kBlk, kb_231]; rfl) h
set_option maxRecDepth 100000 in
theorem B231_176 {x : List Int} {d : Nat} {s : zSt} {Q : zQ} {x1 : Int} {x2 : Int} {x3 : Int} {x4 : Int} {x5 : Int} {o6 : Option zV} {o7 : Option zV} {o8 : Option zV} {o9 : Option zV}  (h : zJ x d 231 2 [some (.inr (.inl 42)), some (.inl x1), some (.inl (wr (x2 + 1))), some (.inl x3), some (.inl x4), some (.inl x5), o6, o7, o8, o9] [] s Q) : zJ x d 231 176 [some (.inr (.inl 42)), some (.inl x1), some (.inl x2), some (.inl x3), some (.inl x4), some (.inl x5), o6, o7, o8, o9] [] s Q := zJ_of (b := b231_176) (by rw [kBlk, kb_231]; rfl) h
set_option maxRecDepth 100000 in
theorem B231_182 {x : List Int} {d : Nat} {s : zSt} {Q : zQ} {x1 : Int} {x2 : Int} {o3 : Option zV} {o4 : Option zV} {o5 : Option zV} {o6 : Option zV} {o7 : Option zV} {o8 : Option zV} {o9 : Option zV}  (h : Q none s) : zJ x d 231 182 [some (.inr (.inl 42)), some (.inl x1), some (.inl x2), o3, o4, o5, o6, o7, o8, o9] [] s Q := zJ_of (b := b231_182) (by rw [kBlk, kb_231]; rfl) h
set_option maxRecDepth 100000 in
theorem N231 {x : List Int} {d : Nat} {s : zSt} {Q : zQ} {x1 : Int} (h : zJ x d 231 0 [some (.inr (.inl 42)), some (.inl x1), none, none, none, none, none, none, none, none] [] s Q) : zE x (d + 1) 231 [.inr (.inl 42), .inl x1] s Q := zE_of (n := 10) rfl rfl rfl rfl (fun h => (zLok_some (h _ (List.mem_of_getElem? (i := 0) rfl)) (zLok_some (h _ (List.mem_of_getElem? (i := 1) rfl)) (zLok_none (zLok_none (zLok_none (zLok_none (zLok_none (zLok_none (zLok_none (zLok_none zLok_nil))))))))))) h
-- 232: PennyALapModel.field
set_option maxRecDepth 100000 in
theorem kb_232 : kBls.getD 232 [] = c232 := rfl
set_option maxRecDepth 100000 in
theorem B232_0 {x : List Int} {d : Nat} {s : zSt} {Q : zQ} {x1 : Int} {x2 : Int}  (h : zE x d 170 [.inl x1, .inl 0, .inl 300] s (fun r s1 => zJ x d 232 8 [some (.inr (.inl 42)), some (.inl x1), some (.inl x2), none, none] (zAp r []) s1 Q)) : zJ x d 232 0 [some (.inr (.inl 42)), some (.inl x1), some (.inl x2), none, none] [] s Q := zJ_of (b := b232_0) (by rw [kBlk, kb_232]; rfl) h
set_option maxRecDepth 100000 in
theorem B232_8 {x : List Int} {d : Nat} {s : zSt} {Q : zQ} {x1 : Int} {x2 : Int} {y0 : Int}  (h : (y0 = 0 → zJ x d 232 26 [some (.inr (.inl 42)), some (.inl x1), some (.inl x2), none, none] [] s Q) ∧ (¬ (y0 = 0) → zE x d 170 [.inl x2, .inl (-2), .inl (wr ((s 42 1) - 1))] s (fun r s1 => zJ x d 232 23 [some (.inr (.inl 42)), some (.inl x1), some (.inl x2), none, none] (zAp r []) s1 Q))) : zJ x d 232 8 [some (.inr (.inl 42)), some (.inl x1), some (.inl x2), none, none] [.inl y0] s Q := zJ_of (b := b232_8) (by rw [kBlk, kb_232]; rfl) h
set_option maxRecDepth 100000 in
theorem B232_23 {x : List Int} {d : Nat} {s : zSt} {Q : zQ} {x1 : Int} {x2 : Int} {y0 : Int}  (h : (¬ y0 = 0 → zJ x d 232 28 [some (.inr (.inl 42)), some (.inl x1), some (.inl x2), none, none] [] s Q) ∧ (¬ (¬ y0 = 0) → zJ x d 232 26 [some (.inr (.inl 42)), some (.inl x1), some (.inl x2), none, none] [] s Q)) : zJ x d 232 23 [some (.inr (.inl 42)), some (.inl x1), some (.inl x2), none, none] [.inl y0] s Q := zJ_of (b := b232_23) (by rw [kBlk, kb_232]; rfl) h
set_option maxRecDepth 100000 in
theorem B232_26 {x : List Int} {d : Nat} {s : zSt} {Q : zQ} {x1 : Int} {x2 : Int}  (h : Q (some (.inl (-1))) s) : zJ x d 232 26 [some (.inr (.inl 42)), some (.inl x1), some (.inl x2), none, none] [] s Q := zJ_of (b := b232_26) (by rw [kBlk, kb_232]; rfl) h
set_option maxRecDepth 100000 in
theorem B232_28 {x : List Int} {d : Nat} {s : zSt} {Q : zQ} {x1 : Int} {x2 : Int}  (h : zJ x d 232 30 [some (.inr (.inl 42)), some (.inl x1), some (.inl x2), some (.inl 0), none] [] s Q) : zJ x d 232 28 [some (.inr (.inl 42)), some (.inl x1), some (.inl x2), none, none] [] s Q := zJ_of (b := b232_28) (by rw [kBlk, kb_232]; rfl) h
set_option maxRecDepth 100000 in
theorem B232_30 {x : List Int} {d : Nat} {s : zSt} {Q : zQ} {x1 : Int} {x2 : Int} {x3 : Int}  (h : (300 < x3 → zJ x d 232 75 [some (.inr (.inl 42)), some (.inl x1), some (.inl x2), some (.inl x3), none] [] s Q) ∧ (¬ (300 < x3) → (0 : Int) ≤ wr ((wr (301 * (s 42 1))) + x3) ∧ (wr ((wr (301 * (s 42 1))) + x3) : Int) < 2107 ∧ ((0 : Int) ≤ wr ((wr (301 * (s 42 1))) + x3) ∧ (wr ((wr (301 * (s 42 1))) + x3) : Int) < 2107 ∧ (zJ x d 232 30 [some (.inr (.inl 42)), some (.inl x1), some (.inl x2), some (.inl (wr (x3 + 1))), none] [] (zU (zU s 66 (wr ((wr (301 * (s 42 1))) + x3)).toNat 0) 67 (wr ((wr (301 * (s 42 1))) + x3)).toNat 0) Q)))) : zJ x d 232 30 [some (.inr (.inl 42)), some (.inl x1), some (.inl x2), some (.inl x3), none] [] s Q := zJ_of (b := b232_30) (by rw [kBlk, kb_232]; rfl) h
set_option maxRecDepth 100000 in
theorem B232_75 {x : List Int} {d : Nat} {s : zSt} {Q : zQ} {x1 : Int} {x2 : Int} {x3 : Int}  (h : zJ x d 232 82 [some (.inr (.inl 42)), some (.inl x1), some (.inl x2), some (.inl (wr ((s 42 1) - 1))), none] [] s Q) : zJ x d 232 75 [some (.inr (.inl 42)), some (.inl x1), some (.inl x2), some (.inl x3), none] [] s Q := zJ_of (b := b232_75) (by rw [kBlk, kb_232]; rfl) h
set_option maxRecDepth 100000 in
theorem B232_82 {x : List Int} {d : Nat} {s : zSt} {Q : zQ} {x1 : Int} {x2 : Int} {x3 : Int}  (h : (x3 < 0 → zJ x d 232 97 [some (.inr (.inl 42)), some (.inl x1), some (.inl x2), some (.inl x3), none] [] s Q) ∧ (¬ (x3 < 0) → zE x d 231 [.inr (.inl 42), .inl x3] s (fun r s1 => zJ x d 232 91 [some (.inr (.inl 42)), some (.inl x1), some (.inl x2), some (.inl x3), none] (zAp r []) s1 Q))) : zJ x d 232 82 [some (.inr (.inl 42)), some (.inl x1), some (.inl x2), some (.inl x3), none] [] s Q := zJ_of (b := b232_82) (by rw [kBlk, kb_232]; rfl) h
set_option maxRecDepth 100000 in
theorem B232_91 {x : List Int} {d : Nat} {s : zSt} {Q : zQ} {x1 : Int} {x2 : Int} {x3 : Int}  (h : zJ x d 232 82 [some (.inr (.inl 42)), some (.inl x1), some (.inl x2), some (.inl (wr (x3 + (-1)))), none] [] s Q) : zJ x d 232 91 [some (.inr (.inl 42)), some (.inl x1), some (.inl x2), some (.inl x3), none] [] s Q := zJ_of (b := b232_91) (by rw [kBlk, kb_232]; rfl) h
set_option maxRecDepth 100000 in
theorem B232_97 {x : List Int} {d : Nat} {s : zSt} {Q : zQ} {x1 : Int} {x2 : Int} {x3 : Int}  (h : (¬ x2 = (-1) → zJ x d 232 109 [some (.inr (.inl 42)), some (.inl x1), some (.inl x2), some (.inl x3), none] [] s Q) ∧ (¬ (¬ x2 = (-1)) → (0 : Int) ≤ x1 ∧ (x1 : Int) < 2107 ∧ (Q (some (.inl (s 66 (x1).toNat))) s))) : zJ x d 232 97 [some (.inr (.inl 42)), some (.inl x1), some (.inl x2), some (.inl x3), none] [] s Q := zJ_of (b := b232_97) (by rw [kBlk, kb_232]; rfl) h
set_option maxRecDepth 100000 in
theorem B232_109 {x : List Int} {d : Nat} {s : zSt} {Q : zQ} {x1 : Int} {x2 : Int} {x3 : Int}  (h : (¬ x2 = (-2) → zJ x d 232 122 [some (.inr (.inl 42)), some (.inl x1), some (.inl x2), some (.inl x3), none] [] s Q) ∧ (¬ (¬ x2 = (-2)) → (0 : Int) ≤ x1 ∧ (x1 : Int) < 2107 ∧ (Q (some (.inl (s 67 (x1).toNat))) s))) : zJ x d 232 109 [some (.inr (.inl 42)), some (.inl x1), some (.inl x2), some (.inl x3), none] [] s Q := zJ_of (b := b232_109) (by rw [kBlk, kb_232]; rfl) h
set_option maxRecDepth 100000 in
theorem B232_122 {x : List Int} {d : Nat} {s : zSt} {Q : zQ} {x1 : Int} {x2 : Int} {x3 : Int}  (h : zJ x d 232 127 [some (.inr (.inl 42)), some (.inl x1), some (.inl x2), some (.inl x1), some (.inl 0)] [] s Q) : zJ x d 232 122 [some (.inr (.inl 42)), some (.inl x1), some (.inl x2), some (.inl x3), none] [] s Q := zJ_of (b := b232_122) (by rw [kBlk, kb_232]; rfl) h
set_option maxRecDepth 100000 in
theorem B232_127 {x : List Int} {d : Nat} {s : zSt} {Q : zQ} {x1 : Int} {x2 : Int} {x3 : Int} {x4 : Int}  (h : (x2 ≤ x4 → zJ x d 232 161 [some (.inr (.inl 42)), some (.inl x1), some (.inl x2), some (.inl x3), some (.inl x4)] [] s Q) ∧ (¬ (x2 ≤ x4) → (0 : Int) ≤ wr ((wr (301 * x4)) + x3) ∧ (wr ((wr (301 * x4)) + x3) : Int) < 2107 ∧ (zE x d 209 [.inr (.inl 42), .inl x4, .inl (s 68 (wr ((wr (301 * x4)) + x3)).toNat)] s (fun r s1 => zJ x d 232 153 [some (.inr (.inl 42)), some (.inl x1), some (.inl x2), some (.inl x3), some (.inl x4)] (zAp r [.inl x3]) s1 Q)))) : zJ x d 232 127 [some (.inr (.inl 42)), some (.inl x1), some (.inl x2), some (.inl x3), some (.inl x4)] [] s Q := zJ_of (b := b232_127) (by rw [kBlk, kb_232]; rfl) h
set_option maxRecDepth 100000 in
theorem B232_153 {x : List Int} {d : Nat} {s : zSt} {Q : zQ} {x1 : Int} {x2 : Int} {x3 : Int} {x4 : Int} {y0 : Int} {y1 : Int}  (h : zJ x d 232 127 [some (.inr (.inl 42)), some (.inl x1), some (.inl x2), some (.inl (wr (y1 - y0))), some (.inl (wr (x4 + 1)))] [] s Q) : zJ x d 232 153 [some (.inr (.inl 42)), some (.inl x1), some (.inl x2), some (.inl x3), some (.inl x4)] [.inl y0, .inl y1] s Q := zJ_of (b := b232_153) (by rw [kBlk, kb_232]; rfl) h
set_option maxRecDepth 100000 in
theorem B232_161 {x : List Int} {d : Nat} {s : zSt} {Q : zQ} {x1 : Int} {x2 : Int} {x3 : Int} {x4 : Int}  (h : (0 : Int) ≤ wr ((wr (301 * x2)) + x3) ∧ (wr ((wr (301 * x2)) + x3) : Int) < 2107 ∧ (Q (some (.inl (s 68 (wr ((wr (301 * x2)) + x3)).toNat))) s)) : zJ x d 232 161 [some (.inr (.inl 42)), some (.inl x1), some (.inl x2), some (.inl x3), some (.inl x4)] [] s Q := zJ_of (b := b232_161) (by rw [kBlk, kb_232]; rfl) h
set_option maxRecDepth 100000 in
theorem N232 {x : List Int} {d : Nat} {s : zSt} {Q : zQ} {x1 : Int} {x2 : Int} (h : zJ x d 232 0 [some (.inr (.inl 42)), some (.inl x1), some (.inl x2), none, none] [] s Q) : zE x (d + 1) 232 [.inr (.inl 42), .inl x1, .inl x2] s Q := zE_of (n := 5) rfl rfl rfl rfl (fun h => (zLok_some (h _ (List.mem_of_getElem? (i := 0) rfl)) (zLok_some (h _ (List.mem_of_getElem? (i := 1) rfl)) (zLok_some (h _ (List.mem_of_getElem? (i := 2) rfl)) (zLok_none (zLok_none zLok_nil)))))) h
-- 233: PennyALapModel.rowFault
set_option maxRecDepth 100000 in
theorem kb_233 : kBls.getD 233 [] = c233 := rfl
set_option maxRecDepth 100000 in
theorem B233_0 {x : List Int} {d : Nat} {s : zSt} {Q : zQ} {x1 : Int} {x2 : Int}  (h : (0 : Int) ≤ x1 ∧ (x1 : Int) < 6 ∧ ((¬ s 79 (x1).toNat = (-1) → zJ x d 233 15 [some (.inr (.inl 42)), some (.inl x1), some (.inl x2)] [] s Q) ∧ (¬ (¬ s 79 (x1).toNat = (-1)) → zJ x d 233 34 [some (.inr (.inl 42)), some (.inl x1), some (.inl x2)] [.inl (-11)] s Q))) : zJ x d 233 0 [some (.inr (.inl 42)), some (.inl x1), some (.inl x2)] [] s Q := zJ_of (b := b233_0) (by rw [kBlk, kb_233]; rfl) h
set_option maxRecDepth 100000 in
theorem B233_15 {x : List Int} {d : Nat} {s : zSt} {Q : zQ} {x1 : Int} {x2 : Int}  (h : (0 : Int) ≤ x1 ∧ (x1 : Int) < 6 ∧ ((¬ s 79 (x1).toNat = wr ((-2) - x2) → zJ x d 233 32 [some (.inr (.inl 42)), some (.inl x1), some (.inl x2)] [] s Q) ∧ (¬ (¬ s 79 (x1).toNat = wr ((-2) - x2)) → zJ x d 233 34 [some (.inr (.inl 42)), some (.inl x1), some (.inl x2)] [.inl 0] s Q))) : zJ x d 233 15 [some (.inr (.inl 42)), some (.inl x1), some (.inl x2)] [] s Q := zJ_of (b := b233_15) (by rw [kBlk, kb_233]; rfl) h
set_option maxRecDepth 100000 in
theorem B233_32 {x : List Int} {d : Nat} {s : zSt} {Q : zQ} {x1 : Int} {x2 : Int}  (h : zJ x d 233 34 [some (.inr (.inl 42)), some (.inl x1), some (.inl x2)] [.inl (-12)] s Q) : zJ x d 233 32 [some (.inr (.inl 42)), some (.inl x1), some (.inl x2)] [] s Q := zJ_of (b := b233_32) (by rw [kBlk, kb_233]; rfl) h
set_option maxRecDepth 100000 in
theorem B233_34 {x : List Int} {d : Nat} {s : zSt} {Q : zQ} {x1 : Int} {x2 : Int} {y0 : Int}  (h : Q (some (.inl y0)) s) : zJ x d 233 34 [some (.inr (.inl 42)), some (.inl x1), some (.inl x2)] [.inl y0] s Q := zJ_of (b := b233_34) (by rw [kBlk, kb_233]; rfl) h
set_option maxRecDepth 100000 in
theorem N233 {x : List Int} {d : Nat} {s : zSt} {Q : zQ} {x1 : Int} {x2 : Int} (h : zJ x d 233 0 [some (.inr (.inl 42)), some (.inl x1), some (.inl x2)] [] s Q) : zE x (d + 1) 233 [.inr (.inl 42), .inl x1, .inl x2] s Q := zE_of (n := 3) rfl rfl rfl rfl (fun h => (zLok_some (h _ (List.mem_of_getElem? (i := 0) rfl)) (zLok_some (h _ (List.mem_of_getElem? (i := 1) rfl)) (zLok_some (h _ (List.mem_of_getElem? (i := 2) rfl)) zLok_nil)))) h
-- 234: PennyALapModel.at
set_option maxRecDepth 100000 in
theorem kb_234 : kBls.getD 234 [] = c234 := rfl
set_option maxRecDepth 100000 in
theorem B234_0 {x : List Int} {d : Nat} {s : zSt} {Q : zQ} {x1 : Int} {x2 : Int}  (h : (0 : Int) ≤ wr ((wr (60 * x1)) + x2) ∧ (wr ((wr (60 * x1)) + x2) : Int) < 360 ∧ (Q (some (.inl (wr (s 81 (wr ((wr (60 * x1)) + x2)).toNat)))) s)) : zJ x d 234 0 [some (.inr (.inl 42)), some (.inl x1), some (.inl x2)] [] s Q := zJ_of (b := b234_0) (by rw [kBlk, kb_234]; rfl) h
set_option maxRecDepth 100000 in
theorem N234 {x : List Int} {d : Nat} {s : zSt} {Q : zQ} {x1 : Int} {x2 : Int} (h : zJ x d 234 0 [some (.inr (.inl 42)), some (.inl x1), some (.inl x2)] [] s Q) : zE x (d + 1) 234 [.inr (.inl 42), .inl x1, .inl x2] s Q := zE_of (n := 3) rfl rfl rfl rfl (fun h => (zLok_some (h _ (List.mem_of_getElem? (i := 0) rfl)) (zLok_some (h _ (List.mem_of_getElem? (i := 1) rfl)) (zLok_some (h _ (List.mem_of_getElem? (i := 2) rfl)) zLok_nil)))) h
-- 235: PennyALapModel.isTold
set_option maxRecDepth 100000 in
theorem kb_235 : kBls.getD 235 [] = c235 := rfl
set_option maxRecDepth 100000 in
theorem B235_0 {x : List Int} {d : Nat} {s : zSt} {Q : zQ} {x1 : Int} {x2 : Int}  (h : zJ x d 235 2 [some (.inr (.inl 42)), some (.inl x1), some (.inl x2), some (.inl 0)] [] s Q) : zJ x d 235 0 [some (.inr (.inl 42)), some (.inl x1), some (.inl x2), none] [] s Q := zJ_of (b := b235_0) (by rw [kBlk, kb_235]; rfl) h
set_option maxRecDepth 100000 in
theorem B235_2 {x : List Int} {d : Nat} {s : zSt} {Q : zQ} {x1 : Int} {x2 : Int} {x3 : Int}  (h : (0 : Int) ≤ x1 ∧ (x1 : Int) < 6 ∧ ((s 80 (x1).toNat ≤ x3 → zJ x d 235 30 [some (.inr (.inl 42)), some (.inl x1), some (.inl x2), some (.inl x3)] [] s Q) ∧ (¬ (s 80 (x1).toNat ≤ x3) → zE x d 234 [.inr (.inl 42), .inl x1, .inl x3] s (fun r s1 => zJ x d 235 18 [some (.inr (.inl 42)), some (.inl x1), some (.inl x2), some (.inl x3)] (zAp r []) s1 Q)))) : zJ x d 235 2 [some (.inr (.inl 42)), some (.inl x1), some (.inl x2), some (.inl x3)] [] s Q := zJ_of (b := b235_2) (by rw [kBlk, kb_235]; rfl) h
set_option maxRecDepth 100000 in
theorem B235_18 {x : List Int} {d : Nat} {s : zSt} {Q : zQ} {x1 : Int} {x2 : Int} {x3 : Int} {y0 : Int}  (h : (¬ y0 = x2 → zJ x d 235 24 [some (.inr (.inl 42)), some (.inl x1), some (.inl x2), some (.inl x3)] [] s Q) ∧ (¬ (¬ y0 = x2) → ((1 : Int) = 0 ∨ (1 : Int) = 1) ∧ Q (some (.inl 1)) s)) : zJ x d 235 18 [some (.inr (.inl 42)), some (.inl x1), some (.inl x2), some (.inl x3)] [.inl y0] s Q := zJ_of (b := b235_18) (by rw [kBlk, kb_235]; rfl) h
set_option maxRecDepth 100000 in
theorem B235_24 {x : List Int} {d : Nat} {s : zSt} {Q : zQ} {x1 : Int} {x2 : Int} {x3 : Int}  (h : zJ x d 235 2 [some (.inr (.inl 42)), some (.inl x1), some (.inl x2), some (.inl (wr (x3 + 1)))] [] s Q) : zJ x d 235 24 [some (.inr (.inl 42)), some (.inl x1), some (.inl x2), some (.inl x3)] [] s Q := zJ_of (b := b235_24) (by rw [kBlk, kb_235]; rfl) h
set_option maxRecDepth 100000 in
theorem B235_30 {x : List Int} {d : Nat} {s : zSt} {Q : zQ} {x1 : Int} {x2 : Int} {x3 : Int}  (h : ((0 : Int) = 0 ∨ (0 : Int) = 1) ∧ Q (some (.inl 0)) s) : zJ x d 235 30 [some (.inr (.inl 42)), some (.inl x1), some (.inl x2), some (.inl x3)] [] s Q := zJ_of (b := b235_30) (by rw [kBlk, kb_235]; rfl) h
set_option maxRecDepth 100000 in
theorem N235 {x : List Int} {d : Nat} {s : zSt} {Q : zQ} {x1 : Int} {x2 : Int} (h : zJ x d 235 0 [some (.inr (.inl 42)), some (.inl x1), some (.inl x2), none] [] s Q) : zE x (d + 1) 235 [.inr (.inl 42), .inl x1, .inl x2] s Q := zE_of (n := 4) rfl rfl rfl rfl (fun h => (zLok_some (h _ (List.mem_of_getElem? (i := 0) rfl)) (zLok_some (h _ (List.mem_of_getElem? (i := 1) rfl)) (zLok_some (h _ (List.mem_of_getElem? (i := 2) rfl)) (zLok_none zLok_nil))))) h
-- 236: PennyALapModel.beginRest
set_option maxRecDepth 100000 in
theorem kb_236 : kBls.getD 236 [] = c236 := rfl
set_option maxRecDepth 100000 in
theorem B236_0 {x : List Int} {d : Nat} {s : zSt} {Q : zQ} {x1 : Int}  (h : zE x d 217 [.inr (.inl 42), .inl x1] s (fun r s1 => zJ x d 236 5 [some (.inr (.inl 42)), some (.inl x1), none, none] (zAp r []) s1 Q)) : zJ x d 236 0 [some (.inr (.inl 42)), some (.inl x1), none, none] [] s Q := zJ_of (b := b236_0) (by rw [kBlk, kb_236]; rfl) h
set_option maxRecDepth 100000 in
theorem B236_5 {x : List Int} {d : Nat} {s : zSt} {Q : zQ} {x1 : Int}  (h : zJ x d 236 9 [some (.inr (.inl 42)), some (.inl x1), some (.inl 0), some (.inl 0)] [] s Q) : zJ x d 236 5 [some (.inr (.inl 42)), some (.inl x1), none, none] [] s Q := zJ_of (b := b236_5) (by rw [kBlk, kb_236]; rfl) h
set_option maxRecDepth 100000 in
theorem B236_9 {x : List Int} {d : Nat} {s : zSt} {Q : zQ} {x1 : Int} {x2 : Int} {x3 : Int}  (h : (s 42 6 ≤ x3 → zJ x d 236 54 [some (.inr (.inl 42)), some (.inl x1), some (.inl x2), some (.inl x3)] [] s Q) ∧ (¬ (s 42 6 ≤ x3) → (0 : Int) ≤ x3 ∧ (x3 : Int) < 16 ∧ ((0 : Int) ≤ s 47 (x3).toNat ∧ (s 47 (x3).toNat : Int) < 6 ∧ (zE x d 213 [.inr (.inl 42), .inl x3, .inl (s 65 (s 47 (x3).toNat).toNat)] s (fun r s1 => zJ x d 236 38 [some (.inr (.inl 42)), some (.inl x1), some (.inl x2), some (.inl x3)] (zAp r [.inl x3, .inr (.inl 69)]) s1 Q))))) : zJ x d 236 9 [some (.inr (.inl 42)), some (.inl x1), some (.inl x2), some (.inl x3)] [] s Q := zJ_of (b := b236_9) (by rw [kBlk, kb_236]; rfl) h
set_option maxRecDepth 100000 in
theorem B236_38 {x : List Int} {d : Nat} {s : zSt} {Q : zQ} {x1 : Int} {x2 : Int} {x3 : Int} {y0 : Int} {y1 : Int}  (h : (0 : Int) ≤ y1 ∧ (y1 : Int) < 16 ∧ ((0 : Int) ≤ x3 ∧ (x3 : Int) < 16 ∧ (zJ x d 236 9 [some (.inr (.inl 42)), some (.inl x1), some (.inl (wr (x2 + ((zU s 69 (y1).toNat y0) 69 (x3).toNat)))), some (.inl (wr (x3 + 1)))] [] (zU s 69 (y1).toNat y0) Q))) : zJ x d 236 38 [some (.inr (.inl 42)), some (.inl x1), some (.inl x2), some (.inl x3)] [.inl y0, .inl y1, .inr (.inl 69)] s Q := zJ_of (b := b236_38) (by rw [kBlk, kb_236]; rfl) h
set_option maxRecDepth 100000 in
theorem B236_54 {x : List Int} {d : Nat} {s : zSt} {Q : zQ} {x1 : Int} {x2 : Int} {x3 : Int}  (h : Q (some (.inl x2)) s) : zJ x d 236 54 [some (.inr (.inl 42)), some (.inl x1), some (.inl x2), some (.inl x3)] [] s Q := zJ_of (b := b236_54) (by rw [kBlk, kb_236]; rfl) h
set_option maxRecDepth 100000 in
theorem N236 {x : List Int} {d : Nat} {s : zSt} {Q : zQ} {x1 : Int} (h : zJ x d 236 0 [some (.inr (.inl 42)), some (.inl x1), none, none] [] s Q) : zE x (d + 1) 236 [.inr (.inl 42), .inl x1] s Q := zE_of (n := 4) rfl rfl rfl rfl (fun h => (zLok_some (h _ (List.mem_of_getElem? (i := 0) rfl)) (zLok_some (h _ (List.mem_of_getElem? (i := 1) rfl)) (zLok_none (zLok_none zLok_nil))))) h
-- 237: PennyALapModel.weekComes
set_option maxRecDepth 100000 in
theorem kb_237 : kBls.getD 237 [] = c237 := rfl
set_option maxRecDepth 100000 in
theorem B237_0 {x : List Int} {d : Nat} {s : zSt} {Q : zQ} {x1 : Int}  (h : zJ x d 237 4 [some (.inr (.inl 42)), some (.inl x1), some (.inl 0), some (.inl 0), none] [] s Q) : zJ x d 237 0 [some (.inr (.inl 42)), some (.inl x1), none, none, none] [] s Q := zJ_of (b := b237_0) (by rw [kBlk, kb_237]; rfl) h
set_option maxRecDepth 100000 in
theorem B237_4 {x : List Int} {d : Nat} {s : zSt} {Q : zQ} {x1 : Int} {x2 : Int} {x3 : Int} {o4 : Option zV}  (h : (s 42 6 ≤ x3 → zJ x d 237 91 [some (.inr (.inl 42)), some (.inl x1), some (.inl x2), some (.inl x3), o4] [] s Q) ∧ (¬ (s 42 6 ≤ x3) → (0 : Int) ≤ x3 ∧ (x3 : Int) < 16 ∧ ((1 ≤ wr ((wr ((s 69 (x3).toNat) * (s 42 14))).tdiv 12) → zJ x d 237 37 [some (.inr (.inl 42)), some (.inl x1), some (.inl x2), some (.inl x3), some (.inl (wr ((wr ((s 69 (x3).toNat) * (s 42 14))).tdiv 12)))] [] s Q) ∧ (¬ (1 ≤ wr ((wr ((s 69 (x3).toNat) * (s 42 14))).tdiv 12)) → zJ x d 237 37 [some (.inr (.inl 42)), some (.inl x1), some (.inl x2), some (.inl x3), some (.inl 1)] [] s Q)))) : zJ x d 237 4 [some (.inr (.inl 42)), some (.inl x1), some (.inl x2), some (.inl x3), o4] [] s Q := zJ_of (b := b237_4) (by rw [kBlk, kb_237]; rfl) h
set_option maxRecDepth 100000 in
theorem B237_37 {x : List Int} {d : Nat} {s : zSt} {Q : zQ} {x1 : Int} {x2 : Int} {x3 : Int} {x4 : Int}  (h : (x1 = 0 → zJ x d 237 50 [some (.inr (.inl 42)), some (.inl x1), some (.inl x2), some (.inl x3), some (.inl x4)] [] s Q) ∧ (¬ (x1 = 0) → zJ x d 237 50 [some (.inr (.inl 42)), some (.inl x1), some (.inl x2), some (.inl x3), some (.inl (wr (x4 * (s 42 15))))] [] s Q)) : zJ x d 237 37 [some (.inr (.inl 42)), some (.inl x1), some (.inl x2), some (.inl x3), some (.inl x4)] [] s Q := zJ_of (b := b237_37) (by rw [kBlk, kb_237]; rfl) h
set_option maxRecDepth 100000 in
theorem B237_50 {x : List Int} {d : Nat} {s : zSt} {Q : zQ} {x1 : Int} {x2 : Int} {x3 : Int} {x4 : Int}  (h : (0 : Int) ≤ x3 ∧ (x3 : Int) < 16 ∧ ((x4 ≤ s 69 (x3).toNat → zJ x d 237 69 [some (.inr (.inl 42)), some (.inl x1), some (.inl x2), some (.inl x3), some (.inl x4)] [] s Q) ∧ (¬ (x4 ≤ s 69 (x3).toNat) → (0 : Int) ≤ x3 ∧ (x3 : Int) < 16 ∧ (zJ x d 237 69 [some (.inr (.inl 42)), some (.inl x1), some (.inl x2), some (.inl x3), some (.inl (s 69 (x3).toNat))] [] s Q)))) : zJ x d 237 50 [some (.inr (.inl 42)), some (.inl x1), some (.inl x2), some (.inl x3), some (.inl x4)] [] s Q := zJ_of (b := b237_50) (by rw [kBlk, kb_237]; rfl) h
set_option maxRecDepth 100000 in
theorem B237_69 {x : List Int} {d : Nat} {s : zSt} {Q : zQ} {x1 : Int} {x2 : Int} {x3 : Int} {x4 : Int}  (h : (0 : Int) ≤ x3 ∧ (x3 : Int) < 16 ∧ ((0 : Int) ≤ x3 ∧ (x3 : Int) < 16 ∧ (zJ x d 237 4 [some (.inr (.inl 42)), some (.inl x1), some (.inl (wr (x2 + x4))), some (.inl (wr (x3 + 1))), some (.inl x4)] [] (zU s 69 (x3).toNat (wr ((s 69 (x3).toNat) - x4))) Q))) : zJ x d 237 69 [some (.inr (.inl 42)), some (.inl x1), some (.inl x2), some (.inl x3), some (.inl x4)] [] s Q := zJ_of (b := b237_69) (by rw [kBlk, kb_237]; rfl) h
set_option maxRecDepth 100000 in
theorem B237_91 {x : List Int} {d : Nat} {s : zSt} {Q : zQ} {x1 : Int} {x2 : Int} {x3 : Int} {o4 : Option zV}  (h : Q (some (.inl x2)) s) : zJ x d 237 91 [some (.inr (.inl 42)), some (.inl x1), some (.inl x2), some (.inl x3), o4] [] s Q := zJ_of (b := b237_91) (by rw [kBlk, kb_237]; rfl) h
set_option maxRecDepth 100000 in
theorem N237 {x : List Int} {d : Nat} {s : zSt} {Q : zQ} {x1 : Int} (h : zJ x d 237 0 [some (.inr (.inl 42)), some (.inl x1), none, none, none] [] s Q) : zE x (d + 1) 237 [.inr (.inl 42), .inl x1] s Q := zE_of (n := 5) rfl rfl rfl rfl (fun h => (zLok_some (h _ (List.mem_of_getElem? (i := 0) rfl)) (zLok_some (h _ (List.mem_of_getElem? (i := 1) rfl)) (zLok_none (zLok_none (zLok_none zLok_nil)))))) h
-- 238: PennyALapModel.comesBy
set_option maxRecDepth 100000 in
theorem kb_238 : kBls.getD 238 [] = c238 := rfl
set_option maxRecDepth 100000 in
theorem B238_0 {x : List Int} {d : Nat} {s : zSt} {Q : zQ} {x1 : Int} {x2 : Int} {x3 : Int} {x4 : Int}  (h : zE x d 236 [.inr (.inl 42), .inl x2] s (fun r s1 => zJ x d 238 5 [some (.inr (.inl 42)), some (.inl x1), some (.inl x2), some (.inl x3), some (.inl x4), none, none] (zAp r []) s1 Q)) : zJ x d 238 0 [some (.inr (.inl 42)), some (.inl x1), some (.inl x2), some (.inl x3), some (.inl x4), none, none] [] s Q := zJ_of (b := b238_0) (by rw [kBlk, kb_238]; rfl) h
set_option maxRecDepth 100000 in
theorem B238_5 {x : List Int} {d : Nat} {s : zSt} {Q : zQ} {x1 : Int} {x2 : Int} {x3 : Int} {x4 : Int} {y0 : Int}  (h : zJ x d 238 12 [some (.inr (.inl 42)), some (.inl x1), some (.inl x2), some (.inl x3), some (.inl x4), some (.inl 0), some (.inl 0)] [] s Q) : zJ x d 238 5 [some (.inr (.inl 42)), some (.inl x1), some (.inl x2), some (.inl x3), some (.inl x4), none, none] [.inl y0] s Q := zJ_of (b := b238_5) (by rw [kBlk, kb_238]; rfl) h
set_option maxRecDepth 100000 in
theorem B238_12 {x : List Int} {d : Nat} {s : zSt} {Q : zQ} {x1 : Int} {x2 : Int} {x3 : Int} {x4 : Int} {x5 : Int} {x6 : Int}  (h : (x3 ≤ x6 → zJ x d 238 55 [some (.inr (.inl 42)), some (.inl x1), some (.inl x2), some (.inl x3), some (.inl x4), some (.inl x5), some (.inl x6)] [] s Q) ∧ (¬ (x3 ≤ x6) → (x6 = x4 → zJ x d 238 38 [some (.inr (.inl 42)), some (.inl x1), some (.inl x2), some (.inl x3), some (.inl x4), some (.inl x5), some (.inl x6)] [.inr (.inl 42), .inl x5] s Q) ∧ (¬ (x6 = x4) → zE x d 235 [.inr (.inl 42), .inl x1, .inl x6] s (fun r s1 => zJ x d 238 35 [some (.inr (.inl 42)), some (.inl x1), some (.inl x2), some (.inl x3), some (.inl x4), some (.inl x5), some (.inl x6)] (zAp r [.inr (.inl 42), .inl x5]) s1 Q)))) : zJ x d 238 12 [some (.inr (.inl 42)), some (.inl x1), some (.inl x2), some (.inl x3), some (.inl x4), some (.inl x5), some (.inl x6)] [] s Q := zJ_of (b := b238_12) (by rw [kBlk, kb_238]; rfl) h
set_option maxRecDepth 100000 in
theorem B238_35 {x : List Int} {d : Nat} {s : zSt} {Q : zQ} {x1 : Int} {x2 : Int} {x3 : Int} {x4 : Int} {x5 : Int} {x6 : Int} {y0 : Int} {y2 : Int}  (h : (y0 = 0 → zJ x d 238 42 [some (.inr (.inl 42)), some (.inl x1), some (.inl x2), some (.inl x3), some (.inl x4), some (.inl x5), some (.inl x6)] [.inr (.inl 42), .inl y2] s Q) ∧ (¬ (y0 = 0) → zJ x d 238 38 [some (.inr (.inl 42)), some (.inl x1), some (.inl x2), some (.inl x3), some (.inl x4), some (.inl x5), some (.inl x6)] [.inr (.inl 42), .inl y2] s Q)) : zJ x d 238 35 [some (.inr (.inl 42)), some (.inl x1), some (.inl x2), some (.inl x3), some (.inl x4), some (.inl x5), some (.inl x6)] [.inl y0, .inr (.inl 42), .inl y2] s Q := zJ_of (b := b238_35) (by rw [kBlk, kb_238]; rfl) h
set_option maxRecDepth 100000 in
theorem B238_38 {x : List Int} {d : Nat} {s : zSt} {Q : zQ} {x1 : Int} {x2 : Int} {x3 : Int} {x4 : Int} {x5 : Int} {x6 : Int} {y1 : Int}  (h : zJ x d 238 43 [some (.inr (.inl 42)), some (.inl x1), some (.inl x2), some (.inl x3), some (.inl x4), some (.inl x5), some (.inl x6)] [.inl 1, .inr (.inl 42), .inl y1] s Q) : zJ x d 238 38 [some (.inr (.inl 42)), some (.inl x1), some (.inl x2), some (.inl x3), some (.inl x4), some (.inl x5), some (.inl x6)] [.inr (.inl 42), .inl y1] s Q := zJ_of (b := b238_38) (by rw [kBlk, kb_238]; rfl) h
set_option maxRecDepth 100000 in
theorem B238_42 {x : List Int} {d : Nat} {s : zSt} {Q : zQ} {x1 : Int} {x2 : Int} {x3 : Int} {x4 : Int} {x5 : Int} {x6 : Int} {y1 : Int}  (h : zJ x d 238 43 [some (.inr (.inl 42)), some (.inl x1), some (.inl x2), some (.inl x3), some (.inl x4), some (.inl x5), some (.inl x6)] [.inl 0, .inr (.inl 42), .inl y1] s Q) : zJ x d 238 42 [some (.inr (.inl 42)), some (.inl x1), some (.inl x2), some (.inl x3), some (.inl x4), some (.inl x5), some (.inl x6)] [.inr (.inl 42), .inl y1] s Q := zJ_of (b := b238_42) (by rw [kBlk, kb_238]; rfl) h
set_option maxRecDepth 100000 in
theorem B238_43 {x : List Int} {d : Nat} {s : zSt} {Q : zQ} {x1 : Int} {x2 : Int} {x3 : Int} {x4 : Int} {x5 : Int} {x6 : Int} {y0 : Int} {y2 : Int}  (h : zE x d 237 [.inr (.inl 42), .inl y0] s (fun r s1 => zJ x d 238 46 [some (.inr (.inl 42)), some (.inl x1), some (.inl x2), some (.inl x3), some (.inl x4), some (.inl x5), some (.inl x6)] (zAp r [.inl y2]) s1 Q)) : zJ x d 238 43 [some (.inr (.inl 42)), some (.inl x1), some (.inl x2), some (.inl x3), some (.inl x4), some (.inl x5), some (.inl x6)] [.inl y0, .inr (.inl 42), .inl y2] s Q := zJ_of (b := b238_43) (by rw [kBlk, kb_238]; rfl) h
set_option maxRecDepth 100000 in
theorem B238_46 {x : List Int} {d : Nat} {s : zSt} {Q : zQ} {x1 : Int} {x2 : Int} {x3 : Int} {x4 : Int} {x5 : Int} {x6 : Int} {y0 : Int} {y1 : Int}  (h : zJ x d 238 12 [some (.inr (.inl 42)), some (.inl x1), some (.inl x2), some (.inl x3), some (.inl x4), some (.inl (wr (y1 + y0))), some (.inl (wr (x6 + 1)))] [] s Q) : zJ x d 238 46 [some (.inr (.inl 42)), some (.inl x1), some (.inl x2), some (.inl x3), some (.inl x4), some (.inl x5), some (.inl x6)] [.inl y0, .inl y1] s Q := zJ_of (b := b238_46) (by rw [kBlk, kb_238]; rfl) h
set_option maxRecDepth 100000 in
theorem B238_55 {x : List Int} {d : Nat} {s : zSt} {Q : zQ} {x1 : Int} {x2 : Int} {x3 : Int} {x4 : Int} {x5 : Int} {x6 : Int}  (h : Q (some (.inl x5)) s) : zJ x d 238 55 [some (.inr (.inl 42)), some (.inl x1), some (.inl x2), some (.inl x3), some (.inl x4), some (.inl x5), some (.inl x6)] [] s Q := zJ_of (b := b238_55) (by rw [kBlk, kb_238]; rfl) h
set_option maxRecDepth 100000 in
theorem N238 {x : List Int} {d : Nat} {s : zSt} {Q : zQ} {x1 : Int} {x2 : Int} {x3 : Int} {x4 : Int} (h : zJ x d 238 0 [some (.inr (.inl 42)), some (.inl x1), some (.inl x2), some (.inl x3), some (.inl x4), none, none] [] s Q) : zE x (d + 1) 238 [.inr (.inl 42), .inl x1, .inl x2, .inl x3, .inl x4] s Q := zE_of (n := 7) rfl rfl rfl rfl (fun h => (zLok_some (h _ (List.mem_of_getElem? (i := 0) rfl)) (zLok_some (h _ (List.mem_of_getElem? (i := 1) rfl)) (zLok_some (h _ (List.mem_of_getElem? (i := 2) rfl)) (zLok_some (h _ (List.mem_of_getElem? (i := 3) rfl)) (zLok_some (h _ (List.mem_of_getElem? (i := 4) rfl)) (zLok_none (zLok_none zLok_nil)))))))) h
-- 239: PennyALapModel.areWeeks
set_option maxRecDepth 100000 in
theorem kb_239 : kBls.getD 239 [] = c239 := rfl
set_option maxRecDepth 100000 in
theorem B239_0 {x : List Int} {d : Nat} {s : zSt} {Q : zQ} {x0 : Int}  (h : (x0 < 0 → zJ x d 239 27 [some (.inl x0)] [] s Q) ∧ (¬ (x0 < 0) → zE x d 207 [.inl (wr ((x0).tdiv 100))] s (fun r s1 => zJ x d 239 11 [some (.inl x0)] (zAp r []) s1 Q))) : zJ x d 239 0 [some (.inl x0)] [] s Q := zJ_of (b := b239_0) (by rw [kBlk, kb_239]; rfl) h
set_option maxRecDepth 100000 in
theorem B239_11 {x : List Int} {d : Nat} {s : zSt} {Q : zQ} {x0 : Int} {y0 : Int}  (h : (y0 = 0 → zJ x d 239 27 [some (.inl x0)] [] s Q) ∧ (¬ (y0 = 0) → (60 < wr ((x0).tmod 100) → zJ x d 239 27 [some (.inl x0)] [] s Q) ∧ (¬ (60 < wr ((x0).tmod 100)) → zJ x d 239 28 [some (.inl x0)] [.inl 1] s Q))) : zJ x d 239 11 [some (.inl x0)] [.inl y0] s Q := zJ_of (b := b239_11) (by rw [kBlk, kb_239]; rfl) h
set_option maxRecDepth 100000 in
theorem B239_27 {x : List Int} {d : Nat} {s : zSt} {Q : zQ} {x0 : Int}  (h : zJ x d 239 28 [some (.inl x0)] [.inl 0] s Q) : zJ x d 239 27 [some (.inl x0)] [] s Q := zJ_of (b := b239_27) (by rw [kBlk, kb_239]; rfl) h
set_option maxRecDepth 100000 in
theorem B239_28 {x : List Int} {d : Nat} {s : zSt} {Q : zQ} {x0 : Int} {y0 : Int}  (h : ((y0 : Int) = 0 ∨ (y0 : Int) = 1) ∧ Q (some (.inl y0)) s) : zJ x d 239 28 [some (.inl x0)] [.inl y0] s Q := zJ_of (b := b239_28) (by rw [kBlk, kb_239]; rfl) h
set_option maxRecDepth 100000 in
theorem N239 {x : List Int} {d : Nat} {s : zSt} {Q : zQ} {x0 : Int} (h : zJ x d 239 0 [some (.inl x0)] [] s Q) : zE x (d + 1) 239 [.inl x0] s Q := zE_of (n := 1) rfl rfl rfl rfl (fun h => (zLok_some (h _ (List.mem_of_getElem? (i := 0) rfl)) zLok_nil)) h
