/-! THE STORE of class and reference: its shape; a call (zE), a block (zJ) -/
def zInt : Option (Option Nat) := none
def zRef (q : Nat) : Option (Option Nat) := some (some q)
def zDyn : Option (Option Nat) := some none
def zLEAST : List Int := [1, 0, 0, 0, 0, 0, 0, 0, 0, 0, 0, 1, 0]
def zMOST : List Int := [30, 9, 99, 12, 200, 999, 99, 9999, 9999, 9, 12, 4, 999]
def zFIRST : List Int := [1, 0, 99, 0, 0, 0, 10, 0, 9999, 0, 8, 2, 0]
def zABOVE : List Int := [-1, 0, 0, 2, 1, 3, 0, 6]
def zBODY : List Int := [1, 10, 11, 2, 20, 0, 0, 0, 0, 30, 0, 0, 0, 41, 40, 0, 0, 0, 0, 50, 0, 0, 60, 61, 70, 0, 0, 0, 81, 80, 0, 0]
def zSh : List zC := [.inr (9, [zRef 1, zRef 2, zRef 3, zRef 4, zRef 5, zRef 6, zRef 7, zRef 8, zInt, zRef 9, zRef 10]),
  .inr (5, [zRef 11, zInt, zInt, zDyn, zInt, zDyn, zInt, zRef 14, zRef 15]),
  .inr (4, [zRef 1, zRef 16, zRef 17, zInt, zInt]),
  .inr (1, [zRef 18, zRef 19, zRef 20, zInt, zInt]),
  .inr (8, [zRef 2, zRef 21, zRef 22, zRef 23]),
  .inr (6, [zRef 2, zRef 4, zRef 24, zRef 25, zRef 26]),
  .inr (2, [zRef 2, zRef 4, zRef 27, zRef 28, zRef 29]),
  .inr (3, [zRef 30, zRef 31, zRef 32, zInt, zInt, zInt, zInt, zInt]),
  .inr (3, [zRef 33, zRef 34, zRef 35, zInt, zInt, zInt, zInt, zInt]),
  .inr (0, [zRef 36, zInt, zRef 37, zInt]),
  .inr (7, [zRef 38, zRef 39, zRef 40, zRef 41]),
  .inl (0, 120),
  .inl (0, 121),
  .inl (0, 121),
  .inl (0, 121),
  .inl (0, 6),
  .inl (0, 108),
  .inl (0, 16),
  .inl (0, 40),
  .inl (0, 40),
  .inl (0, 40),
  .inl (0, 6),
  .inl (0, 600),
  .inl (0, 6),
  .inl (0, 600),
  .inl (0, 2107),
  .inl (0, 6),
  .inl (0, 16),
  .inl (0, 16),
  .inl (3, 60),
  .inl (0, 6),
  .inl (0, 6),
  .inl (0, 16),
  .inl (0, 6),
  .inl (0, 6),
  .inl (0, 16),
  .inl (0, 50),
  .inl (0, 24),
  .inl (0, 6),
  .inl (0, 6),
  .inl (0, 6),
  .inl (1, 360),
  .inr (10, [zInt, zInt, zRef 43, zRef 44, zRef 45, zRef 46, zInt, zRef 47, zRef 48, zRef 49, zRef 50, zRef 51, zRef 52, zInt, zInt, zInt, zInt, zInt, zInt, zRef 53, zRef 54, zRef 55, zRef 56, zRef 57, zInt, zInt, zInt, zInt, zInt, zRef 58, zRef 59, zRef 60, zRef 61, zRef 62, zRef 63, zRef 64, zInt, zRef 65, zRef 66, zRef 67, zRef 68, zRef 69, zInt, zRef 70, zRef 71, zRef 72, zRef 73, zInt, zRef 74, zRef 75, zRef 76, zInt, zRef 77, zInt, zRef 78, zRef 79, zRef 80, zRef 81, zRef 82]),
  .inl (0, 6),
  .inl (0, 6),
  .inl (0, 6),
  .inl (0, 6),
  .inl (0, 16),
  .inl (0, 16),
  .inl (0, 16),
  .inl (0, 16),
  .inl (0, 16),
  .inl (0, 16),
  .inl (0, 40),
  .inl (0, 40),
  .inl (0, 40),
  .inl (0, 40),
  .inl (2, 120),
  .inl (2, 260),
  .inl (0, 260),
  .inl (0, 2),
  .inl (4, 122),
  .inl (4, 122),
  .inl (0, 6),
  .inl (0, 130),
  .inl (0, 6),
  .inl (0, 2107),
  .inl (0, 2107),
  .inl (0, 2107),
  .inl (0, 16),
  .inl (0, 6),
  .inl (0, 6),
  .inl (0, 16),
  .inl (0, 5),
  .inl (0, 12),
  .inl (0, 16),
  .inl (0, 5),
  .inl (0, 50),
  .inl (0, 24),
  .inl (0, 6),
  .inl (0, 6),
  .inl (1, 360),
  .inl (1, 60)]
def zRo (x : List Int) (q : Nat) : Option (List Int) := cond (Nat.blt q 1000) none ([zLEAST, zMOST, zFIRST, zABOVE, zBODY, x][q - 1000]?)
def zScr (x : List Int) : Prop := ∀ k, zR (x.getD k 0)
theorem zR_list {l : List Int} (h : l.all (fun v => zRb v) = true) (k : Nat) : zR (l.getD k 0) := by
  rw [List.getD_eq_getElem?_getD]
  cases hk : l[k]? with
  | none => exact zR0
  | some v => exact zRb_ok (List.all_eq_true.mp h v (List.mem_of_getElem? hk))
theorem zRo_ok {x : List Int} (hx : zScr x) : ∀ q l, zRo x q = some l → ∀ k, zR (l.getD k 0) := by
  intro q l h k
  unfold zRo at h
  cases hb : Nat.blt q 1000 with
  | true => rw [hb] at h; cases h
  | false =>
    rw [hb, cond_false] at h
    generalize q - 1000 = i at h
    match i, h with
    | 0, h => cases h; exact zR_list (by decide) k
    | 1, h => cases h; exact zR_list (by decide) k
    | 2, h => cases h; exact zR_list (by decide) k
    | 3, h => cases h; exact zR_list (by decide) k
    | 4, h => cases h; exact zR_list (by decide) k
    | 5, h => cases h; exact hx k
    | i + 6, h => cases h
/-- a call, d calls deep at most; a block of a method whose calls are d deep at most -/
def zE (x : List Int) (d : Nat) : zEo := fun m as s Q => zScr x → zSok zSh s → zTok as → zRes zSh (kM (zro (zRo x)) kBlk kMx_ kRc_ d m (as.map zv) (zH s 0 zSh)) Q
def zJ (x : List Int) (d m : Nat) : zJo := fun l lv st s Q => zScr x → zSok zSh s → zLok lv → zTok st → zRes zSh (kD (zro (zRo x)) kBlk kMx_ kRc_ (d + 1) m l (zM lv) (st.map zv) (zH s 0 zSh)) Q
section ZRun
variable {x : List Int} {d m l : Nat} {lv : zL} {st as : List zV} {s : zSt} {Q Q' : zQ}
theorem zJ_of {b : List kIt} (hb : kBlk m l = b) (h : zX zSh (zRo x) (zE x d) (zJ x d m) b lv st s Q) : zJ x d m l lv st s Q := by
  intro hx hs hl ht
  rw [kD_eq, hb]
  exact zX_ok (zRo_ok hx) (fun m as s Q h hs ha => h hx hs ha) (fun t lv st s Q h hs hl ht => h hx hs hl ht) b lv st s Q h hs hl ht
def zRc (o : Option Nat) (as : List zV) : Bool := match o with
  | none => true
  | some ci => match as with
    | .inr (.inl q) :: _ => (match zSh[q]? with
      | some (.inr o) => Nat.beq o.1 ci
      | _ => false)
    | _ => false
theorem zRc_ok {o : Option Nat} (h : zRc o as = true) : kRc o (as.map zv) (zH s 0 zSh) = true := by
  unfold zRc at h
  unfold kRc
  cases o with
  | none => rfl
  | some ci =>
    dsimp only at h ⊢
    split at h
    · rename_i q r
      split at h
      · rename_i o ho
        have ha : o.1 = ci := Nat.eq_of_beq_eq_true h
        show (kObj (zH s 0 zSh) q ci).isSome = true
        rw [kObj_zH (ss := o.2) (by rw [ho, ← ha])]
        rfl
      · cases h
    · cases h
theorem zE_of {n : Nat} (hn : kMx_ m = n) (h1 : kEnt n (as.map zv) = zM lv) (h2 : lv.length = n) (h3 : zRc (kRc_ m) as = true) (h4 : zTok as → zLok lv) (h : zJ x d m 0 lv [] s Q) : zE x (d + 1) m as s Q := by
  intro hx hs ha
  unfold kM kMof
  rw [hn, h1, if_pos ⟨by rw [zM_len, h2], zRc_ok h3⟩]
  exact h hx hs (h4 ha) zTok_nil
theorem zRes_mono {o : Option kR} (h : zRes zSh o Q) (hQ : ∀ r s, Q r s → Q' r s) : zRes zSh o Q' := by
  obtain ⟨r, s', h1, h2, h3, h4⟩ := h
  exact ⟨r, s', h1, h2, h3, hQ _ _ h4⟩
theorem zE_mono (h : zE x d m as s Q) (hQ : ∀ r s, Q r s → Q' r s) : zE x d m as s Q' := fun a b c => zRes_mono (h a b c) hQ
theorem zJ_mono (h : zJ x d m l lv st s Q) (hQ : ∀ r s, Q r s → Q' r s) : zJ x d m l lv st s Q' := fun a b c e => zRes_mono (h a b c e) hQ
theorem zJ_ok (h : zSok zSh s → zLok lv → zTok st → zJ x d m l lv st s Q) : zJ x d m l lv st s Q := fun a b c e => h b c e a b c e
theorem zE_ok (h : zSok zSh s → zTok as → zE x d m as s Q) : zE x d m as s Q := fun a b c => h b c a b c
theorem zE_inR (h : zE x d m as s Q) : zE x d m as s (fun r s' => zSok zSh s' ∧ (∀ v, r = some v → zVok v) ∧ Q r s') := fun a b c => by
  obtain ⟨r, s', h1, h2, h3, h4⟩ := h a b c
  exact ⟨r, s', h1, h2, h3, h2, h3, h4⟩
theorem zJ_inR (h : zJ x d m l lv st s Q) : zJ x d m l lv st s (fun r s' => zSok zSh s' ∧ (∀ v, r = some v → zVok v) ∧ Q r s') := fun a b c e => by
  obtain ⟨r, s', h1, h2, h3, h4⟩ := h a b c e
  exact ⟨r, s', h1, h2, h3, h2, h3, h4⟩
theorem zQi {v w : Int} (h : Q (some (.inl v)) s) (e : v = w) : Q (some (.inl w)) s := e ▸ h
theorem zQs {r : Option zV} {s' : zSt} (h : Q r s) (e : s = s') : Q r s' := e ▸ h
theorem kX_upE {ro : kRo} {blk : Nat → Nat → List kIt} {E E' : kEo} (hE : ∀ m as hp r, E m as hp = some r → E' m as hp = some r) (m : Nat) : ∀ (n l : Nat) (lv : kL) (st : List Value) (hp : kH) (r : kR), kG ro blk E m n l lv st hp = some r → kG ro blk E' m n l lv st hp = some r
  | 0, _, _, _, _, _, h => by cases h
  | n + 1, l, lv, st, hp, r, h => kX_mono hE (kX_upE hE m n) _ _ _ _ _ h
theorem kM_up {ro : kRo} {blk : Nat → Nat → List kIt} {mx : Nat → Nat} {rc : Nat → Option Nat} : ∀ (d m : Nat) (as : List Value) (hp : kH) (r : kR), kM ro blk mx rc d m as hp = some r → kM ro blk mx rc (d + 1) m as hp = some r
  | 0, m, as, hp, r, h => by
    unfold kM kMof at h
    split at h <;> cases h
  | d + 1, m, as, hp, r, h => by
    unfold kM kMof at h ⊢
    split at h
    · rename_i hc
      rw [if_pos hc]
      obtain ⟨n, hn⟩ := kU_iff.mp h
      exact kU_iff.mpr ⟨n, kX_upE (fun m as hp r => kM_up d m as hp r) m n _ _ _ _ _ hn⟩
    · cases h
theorem zE_up (h : zE x d m as s Q) : zE x (d + 1) m as s Q := fun a b c => by
  obtain ⟨r, s', h1, h2⟩ := h a b c
  exact ⟨r, s', kM_up _ _ _ _ _ h1, h2⟩
theorem zE_le {d' : Nat} (h : zE x d m as s Q) (hd : d ≤ d') : zE x d' m as s Q := by
  obtain ⟨k, rfl⟩ := Nat.le.dest hd
  clear hd
  induction k with
  | zero => exact h
  | succ k ih => exact zE_up ih
end ZRun
theorem zLok_nil : zLok [] := fun _ h => by cases h
theorem zLok_some {v : zV} {lv : zL} (h1 : zVok v) (h2 : zLok lv) : zLok (some v :: lv) := fun w hw => by
  rcases List.mem_cons.mp hw with h | h
  · cases h; exact h1
  · exact h2 w h
theorem zLok_none {lv : zL} (h2 : zLok lv) : zLok (none :: lv) := fun w hw => by
  rcases List.mem_cons.mp hw with h | h
  · cases h
  · exact h2 w h
