/-! THE ENGINE IS SOUND: a simple instruction -/
section KSnd
variable {p : Program} {l : Launch} {e : Env} {R : Room} {s : State} {m : MethodId} {args : Array Value} {below : List Frame} {meth : Method} {c : Code} {cells slots : Nat} {Q : State → Prop} {H : Heap} {locs : List Loc}
variable {cc : ByteArray} {D : va_G} {cl : List vw_C} {A : Nat → Prop} {tc : Nat → ClassId} {ad : Nat → Nat} {ro : kRo} {own : String} {Ts tbl : List Jvm.Cond} {zs : kZt} {nL pc : Nat} {ls : Array Slot}
set_option maxHeartbeats 4000000 in
set_option maxRecDepth 100000 in
theorem kS_ok (hx : p.tables.exec = Jvm.exec) (hb : c.code = cc) (hml : c.maxLocals = nL) (hown : s.vm.findClass own = some m.cls) (hts : ∀ w ∈ Ts, w.before args s = true) (hT : ∀ w ∈ tbl, w ∈ Ts)
    (hK : va_K D cl (kTy tc) s) (hro : kRoOk ro ad A s) (hz : kZOk zs ad A s) (hR : 1 ≤ R.frames ∧ 64 ≤ R.locals ∧ cells ≤ R.cells ∧ slots ≤ R.slots)
    {i : Instr} {a b : Nat} {z : Int} {lv lv' : kL} {st st' : List Value} {hp hp' : kH} (hw : kWd tbl cl own zs i a b z) (hd : decode cc pc = .ok (i, kLn i)) (h : kS ro i a b z lv st hp = some (lv', st', hp'))
    (hlen : lv.length = nL) (hl : lv_has ls nL (kLl ad 0 lv)) (hI : kIv D cl tc ad A s hp H locs)
    (k : ∀ (ls' : Array Slot) (H' : Heap) (locs' : List Loc), lv'.length = nL → lv_has ls' nL (kLl ad 0 lv') → kIv D cl tc ad A s hp' H' locs' → W p l e R s m args below meth c H' locs' cells slots Q (F0 m (pc + kLn i) ls' (st'.map (kV ad)))) :
    W p l e R s m args below meth c H locs cells slots Q (F0 m pc ls (st.map (kV ad))) := by
  have htb : ∀ w ∈ tbl, w.before args s = true := fun w q => hts w (hT w q)
  have hls : c.maxLocals = ls.size := hml.trans hl.1.symm
  cases i
  case iconst n => cases h; exact lv_iconst hx hb hd rfl (k ls H locs hlen hl hI)
  case bipush n => cases h; exact lv_bipush hx hb hd hw (k ls H locs hlen hl hI)
  case sipush n => cases h; exact lv_sipush hx hb hd hw (k ls H locs hlen hl hI)
  case lconst n => cases h; exact lv_lconst hx hb hd rfl (k ls H locs hlen hl hI)
  case ldc n => cases h; exact lv_ldc hx hb hown (htb _ hw) hd (k ls H locs hlen hl hI)
  case ldc_w n => cases h; exact lv_ldcw hx hb hown (htb _ hw) hd (k ls H locs hlen hl hI)
  case ldc2_w n => cases h; exact lv_ldc2 hx hb hown (htb _ hw) hd (k ls H locs hlen hl hI)
  case iload_n n => obtain ⟨x, h1, rfl, rfl, rfl⟩ := kPi_inv h; exact lv_iload_n hx hb hd rfl (kLd_at hl h1) (k ls H locs hlen hl hI)
  case iload n => obtain ⟨x, h1, rfl, rfl, rfl⟩ := kPi_inv h; exact lv_iload hx hb hd (kLd_at hl h1) (k ls H locs hlen hl hI)
  case lload_n n => obtain ⟨x, h1, rfl, rfl, rfl⟩ := kPl_inv h; exact lv_lload_n hx hb hd rfl (kLd_at hl h1) (k ls H locs hlen hl hI)
  case lload n => obtain ⟨x, h1, rfl, rfl, rfl⟩ := kPl_inv h; exact lv_lload hx hb hd (kLd_at hl h1) (k ls H locs hlen hl hI)
  case aload_n n => obtain ⟨x, h1, rfl, rfl, rfl⟩ := kPa_inv h; exact lv_aload_n hx hb hd rfl (kLd_at hl h1) (k ls H locs hlen hl hI)
  case aload n => obtain ⟨x, h1, rfl, rfl, rfl⟩ := kPa_inv h; exact lv_aload hx hb hd (kLd_at hl h1) (k ls H locs hlen hl hI)
  case istore_n n =>
    obtain ⟨x, rfl, h1, rfl, rfl⟩ := kTi_inv h
    exact lv_istore_n hx hb hd rfl hl (by rw [← hlen]; exact h1) rfl (fun ls' hl' => k ls' H locs (by rw [kSt1_len]; exact hlen) (kSt1_has (ls := ls) (v := .int x) h1 hl') hI)
  case istore n =>
    obtain ⟨x, rfl, h1, rfl, rfl⟩ := kTi_inv h
    exact lv_istore hx hb hd hl (by rw [← hlen]; exact h1) rfl (fun ls' hl' => k ls' H locs (by rw [kSt1_len]; exact hlen) (kSt1_has (ls := ls) (v := .int x) h1 hl') hI)
  case astore_n n =>
    obtain ⟨x, rfl, h1, rfl, rfl⟩ := kTa_inv h
    exact lv_astore_n hx hb hd rfl hl (by rw [← hlen]; exact h1) rfl (fun ls' hl' => k ls' H locs (by rw [kSt1_len]; exact hlen) (kSt1_has (ls := ls) (v := .ref x) h1 hl') hI)
  case lstore n =>
    obtain ⟨x, rfl, h1, rfl, rfl⟩ := kTl_inv h
    exact lv_lstore hx hb hd hl (by rw [← hlen]; exact h1) rfl (fun ls' hl' => k ls' H locs (by rw [kSt2_len]; exact hlen) (kSt2_has (ls := ls) (v := .long x) h1 hl') hI)
  case iinc n v =>
    obtain ⟨x, h1, rfl, rfl, rfl⟩ := kInc_inv h
    have h0 : n < lv.length := (List.getElem?_eq_some_iff.mp (kLd_some h1)).1
    obtain ⟨j, hj⟩ := List.getElem?_of_mem ((kLl_mem (ad := ad) lv 0).mpr ⟨n, _, kLd_some h1, (Nat.zero_add n).symm, rfl⟩)
    exact lv_iinc hx hb hd hl (k := j) hj rfl (by rw [← hlen]; exact h0) rfl (fun ls' hl' => k ls' H locs (by rw [kSt1_len]; exact hlen) (kSt1_has (ls := ls) (v := .int (x + Int32.ofInt v)) h0 hl') hI)
  case iadd => obtain ⟨x, y, r, rfl, rfl, rfl, rfl⟩ := kI2_inv h; exact lv_iadd hx hb hd (k ls H locs hlen hl hI)
  case isub => obtain ⟨x, y, r, rfl, rfl, rfl, rfl⟩ := kI2_inv h; exact lv_isub hx hb hd (k ls H locs hlen hl hI)
  case imul => obtain ⟨x, y, r, rfl, rfl, rfl, rfl⟩ := kI2_inv h; exact lv_imul hx hb hd (k ls H locs hlen hl hI)
  case iand => obtain ⟨x, y, r, rfl, rfl, rfl, rfl⟩ := kI2_inv h; exact lv_iand hx hb hd (k ls H locs hlen hl hI)
  case ior => obtain ⟨x, y, r, rfl, rfl, rfl, rfl⟩ := kI2_inv h; exact lv_ior hx hb hd (k ls H locs hlen hl hI)
  case ixor => obtain ⟨x, y, r, rfl, rfl, rfl, rfl⟩ := kI2_inv h; exact lv_ixor hx hb hd (k ls H locs hlen hl hI)
  case ishl => obtain ⟨x, y, r, rfl, rfl, rfl, rfl⟩ := kI2_inv h; exact lv_ishl hx hb hd (k ls H locs hlen hl hI)
  case iushr => obtain ⟨x, y, r, rfl, rfl, rfl, rfl⟩ := kI2_inv h; exact lv_iushr hx hb hd rfl (k ls H locs hlen hl hI)
  case idiv => obtain ⟨x, y, r, rfl, h1, rfl, rfl, rfl⟩ := kDiv_inv h; exact lv_idiv hx hb hd h1 (k ls H locs hlen hl hI)
  case irem => obtain ⟨x, y, r, rfl, h1, rfl, rfl, rfl⟩ := kDiv_inv h; exact lv_irem hx hb hd h1 (k ls H locs hlen hl hI)
  case ineg => obtain ⟨x, r, rfl, rfl, rfl, rfl⟩ := kI1_inv h; exact lv_ineg hx hb hd (k ls H locs hlen hl hI)
  case i2l => obtain ⟨x, r, rfl, rfl, rfl, rfl⟩ := kI1_inv h; exact lv_i2l hx hb hd rfl (k ls H locs hlen hl hI)
  case i2b => obtain ⟨x, r, rfl, rfl, rfl, rfl⟩ := kI1_inv h; exact lv_i2b hx hb hd rfl (k ls H locs hlen hl hI)
  case i2s => obtain ⟨x, r, rfl, rfl, rfl, rfl⟩ := kI1_inv h; exact lv_i2s hx hb hd rfl (k ls H locs hlen hl hI)
  case l2i =>
    simp only [kS] at h
    split at h
    · cases h; exact lv_l2i hx hb hd rfl (k ls H locs hlen hl hI)
    · cases h
  case lshl =>
    simp only [kS] at h
    split at h
    · cases h; exact lv_lshl hx hb hd rfl (k ls H locs hlen hl hI)
    · cases h
  case ladd => obtain ⟨x, y, r, rfl, rfl, rfl, rfl⟩ := kJ2_inv h; exact lv_ladd hx hb hd (k ls H locs hlen hl hI)
  case land => obtain ⟨x, y, r, rfl, rfl, rfl, rfl⟩ := kJ2_inv h; exact lv_land hx hb hd (k ls H locs hlen hl hI)
  case lor => obtain ⟨x, y, r, rfl, rfl, rfl, rfl⟩ := kJ2_inv h; exact lv_lor hx hb hd (k ls H locs hlen hl hI)
  case lcmp => obtain ⟨x, y, r, rfl, rfl, rfl, rfl⟩ := kJ2_inv h; exact W.lcmp hx hb hd (k ls H locs hlen hl hI)
  case dup => obtain ⟨v, r, rfl, h1, rfl, rfl, rfl⟩ := kDup_inv h; exact lv_dup hx hb hd (by rw [kV_cat]; exact h1) (k ls H locs hlen hl hI)
  case pop => obtain ⟨v, rfl, h1, rfl, rfl⟩ := kPop_inv h; exact lv_pop hx hb hd (by rw [kV_cat]; exact h1) (k ls H locs hlen hl hI)
  case dup2 => obtain ⟨v, w, r, rfl, h1, h2, rfl, rfl, rfl⟩ := kDup2_inv h; exact lv_dup2_11 hx hb hd (by rw [kV_cat]; exact h1) (by rw [kV_cat]; exact h2) (k ls H locs hlen hl hI)
  case getfield n =>
    obtain ⟨q, r, fs, v, rfl, h1, h2, rfl, rfl, rfl⟩ := kGet_inv h
    obtain ⟨⟨C, T, N⟩, w1, w2, w3, w4, w5⟩ := hw
    exact va_get (D := D) (cl := cl) (ci := a) (C := C) (T := T) (N := N) (ref := C) hx hb htb w5 hown hK hI.1 q (kW_at h1) w1 b w2 (htb _ w4) (fun x hx' => by rw [w3] at hx'; exact hx') (v := kV ad v) (by rw [List.getElem?_map, h2]; rfl) hd (k ls H locs hlen hl hI)
  case putfield n =>
    obtain ⟨v, q, fs, rfl, h1, h2, h3, rfl, rfl⟩ := kPut_inv h
    obtain ⟨⟨C, T, N⟩, ty0, w1, w2, w3, w4, w5, w6, w7, w8, w9⟩ := hw
    have hfit : narrow (ty0 b) (kV ad v) = kV ad v ∧ fits (ty0 b) (kV ad v) = true := by
      rcases w9 with ⟨z1, z2⟩ | ⟨z1, z2⟩ | ⟨z1, z2⟩
      · rw [z2]; subst z1
        cases v <;> simp [kFit] at h3
        exact ⟨rfl, rfl⟩
      · rw [z2]; subst z1
        cases v <;> simp [kFit] at h3
        rcases h3 with rfl | rfl
        · exact ⟨rfl, rfl⟩
        · exact ⟨rfl, rfl⟩
      · rw [z2]; subst z1
        cases v <;> simp [kFit] at h3
        exact ⟨rfl, rfl⟩
    exact va_put (D := D) (cl := cl) (ci := a) (C := C) (T := T) (N := N) (ref := C) hx hb htb w5 ty0 w7 w8 hown hK hI.1 hI.2.1 hI.2.2 q (kW_at h1) w1 b w2 (htb _ w4) (fun x hx' => by rw [w3] at hx'; exact hx') w6 (v := kV ad v) (w7 b w2) hfit.1 hfit.2 (by rw [List.length_map]; exact h2) hd
      (fun H' locs' hP hD hS => k ls H' locs' hlen hl ⟨by rw [kW_put]; simpa [kC, List.map_set] using hP, by rw [kW_put]; simpa [kC, List.map_set] using hD, hS⟩)
  case getstatic n =>
    cases h
    obtain ⟨C, nm, host, w1, w2⟩ := hw
    rcases w2 with w2 | w2
    · exact va_gets hx hb (hz.1 _ w1) hI.2.2 hown (htb _ w2) (fun _ q => q) hd (k ls H locs hlen hl hI)
    · exact va_getsN hx hb (hz.1 _ w1) hI.2.2 hown (va_Nw.use rfl (hz.2 _ w2).1) (fun _ q => q) hd (k ls H locs hlen hl hI)
  case arraylength =>
    obtain ⟨q, r, n, rfl, h1, rfl, rfl, rfl⟩ := kAl_inv h
    unfold kLen at h1
    split at h1
    · rename_i x hx0
      cases h1
      exact va_tlen hx hb (hro _ _ hx0) hI.2.2 rfl hd (k ls H locs hlen hl hI)
    · split at h1
      · rename_i x hx0
        split at h1
        · rename_i h5
          cases h1
          obtain ⟨t, n, f⟩ := x
          dsimp only at h5
          have ht : (kTy tc)[t]? = some (tc t, ([.int, .long, .byte, .boolean, .short] : List FieldType).getD t .int) := by
            rcases (show t = 0 ∨ t = 1 ∨ t = 2 ∨ t = 3 ∨ t = 4 by omega) with rfl | rfl | rfl | rfl | rfl <;> rfl
          exact va_alen hx hb hK hI.1 q t (kW_at hx0) ht rfl hd (k ls H locs hlen hl hI)
        · cases h1
      · cases h1
  case iaload =>
    obtain ⟨j, q, r, x, rfl, h1, h2, rfl, rfl, rfl⟩ := kAi_inv h
    unfold kRd at h1
    split at h1
    · rename_i y hy
      cases h1
      exact va_ti hx hb (hro _ _ hy) hI.2.2 h2 rfl hd (k ls H locs hlen hl hI)
    · exact va_iald hx hb hK hI.1 q 0 (kW_at (kArr_inv h1)) rfl h2 hd (k ls H locs hlen hl hI)
  case baload =>
    obtain ⟨j, q, r, x, rfl, h1, h2, rfl, rfl, rfl⟩ := kAt_inv h
    rcases hw with rfl | rfl
    · exact va_bald hx hb hK hI.1 q 2 (kW_at (kArr_inv h1)) rfl h2 hd (k ls H locs hlen hl hI)
    · exact va_zald hx hb hK hI.1 q 3 (kW_at (kArr_inv h1)) rfl h2 hd (k ls H locs hlen hl hI)
  case saload =>
    obtain ⟨j, q, r, x, rfl, h1, h2, rfl, rfl, rfl⟩ := kAt_inv h
    exact va_sald hx hb hK hI.1 q 4 (kW_at (kArr_inv h1)) rfl h2 hd (k ls H locs hlen hl hI)
  case laload =>
    obtain ⟨j, q, r, x, rfl, h1, h2, rfl, rfl, rfl⟩ := kAj_inv h
    exact va_lald hx hb hK hI.1 q 1 (kW_at (kArrL_inv h1)) rfl h2 hd (k ls H locs hlen hl hI)
  case iastore =>
    obtain ⟨v, j, q, x, rfl, h1, h2, rfl, rfl⟩ := kBt_inv h
    exact va_iast hx hb hK hI.1 hI.2.1 hI.2.2 q 0 (kW_at (kArr_inv h1)) rfl h2 hd (fun H' locs' hP hD hS => k ls H' locs' hlen hl ⟨by rw [kW_put]; exact hP, by rw [kW_put]; exact hD, hS⟩)
  case bastore =>
    obtain ⟨v, j, q, x, rfl, h1, h2, rfl, rfl⟩ := kBt_inv h
    rcases hw with rfl | rfl
    · exact va_bast hx hb hK hI.1 hI.2.1 hI.2.2 q 2 (kW_at (kArr_inv h1)) rfl h2 hd (fun H' locs' hP hD hS => k ls H' locs' hlen hl ⟨by rw [kW_put]; exact hP, by rw [kW_put]; exact hD, hS⟩)
    · exact va_zast hx hb hK hI.1 hI.2.1 hI.2.2 q 3 (kW_at (kArr_inv h1)) rfl h2 hd (fun H' locs' hP hD hS => k ls H' locs' hlen hl ⟨by rw [kW_put]; exact hP, by rw [kW_put]; exact hD, hS⟩)
  case sastore =>
    obtain ⟨v, j, q, x, rfl, h1, h2, rfl, rfl⟩ := kBt_inv h
    exact va_sast hx hb hK hI.1 hI.2.1 hI.2.2 q 4 (kW_at (kArr_inv h1)) rfl h2 hd (fun H' locs' hP hD hS => k ls H' locs' hlen hl ⟨by rw [kW_put]; exact hP, by rw [kW_put]; exact hD, hS⟩)
  case lastore =>
    obtain ⟨v, j, q, x, rfl, h1, h2, rfl, rfl⟩ := kBj_inv h
    exact va_last hx hb hK hI.1 hI.2.1 hI.2.2 q 1 (kW_at (kArrL_inv h1)) rfl h2 hd (fun H' locs' hP hD hS => k ls H' locs' hlen hl ⟨by rw [kW_put]; exact hP, by rw [kW_put]; exact hD, hS⟩)
  case invokestatic n =>
    obtain ⟨hw1, hw2, hw3⟩ := hw
    simp only [kS, kNat] at h
    by_cases a1 : a = 1
    · rw [if_pos a1] at h
      obtain ⟨x, y, r, rfl, h1, rfl, rfl, rfl⟩ := kMx_inv h
      obtain ⟨w1, w2, w3, w4⟩ := hw1 a1
      exact va_mmax hx hb hls hown (htb _ w1) (htb _ w2) (htb _ w3) (htb _ w4) hR.1 (by have := kSum_le ad r; have := hR.2.1; omega) hR.2.2.1 hR.2.2.2 hd (k ls H locs hlen hl hI)
    · rw [if_neg a1] at h
      by_cases a2 : a = 2
      · rw [if_pos a2] at h
        obtain ⟨x, y, r, rfl, h1, rfl, rfl, rfl⟩ := kMx_inv h
        obtain ⟨w1, w2, w3, w4⟩ := hw2 a2
        exact va_mmin hx hb hls hown (htb _ w1) (htb _ w2) (htb _ w3) (htb _ w4) hR.1 (by have := kSum_le ad r; have := hR.2.1; omega) hR.2.2.1 hR.2.2.2 hd (k ls H locs hlen hl hI)
      · rw [if_neg a2] at h
        have hnw : nativeFrameWords "java/lang/System" "arraycopy" 5 + 11 ≤ 50 := by decide
        by_cases a3 : a = 3
        · rw [if_pos a3] at h
          obtain ⟨w1, w2, w3, w4⟩ := hw3 (Or.inl a3)
          obtain ⟨n', dp, q1, sp, q0, x, y, rfl, g0, g1, g2, g3, g4, g5, g6, g7, rfl, rfl⟩ := kCpI_inv h
          exact va_copyi hx hb hls hown (htb _ w1) (htb _ w2) (htb _ w3) (htb _ w4) hK hI.1 hI.2.1 hI.2.2 q0 q1 0 0 (ty := .int) (kW_at (kArr_inv g0)) (kW_at (kArr_inv g1)) rfl rfl rfl g3 g4 g5 g6 g7 (fun _ _ => rfl) hR.1 (by have := kSum_le ad st'; have := hR.2.1; omega) hd
            (fun H' locs' hP hD hS => k ls H' locs' hlen hl ⟨by rw [kW_put]; exact hP, by rw [kW_put]; exact hD, hS⟩)
        · rw [if_neg a3] at h
          by_cases a4 : a = 4
          · rw [if_pos a4] at h
            obtain ⟨w1, w2, w3, w4⟩ := hw3 (Or.inr a4)
            obtain ⟨n', dp, q1, sp, q0, x, y, rfl, g0, g1, g2, g3, g4, g5, g6, g7, rfl, rfl⟩ := kCpL_inv h
            exact va_copyl hx hb hls hown (htb _ w1) (htb _ w2) (htb _ w3) (htb _ w4) hK hI.1 hI.2.1 hI.2.2 q0 q1 1 1 (ty := .long) (kW_at (kArrL_inv g0)) (kW_at (kArrL_inv g1)) rfl rfl rfl g3 g4 g5 g6 g7 (fun _ _ => rfl) hR.1 (by have := kSum_le ad st'; have := hR.2.1; omega) hd
              (fun H' locs' hP hD hS => k ls H' locs' hlen hl ⟨by rw [kW_put]; exact hP, by rw [kW_put]; exact hD, hS⟩)
          · rw [if_neg a4] at h; cases h
  all_goals exact absurd h (by simp [kS])
end KSnd
