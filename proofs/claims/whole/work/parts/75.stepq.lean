/-! calls that only ask: class and reference answer alike, what holds between calls stays -/
/-- the reference's call answers w, and what holds between calls holds again -/
def zAns (x : List Int) (m : Nat) (as : List zV) (w : zV) (s1 : zSt) : Prop := ∀ Q2 : zQ, (∀ s2, zInv s2 → Q2 (some w) s2) → zE x 64 m as s1 Q2
section ZStepQ
variable {x : List Int} {s : zSt} {Q : zQ}
theorem st_lap {c km : Int} (hI : zInv s) (h : ∀ (ans : Int) s1, zAns x 206 [.inr (.inl 42), .inl c, .inl km] (.inl ans) s1 → Q (some (.inl ans)) s1) : zE x 64 128 [.inr (.inl 0), .inl c, .inl km] s Q :=
  c_lap hI.folk hI.law zFr.rf (fun s1 h1 => h _ s1 (fun Q2 k => e_lap hI.folk hI.law h1 (fun s2 h2 => k s2 (hI.sc h2.fk))))
theorem st_laps {c t w : Int} (hI : zInv s) (h : ∀ (ans : Int) s1, zAns x 221 [.inr (.inl 42), .inl c, .inl t, .inl w] (.inl ans) s1 → Q (some (.inl ans)) s1) : zE x 64 129 [.inr (.inl 0), .inl c, .inl t, .inl w] s Q :=
  c_laps hI.folk hI.law zFr.rf (fun s1 h1 => h _ s1 (fun Q2 k => e_laps hI.folk hI.law h1 (fun s2 h2 => k s2 (hI.sc h2.fk))))
theorem st_minutes {c n : Int} (hI : zInv s) (h : ∀ (ans : Int) s1, zAns x 210 [.inr (.inl 42), .inl c, .inl n] (.inl ans) s1 → Q (some (.inl ans)) s1) : zE x 64 130 [.inr (.inl 0), .inl c, .inl n] s Q :=
  c_minutes hI.folk hI.law zFr.rf (fun s1 h1 => h _ s1 (fun Q2 k => e_minutes hI.folk hI.law h1 (fun s2 h2 => k s2 (hI.sc h2.fk))))
theorem st_most {t w : Int} (hI : zInv s) (h : ∀ (ans : Int) s1, zAns x 224 [.inr (.inl 42), .inl t, .inl w] (.inl ans) s1 → Q (some (.inl ans)) s1) : zE x 64 131 [.inr (.inl 0), .inl t, .inl w] s Q :=
  c_most hI.folk hI.law zFr.rf (fun s1 h1 => h _ s1 (fun Q2 k => e_most hI.folk hI.law h1 (fun s2 h2 => k s2 (hI.sc h2.fk))))
theorem st_owes {p n w : Int} (hI : zInv s) (h : ∀ (ans : Int) s1, zAns x 214 [.inr (.inl 42), .inl p, .inl n, .inl w] (.inl ans) s1 → Q (some (.inl ans)) s1) : zE x 64 132 [.inr (.inl 0), .inl p, .inl n, .inl w] s Q :=
  c_owes hI.folk zFr.rf (fun s1 h1 => h _ s1 (fun Q2 k => e_owes hI.folk h1 (fun s2 h2 => k s2 (hI.sc h2.fk))))
theorem st_more {c n : Int} (hI : zInv s) (h : ∀ (ans : Int) s1, zAns x 226 [.inr (.inl 42), .inl c, .inl n] (.inl ans) s1 → Q (some (.inl ans)) s1) : zE x 64 133 [.inr (.inl 0), .inl c, .inl n] s Q :=
  c_more hI.folk zFr.rf (fun s1 h1 => h _ s1 (fun Q2 k => e_more hI.folk h1 (fun s2 h2 => k s2 (hI.sc h2.fk))))
theorem st_done {c : Int} (hI : zInv s) (h : ∀ (ans : Int) s1, zAns x 227 [.inr (.inl 42), .inl c] (.inl ans) s1 → Q (some (.inl ans)) s1) : zE x 64 134 [.inr (.inl 0), .inl c] s Q :=
  c_done hI.folk zFr.rf (fun s1 h1 => h _ s1 (fun Q2 k => e_done hI.folk h1 (fun s2 h2 => k s2 (hI.sc h2.fk))))
theorem st_lapOrSum {p v : Int} (hI : zInv s) (h : ∀ (ans : Int) s1, zAns x 228 [.inr (.inl 42), .inl p, .inl v] (.inl ans) s1 → Q (some (.inl ans)) s1) : zE x 64 135 [.inr (.inl 0), .inl p, .inl v] s Q :=
  c_lapOrSum hI.folk zFr.rf (fun s1 h1 => h _ s1 (fun Q2 k => e_lapOrSum hI.folk h1 (fun s2 h2 => k s2 (hI.sc h2.fk))))
theorem st_top {p : Int} (hI : zInv s) (h : ∀ (ans : Int) s1, zAns x 229 [.inr (.inl 42), .inl p] (.inl ans) s1 → Q (some (.inl ans)) s1) : zE x 64 136 [.inr (.inl 0), .inl p] s Q :=
  c_top hI.folk zFr.rf (fun s1 h1 => h _ s1 (fun Q2 k => e_top hI.folk h1 (fun s2 h2 => k s2 (hI.sc h2.fk))))
theorem st_howLong {v : Int} (hI : zInv s) (h : ∀ (ans : Int) s1, zAns x 230 [.inr (.inl 42), .inl v] (.inl ans) s1 → Q (some (.inl ans)) s1) : zE x 64 137 [.inr (.inl 0), .inl v] s Q :=
  c_howLong hI.folk hI.law zFr.rf (fun s1 h1 => h _ s1 (fun Q2 k => e_howLong hI.folk hI.law h1 (fun s2 h2 => k s2 (hI.sc h2.fk))))
theorem st_comes {i tw : Int} (hI : zInv s) (h : ∀ (ans : Int) s1, zAns x 240 [.inr (.inl 42), .inl i, .inl tw] (.inl ans) s1 → Q (some (.inl ans)) s1) : zE x 64 139 [.inr (.inl 0), .inl i, .inl tw] s Q :=
  c_comes hI.folk hI.law hI.shv zFr.rf (fun s1 h1 => h _ s1 (fun Q2 k => e_comes hI.folk hI.law hI.shv h1 (fun s2 h2 => k s2 (hI.sc h2.fk))))
theorem st_by {i tx : Int} (hI : zInv s) (h : ∀ (ans : Int) s1, zAns x 241 [.inr (.inl 42), .inl i, .inl tx] (.inl ans) s1 → Q (some (.inl ans)) s1) : zE x 64 140 [.inr (.inl 0), .inl i, .inl tx] s Q :=
  c_by hI.folk hI.law hI.shv zFr.rf (fun s1 h1 => h _ s1 (fun Q2 k => e_by hI.folk hI.law hI.shv h1 (fun s2 h2 => k s2 (hI.sc h2.fk))))
theorem st_remind {i tw v : Int} (hI : zInv s) (h : ∀ (ans : Int) s1, zAns x 242 [.inr (.inl 42), .inl i, .inl tw, .inl v] (.inl ans) s1 → Q (some (.inl ans)) s1) : zE x 64 141 [.inr (.inl 0), .inl i, .inl tw, .inl v] s Q :=
  c_remind hI.folk hI.law hI.shv zFr.rf (fun s1 h1 => h _ s1 (fun Q2 k => e_remind hI.folk hI.law hI.shv h1 (fun s2 h2 => k s2 (hI.sc h2.fk))))
theorem st_judge {i t : Int} (hI : zInv s) (h : ∀ (ans : Int) s1, zAns x 244 [.inr (.inl 42), .inl i, .inl t] (.inl ans) s1 → Q (some (.inl ans)) s1) : zE x 64 143 [.inr (.inl 0), .inl i, .inl t] s Q :=
  c_judge hI.folk hI.law hI.shv zFr.rf (fun s1 h1 => h _ s1 (fun Q2 k => e_judge hI.folk hI.law hI.shv h1 (fun s2 h2 => k s2 (hI.sc h2.fk))))
theorem st_minutesFor {i : Int} (hI : zInv s) (h : ∀ (ans : Int) s1, zAns x 246 [.inr (.inl 42), .inl i] (.inl ans) s1 → Q (some (.inl ans)) s1) : zE x 64 146 [.inr (.inl 0), .inl i] s Q :=
  c_minutesFor hI.folk hI.law hI.shv zFr.rf (fun s1 h1 => h _ s1 (fun Q2 k => e_minutesFor hI.folk hI.law hI.shv h1 (fun s2 h2 => k s2 (hI.sc h2.fk))))
theorem st_lapsFor {c v w : Int} (hI : zInv s) (h : ∀ (ans : Int) s1, zAns x 245 [.inr (.inl 42), .inl c, .inl v, .inl w] (.inl ans) s1 → Q (some (.inl ans)) s1) : zE x 64 145 [.inr (.inl 0), .inl c, .inl v, .inl w] s Q :=
  c_lapsFor hI.folk zFr.rf (fun s1 h1 => h _ s1 (fun Q2 k => e_lapsFor hI.folk h1 (fun s2 h2 => k s2 (hI.sc h2.fk))))
theorem st_whose {c t v : Int} (hI : zInv s) (h : ∀ (ans : Int) s1, zAns x 247 [.inr (.inl 42), .inl c, .inl t, .inl v] (.inl ans) s1 → Q (some (.inl ans)) s1) : zE x 64 147 [.inr (.inl 0), .inl c, .inl t, .inl v] s Q :=
  c_whose hI.folk hI.law zFr.rf (fun s1 h1 => h _ s1 (fun Q2 k => e_whose hI.folk hI.law h1 (fun s2 h2 => k s2 (hI.sc h2.fk))))
theorem st_oak {i t c : Int} (hI : zInv s) (h : ∀ (ans : Int) s1, zAns x 249 [.inr (.inl 42), .inl i, .inl t, .inl c] (.inl ans) s1 → Q (some (.inl ans)) s1) : zE x 64 148 [.inr (.inl 0), .inl i, .inl t, .inl c] s Q :=
  c_oak hI.folk hI.law hI.shv zFr.rf (fun s1 h1 => h _ s1 (fun Q2 k => e_oak hI.folk hI.law hI.shv h1 (fun s2 h2 => k s2 (hI.sc h2.fk))))
theorem st_drawn {z nt w : Int} (hI : zInv s) (h : ∀ v s1, zAns x 251 [.inr (.inl 42), .inl z, .inl nt, .inl w] (.inl v) s1 → Q (some (.inl v)) s1) : zE x 64 151 [.inr (.inl 0), .inl z, .inl nt, .inl w] s Q :=
  c_drawn hI.folk hI.law zFr.rf (fun s1 h1 => h _ s1 (fun Q2 k => e_drawn hI.folk hI.law h1 (fun v s2 h2 => k s2 (hI.sc ⟨fun q h0 hq => by
    rw [h2 q hq, zU_ne h0], fun j hj => by
    rw [h2 42 rfl, zU_at]
    exact if_neg (fun e => by rw [e] at hj; exact absurd hj (by decide))⟩))))
theorem st_field {m c : Int} (hI : zInv s) (h : ∀ v s1, zAns x 232 [.inr (.inl 42), .inl m, .inl c] (.inl v) s1 → Q (some (.inl v)) s1) : zE x 64 138 [.inr (.inl 0), .inl m, .inl c] s Q :=
  c_field hI.folk hI.law zFr.rf hI.row (fun s1 h1 h2 => h _ s1 (fun Q2 k => e_field (a := zF s 25 (s1 25)) (zFolk_25 hI.folk) (hI.law.k (L := [25]) (K := []) ⟨fun q _ hq => zF_ne (fun e => by rw [e] at hq; exact absurd hq (by decide)) _ _, fun _ _ => rfl⟩ rfl rfl) h1.b (fun s2 h3 => by
    rw [rField_25]
    have f : zFK (25 :: zScM) [] s s2 := (((zFr.K h1 rfl).le (25 :: zScM) [] rfl rfl)).tr ((zFr.K h3 rfl).le _ _ rfl rfl)
    exact k s2 ⟨hI.folk.k f rfl rfl, hI.law.k f rfl rfl, hI.shv.k f rfl rfl, hI.bod.k f rfl rfl, hI.trc.k f rfl rfl, hI.ded.k f rfl, hI.img.k f rfl rfl, hI.chg.k f rfl rfl, hI.tap.k f rfl rfl, fun j hj => by
      rw [f.1 2 (by decide) rfl] at hj
      rw [h3 25 rfl]
      exact h2 j hj⟩)))
theorem st_of {n w : Int} (hI : zInv s) (h : ∀ v s1, zAns x 185 [.inr (.inl 42), .inl n, .inl w] (.inl v) s1 → Q (some (.inl v)) s1) : zE x 64 125 [.inr (.inl 0), .inl n, .inl w] s Q :=
  c_of hI.folk hI.ded zFr.rf (h _ s (fun Q2 k => e_of hI.folk (zSim.M zFr.rf) (k s hI)))
theorem st_led {w : Int} (hI : zInv s) (h : ∀ v s1, zAns x 255 [.inr (.inl 42), .inl w] (.inl v) s1 → Q (some (.inl v)) s1) : zE x 64 155 [.inr (.inl 0), .inl w] s Q :=
  c_led hI.ded zFr.rf (h _ s (fun Q2 k => e_led  (zSim.M zFr.rf) (k s hI)))
theorem st_taken {i w : Int} (hI : zInv s) (h : ∀ v s1, zAns x 283 [.inr (.inl 42), .inl i, .inl w] (.inl v) s1 → Q (some (.inl v)) s1) : zE x 64 168 [.inr (.inl 0), .inl i, .inl w] s Q :=
  c_taken hI.bod hI.shv zFr.rf (h _ s (fun Q2 k => e_taken hI.bod hI.shv (zSim.M zFr.rf) (k s hI)))
theorem st_traced {k : Int} (hI : zInv s) (h : ∀ v s1, zAns x 260 [.inr (.inl 42), .inl k] (.inl v) s1 → Q (some (.inl v)) s1) : zE x 64 162 [.inr (.inl 0), .inl k] s Q :=
  c_traced hI.trc zFr.rf (h _ s (fun Q2 k => e_traced  zFr.rf (k s hI)))
theorem st_count {w : Int} (hI : zInv s) (h : ∀ v s1, zAns x 275 [.inr (.inl 42), .inl w] (.inl v) s1 → Q (some (.inl v)) s1) : zE x 64 169 [.inr (.inl 0), .inl w] s Q :=
  c_count hI.folk hI.chg hI.bod hI.trc hI.tap.1 zFr.rf (h _ s (fun Q2 k => e_count  zFr.rf (k s hI)))
theorem st_element {i k : Int} (hI : zInv s) (h : ∀ v s1, zAns x 281 [.inr (.inl 42), .inl i, .inl k] (.inr (.inr v)) s1 → Q (some (.inr (.inr v))) s1) : zE x 64 166 [.inr (.inl 0), .inl i, .inl k] s Q :=
  c_element hI.shv zFr.rf (h _ s (fun Q2 k => e_element hI.shv (zSim.M zFr.rf) (k s hI)))
end ZStepQ
