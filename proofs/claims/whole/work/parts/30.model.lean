/-! the reference: its object at m, its arrays at m + 1 .. m + 12; what they hold: numbers sc, longs lg, arrays ar, the longs' array en -/
def mdF (m : Nat) (sc : Nat → Int32) (lg : Nat → Int64) : List Value := [.ref (m + 1), .ref (m + 2), .ref (m + 3), .ref (m + 4), .ref (m + 5), .int (sc 0), .ref (m + 6), .long (lg 0), .long (lg 1), .int (sc 1), .int (sc 2), .int (sc 3), .int (sc 4), .ref (m + 7), .ref (m + 8), .ref (m + 9), .int (sc 5), .int (sc 6), .ref (m + 10), .ref (m + 11), .ref (m + 12)]
def updA (ar : Nat → Nat → Int32) (j : Nat) (f : Nat → Int32) : Nat → Nat → Int32 := fun i => if i = j then f else ar i
def mmk (M : zMe) (m : Nat) (sc : Nat → Int32) (lg : Nat → Int64) (ar : Nat → Nat → Int32) (en : Nat → Int64) : zMe := (fun q => if q = m then some (.inr (12, mdF m sc lg))
  else if q = m + 1 then some (.inl (.int, 25, .inl (ar 0)))
  else if q = m + 2 then some (.inl (.int, 25, .inl (ar 1)))
  else if q = m + 3 then some (.inl (.int, 50, .inl (ar 2)))
  else if q = m + 4 then some (.inl (.boolean, 2, .inl (ar 3)))
  else if q = m + 5 then some (.inl (.int, 200, .inl (ar 4)))
  else if q = m + 6 then some (.inl (.int, 3, .inl (ar 5)))
  else if q = m + 7 then some (.inl (.int, 65536, .inl (ar 6)))
  else if q = m + 8 then some (.inl (.int, 65536, .inl (ar 7)))
  else if q = m + 9 then some (.inl (.int, 2, .inl (ar 8)))
  else if q = m + 10 then some (.inl (.boolean, 125, .inl (ar 9)))
  else if q = m + 11 then some (.inl (.int, 288, .inl (ar 10)))
  else if q = m + 12 then some (.inl (.long, 10, .inr (.inl en))) else M.1 q, M.2)
section MM
variable {M : zMe} {m : Nat} {sc : Nat → Int32} {lg : Nat → Int64} {ar : Nat → Nat → Int32} {en : Nat → Int64}
theorem mm_at : (mmk M m sc lg ar en).1 m = some (.inr (12, mdF m sc lg)) := by simp [mmk]
theorem mm_at1 : (mmk M m sc lg ar en).1 (m + 1) = some (.inl (.int, 25, .inl (ar 0))) := by simp [mmk]
theorem mm_at2 : (mmk M m sc lg ar en).1 (m + 2) = some (.inl (.int, 25, .inl (ar 1))) := by simp [mmk]
theorem mm_at3 : (mmk M m sc lg ar en).1 (m + 3) = some (.inl (.int, 50, .inl (ar 2))) := by simp [mmk]
theorem mm_at4 : (mmk M m sc lg ar en).1 (m + 4) = some (.inl (.boolean, 2, .inl (ar 3))) := by simp [mmk]
theorem mm_at5 : (mmk M m sc lg ar en).1 (m + 5) = some (.inl (.int, 200, .inl (ar 4))) := by simp [mmk]
theorem mm_at6 : (mmk M m sc lg ar en).1 (m + 6) = some (.inl (.int, 3, .inl (ar 5))) := by simp [mmk]
theorem mm_at7 : (mmk M m sc lg ar en).1 (m + 7) = some (.inl (.int, 65536, .inl (ar 6))) := by simp [mmk]
theorem mm_at8 : (mmk M m sc lg ar en).1 (m + 8) = some (.inl (.int, 65536, .inl (ar 7))) := by simp [mmk]
theorem mm_at9 : (mmk M m sc lg ar en).1 (m + 9) = some (.inl (.int, 2, .inl (ar 8))) := by simp [mmk]
theorem mm_at10 : (mmk M m sc lg ar en).1 (m + 10) = some (.inl (.boolean, 125, .inl (ar 9))) := by simp [mmk]
theorem mm_at11 : (mmk M m sc lg ar en).1 (m + 11) = some (.inl (.int, 288, .inl (ar 10))) := by simp [mmk]
theorem mm_at12 : (mmk M m sc lg ar en).1 (m + 12) = some (.inl (.long, 10, .inr (.inl en))) := by simp [mmk]
theorem mm_out {q : Nat} (h : q < m ∨ m + 12 < q) : (mmk M m sc lg ar en).1 q = M.1 q := by
  have e : ∀ k, k ≤ 12 → ¬ q = m + k := fun k hk => by omega
  simp [mmk, e 1 (by omega), e 2 (by omega), e 3 (by omega), e 4 (by omega), e 5 (by omega), e 6 (by omega), e 7 (by omega), e 8 (by omega), e 9 (by omega), e 10 (by omega), e 11 (by omega), e 12 (by omega), show ¬ q = m by omega]
theorem mm_2 : (mmk M m sc lg ar en).2 = M.2 := rfl
theorem mm_ob : zob (mmk M m sc lg ar en) m 12 = some () := by simp [zob, mm_at]
theorem mm_gN0 : zgN (mmk M m sc lg ar en) m [12] 0 = some (m + 1) := by simp [zgN, zg, mm_at, mdF]
theorem mm_gN1 : zgN (mmk M m sc lg ar en) m [12] 1 = some (m + 2) := by simp [zgN, zg, mm_at, mdF]
theorem mm_gN2 : zgN (mmk M m sc lg ar en) m [12] 2 = some (m + 3) := by simp [zgN, zg, mm_at, mdF]
theorem mm_gN3 : zgN (mmk M m sc lg ar en) m [12] 3 = some (m + 4) := by simp [zgN, zg, mm_at, mdF]
theorem mm_gN4 : zgN (mmk M m sc lg ar en) m [12] 4 = some (m + 5) := by simp [zgN, zg, mm_at, mdF]
theorem mm_gN6 : zgN (mmk M m sc lg ar en) m [12] 6 = some (m + 6) := by simp [zgN, zg, mm_at, mdF]
theorem mm_gN13 : zgN (mmk M m sc lg ar en) m [12] 13 = some (m + 7) := by simp [zgN, zg, mm_at, mdF]
theorem mm_gN14 : zgN (mmk M m sc lg ar en) m [12] 14 = some (m + 8) := by simp [zgN, zg, mm_at, mdF]
theorem mm_gN15 : zgN (mmk M m sc lg ar en) m [12] 15 = some (m + 9) := by simp [zgN, zg, mm_at, mdF]
theorem mm_gN18 : zgN (mmk M m sc lg ar en) m [12] 18 = some (m + 10) := by simp [zgN, zg, mm_at, mdF]
theorem mm_gN19 : zgN (mmk M m sc lg ar en) m [12] 19 = some (m + 11) := by simp [zgN, zg, mm_at, mdF]
theorem mm_gN20 : zgN (mmk M m sc lg ar en) m [12] 20 = some (m + 12) := by simp [zgN, zg, mm_at, mdF]
theorem mm_gI5 : zgI (mmk M m sc lg ar en) m [12] 5 = some (sc 0) := by simp [zgI, zg, mm_at, mdF]
theorem mm_gI9 : zgI (mmk M m sc lg ar en) m [12] 9 = some (sc 1) := by simp [zgI, zg, mm_at, mdF]
theorem mm_gI10 : zgI (mmk M m sc lg ar en) m [12] 10 = some (sc 2) := by simp [zgI, zg, mm_at, mdF]
theorem mm_gI11 : zgI (mmk M m sc lg ar en) m [12] 11 = some (sc 3) := by simp [zgI, zg, mm_at, mdF]
theorem mm_gI12 : zgI (mmk M m sc lg ar en) m [12] 12 = some (sc 4) := by simp [zgI, zg, mm_at, mdF]
theorem mm_gI16 : zgI (mmk M m sc lg ar en) m [12] 16 = some (sc 5) := by simp [zgI, zg, mm_at, mdF]
theorem mm_gI17 : zgI (mmk M m sc lg ar en) m [12] 17 = some (sc 6) := by simp [zgI, zg, mm_at, mdF]
theorem mm_gL7 : zgL (mmk M m sc lg ar en) m [12] 7 = some (lg 0) := by simp [zgL, zg, mm_at, mdF]
theorem mm_gL8 : zgL (mmk M m sc lg ar en) m [12] 8 = some (lg 1) := by simp [zgL, zg, mm_at, mdF]
theorem zMe_ext {A B : zMe} (h1 : ∀ q, A.1 q = B.1 q) (h2 : A.2 = B.2) : A = B := by
  obtain ⟨a, a2⟩ := A
  obtain ⟨b, b2⟩ := B
  simp only at h1 h2
  subst h2
  rw [show a = b from funext h1]
theorem mm_setO {sc2 : Nat → Int32} {lg2 : Nat → Int64} : zSet (mmk M m sc lg ar en) m (.inr (12, mdF m sc2 lg2)) = mmk M m sc2 lg2 ar en := by
  refine zMe_ext (fun q => ?_) rfl
  by_cases h : q = m
  · subst h; simp [zSet, mmk]
  · simp [zSet, mmk, h]
theorem mm_pI5 {v : Int32} : zpI (mmk M m sc lg ar en) m [12] 5 v = some (mmk M m (upd sc 0 v) lg ar en) := by
  have e : (mdF m sc lg).set 5 (.int v) = mdF m (upd sc 0 v) lg := by simp [mdF, upd]
  simp [zpI, zp, mm_at, e, mm_setO]
theorem mm_pI9 {v : Int32} : zpI (mmk M m sc lg ar en) m [12] 9 v = some (mmk M m (upd sc 1 v) lg ar en) := by
  have e : (mdF m sc lg).set 9 (.int v) = mdF m (upd sc 1 v) lg := by simp [mdF, upd]
  simp [zpI, zp, mm_at, e, mm_setO]
theorem mm_pI10 {v : Int32} : zpI (mmk M m sc lg ar en) m [12] 10 v = some (mmk M m (upd sc 2 v) lg ar en) := by
  have e : (mdF m sc lg).set 10 (.int v) = mdF m (upd sc 2 v) lg := by simp [mdF, upd]
  simp [zpI, zp, mm_at, e, mm_setO]
theorem mm_pI11 {v : Int32} : zpI (mmk M m sc lg ar en) m [12] 11 v = some (mmk M m (upd sc 3 v) lg ar en) := by
  have e : (mdF m sc lg).set 11 (.int v) = mdF m (upd sc 3 v) lg := by simp [mdF, upd]
  simp [zpI, zp, mm_at, e, mm_setO]
theorem mm_pI12 {v : Int32} : zpI (mmk M m sc lg ar en) m [12] 12 v = some (mmk M m (upd sc 4 v) lg ar en) := by
  have e : (mdF m sc lg).set 12 (.int v) = mdF m (upd sc 4 v) lg := by simp [mdF, upd]
  simp [zpI, zp, mm_at, e, mm_setO]
theorem mm_pI16 {v : Int32} : zpI (mmk M m sc lg ar en) m [12] 16 v = some (mmk M m (upd sc 5 v) lg ar en) := by
  have e : (mdF m sc lg).set 16 (.int v) = mdF m (upd sc 5 v) lg := by simp [mdF, upd]
  simp [zpI, zp, mm_at, e, mm_setO]
theorem mm_pI17 {v : Int32} : zpI (mmk M m sc lg ar en) m [12] 17 v = some (mmk M m (upd sc 6 v) lg ar en) := by
  have e : (mdF m sc lg).set 17 (.int v) = mdF m (upd sc 6 v) lg := by simp [mdF, upd]
  simp [zpI, zp, mm_at, e, mm_setO]
theorem mm_pL7 {v : Int64} : zpL (mmk M m sc lg ar en) m [12] 7 v = some (mmk M m sc (vp_updL lg 0 v) ar en) := by
  have e : (mdF m sc lg).set 7 (.long v) = mdF m sc (vp_updL lg 0 v) := by simp [mdF, vp_updL]
  simp [zpL, zp, mm_at, e, mm_setO]
theorem mm_pL8 {v : Int64} : zpL (mmk M m sc lg ar en) m [12] 8 v = some (mmk M m sc (vp_updL lg 1 v) ar en) := by
  have e : (mdF m sc lg).set 8 (.long v) = mdF m sc (vp_updL lg 1 v) := by simp [mdF, vp_updL]
  simp [zpL, zp, mm_at, e, mm_setO]
theorem mm_r1 {i : Int32} : zrI (mmk M m sc lg ar en) (m + 1) i = if i < 0 ∨ 25 ≤ i.toNatClampNeg then none else some (ar 0 i.toNatClampNeg) := by simp [zrI, mm_at1]
theorem mm_w1 {i v : Int32} : zwI (mmk M m sc lg ar en) (m + 1) i v = if i < 0 ∨ 25 ≤ i.toNatClampNeg then none else some (mmk M m sc lg (updA ar 0 (upd (ar 0) i.toNatClampNeg v)) en) := by
  have e : ∀ f : Nat → Int32, zSet (mmk M m sc lg ar en) (m + 1) (.inl (.int, 25, .inl f)) = mmk M m sc lg (updA ar 0 f) en := by
    intro f
    refine zMe_ext (fun q => ?_) rfl
    by_cases h : q = m + 1
    · subst h; simp [zSet, mmk, updA]
    · simp [zSet, mmk, h, updA]
  simp [zwI, mm_at1, e]
theorem mm_ln1 : zln (mmk M m sc lg ar en) (m + 1) = some 25 := by simp [zln, mm_at1]
theorem mm_r2 {i : Int32} : zrI (mmk M m sc lg ar en) (m + 2) i = if i < 0 ∨ 25 ≤ i.toNatClampNeg then none else some (ar 1 i.toNatClampNeg) := by simp [zrI, mm_at2]
theorem mm_w2 {i v : Int32} : zwI (mmk M m sc lg ar en) (m + 2) i v = if i < 0 ∨ 25 ≤ i.toNatClampNeg then none else some (mmk M m sc lg (updA ar 1 (upd (ar 1) i.toNatClampNeg v)) en) := by
  have e : ∀ f : Nat → Int32, zSet (mmk M m sc lg ar en) (m + 2) (.inl (.int, 25, .inl f)) = mmk M m sc lg (updA ar 1 f) en := by
    intro f
    refine zMe_ext (fun q => ?_) rfl
    by_cases h : q = m + 2
    · subst h; simp [zSet, mmk, updA]
    · simp [zSet, mmk, h, updA]
  simp [zwI, mm_at2, e]
theorem mm_ln2 : zln (mmk M m sc lg ar en) (m + 2) = some 25 := by simp [zln, mm_at2]
theorem mm_r3 {i : Int32} : zrI (mmk M m sc lg ar en) (m + 3) i = if i < 0 ∨ 50 ≤ i.toNatClampNeg then none else some (ar 2 i.toNatClampNeg) := by simp [zrI, mm_at3]
theorem mm_w3 {i v : Int32} : zwI (mmk M m sc lg ar en) (m + 3) i v = if i < 0 ∨ 50 ≤ i.toNatClampNeg then none else some (mmk M m sc lg (updA ar 2 (upd (ar 2) i.toNatClampNeg v)) en) := by
  have e : ∀ f : Nat → Int32, zSet (mmk M m sc lg ar en) (m + 3) (.inl (.int, 50, .inl f)) = mmk M m sc lg (updA ar 2 f) en := by
    intro f
    refine zMe_ext (fun q => ?_) rfl
    by_cases h : q = m + 3
    · subst h; simp [zSet, mmk, updA]
    · simp [zSet, mmk, h, updA]
  simp [zwI, mm_at3, e]
theorem mm_ln3 : zln (mmk M m sc lg ar en) (m + 3) = some 50 := by simp [zln, mm_at3]
theorem mm_r4 {i : Int32} : zrZ (mmk M m sc lg ar en) (m + 4) i = if i < 0 ∨ 2 ≤ i.toNatClampNeg then none else some (ar 3 i.toNatClampNeg) := by simp [zrZ, mm_at4]
theorem mm_w4 {i v : Int32} : zwZ (mmk M m sc lg ar en) (m + 4) i v = if i < 0 ∨ 2 ≤ i.toNatClampNeg then none else some (mmk M m sc lg (updA ar 3 (upd (ar 3) i.toNatClampNeg (vp_nar .boolean v))) en) := by
  have e : ∀ f : Nat → Int32, zSet (mmk M m sc lg ar en) (m + 4) (.inl (.boolean, 2, .inl f)) = mmk M m sc lg (updA ar 3 f) en := by
    intro f
    refine zMe_ext (fun q => ?_) rfl
    by_cases h : q = m + 4
    · subst h; simp [zSet, mmk, updA]
    · simp [zSet, mmk, h, updA]
  simp [zwZ, mm_at4, e]
theorem mm_ln4 : zln (mmk M m sc lg ar en) (m + 4) = some 2 := by simp [zln, mm_at4]
theorem mm_r5 {i : Int32} : zrI (mmk M m sc lg ar en) (m + 5) i = if i < 0 ∨ 200 ≤ i.toNatClampNeg then none else some (ar 4 i.toNatClampNeg) := by simp [zrI, mm_at5]
theorem mm_w5 {i v : Int32} : zwI (mmk M m sc lg ar en) (m + 5) i v = if i < 0 ∨ 200 ≤ i.toNatClampNeg then none else some (mmk M m sc lg (updA ar 4 (upd (ar 4) i.toNatClampNeg v)) en) := by
  have e : ∀ f : Nat → Int32, zSet (mmk M m sc lg ar en) (m + 5) (.inl (.int, 200, .inl f)) = mmk M m sc lg (updA ar 4 f) en := by
    intro f
    refine zMe_ext (fun q => ?_) rfl
    by_cases h : q = m + 5
    · subst h; simp [zSet, mmk, updA]
    · simp [zSet, mmk, h, updA]
  simp [zwI, mm_at5, e]
theorem mm_ln5 : zln (mmk M m sc lg ar en) (m + 5) = some 200 := by simp [zln, mm_at5]
theorem mm_r6 {i : Int32} : zrI (mmk M m sc lg ar en) (m + 6) i = if i < 0 ∨ 3 ≤ i.toNatClampNeg then none else some (ar 5 i.toNatClampNeg) := by simp [zrI, mm_at6]
theorem mm_w6 {i v : Int32} : zwI (mmk M m sc lg ar en) (m + 6) i v = if i < 0 ∨ 3 ≤ i.toNatClampNeg then none else some (mmk M m sc lg (updA ar 5 (upd (ar 5) i.toNatClampNeg v)) en) := by
  have e : ∀ f : Nat → Int32, zSet (mmk M m sc lg ar en) (m + 6) (.inl (.int, 3, .inl f)) = mmk M m sc lg (updA ar 5 f) en := by
    intro f
    refine zMe_ext (fun q => ?_) rfl
    by_cases h : q = m + 6
    · subst h; simp [zSet, mmk, updA]
    · simp [zSet, mmk, h, updA]
  simp [zwI, mm_at6, e]
theorem mm_ln6 : zln (mmk M m sc lg ar en) (m + 6) = some 3 := by simp [zln, mm_at6]
theorem mm_r7 {i : Int32} : zrI (mmk M m sc lg ar en) (m + 7) i = if i < 0 ∨ 65536 ≤ i.toNatClampNeg then none else some (ar 6 i.toNatClampNeg) := by simp [zrI, mm_at7]
theorem mm_w7 {i v : Int32} : zwI (mmk M m sc lg ar en) (m + 7) i v = if i < 0 ∨ 65536 ≤ i.toNatClampNeg then none else some (mmk M m sc lg (updA ar 6 (upd (ar 6) i.toNatClampNeg v)) en) := by
  have e : ∀ f : Nat → Int32, zSet (mmk M m sc lg ar en) (m + 7) (.inl (.int, 65536, .inl f)) = mmk M m sc lg (updA ar 6 f) en := by
    intro f
    refine zMe_ext (fun q => ?_) rfl
    by_cases h : q = m + 7
    · subst h; simp [zSet, mmk, updA]
    · simp [zSet, mmk, h, updA]
  simp [zwI, mm_at7, e]
theorem mm_ln7 : zln (mmk M m sc lg ar en) (m + 7) = some 65536 := by simp [zln, mm_at7]
theorem mm_r8 {i : Int32} : zrI (mmk M m sc lg ar en) (m + 8) i = if i < 0 ∨ 65536 ≤ i.toNatClampNeg then none else some (ar 7 i.toNatClampNeg) := by simp [zrI, mm_at8]
theorem mm_w8 {i v : Int32} : zwI (mmk M m sc lg ar en) (m + 8) i v = if i < 0 ∨ 65536 ≤ i.toNatClampNeg then none else some (mmk M m sc lg (updA ar 7 (upd (ar 7) i.toNatClampNeg v)) en) := by
  have e : ∀ f : Nat → Int32, zSet (mmk M m sc lg ar en) (m + 8) (.inl (.int, 65536, .inl f)) = mmk M m sc lg (updA ar 7 f) en := by
    intro f
    refine zMe_ext (fun q => ?_) rfl
    by_cases h : q = m + 8
    · subst h; simp [zSet, mmk, updA]
    · simp [zSet, mmk, h, updA]
  simp [zwI, mm_at8, e]
theorem mm_ln8 : zln (mmk M m sc lg ar en) (m + 8) = some 65536 := by simp [zln, mm_at8]
theorem mm_r9 {i : Int32} : zrI (mmk M m sc lg ar en) (m + 9) i = if i < 0 ∨ 2 ≤ i.toNatClampNeg then none else some (ar 8 i.toNatClampNeg) := by simp [zrI, mm_at9]
theorem mm_w9 {i v : Int32} : zwI (mmk M m sc lg ar en) (m + 9) i v = if i < 0 ∨ 2 ≤ i.toNatClampNeg then none else some (mmk M m sc lg (updA ar 8 (upd (ar 8) i.toNatClampNeg v)) en) := by
  have e : ∀ f : Nat → Int32, zSet (mmk M m sc lg ar en) (m + 9) (.inl (.int, 2, .inl f)) = mmk M m sc lg (updA ar 8 f) en := by
    intro f
    refine zMe_ext (fun q => ?_) rfl
    by_cases h : q = m + 9
    · subst h; simp [zSet, mmk, updA]
    · simp [zSet, mmk, h, updA]
  simp [zwI, mm_at9, e]
theorem mm_ln9 : zln (mmk M m sc lg ar en) (m + 9) = some 2 := by simp [zln, mm_at9]
theorem mm_r10 {i : Int32} : zrZ (mmk M m sc lg ar en) (m + 10) i = if i < 0 ∨ 125 ≤ i.toNatClampNeg then none else some (ar 9 i.toNatClampNeg) := by simp [zrZ, mm_at10]
theorem mm_w10 {i v : Int32} : zwZ (mmk M m sc lg ar en) (m + 10) i v = if i < 0 ∨ 125 ≤ i.toNatClampNeg then none else some (mmk M m sc lg (updA ar 9 (upd (ar 9) i.toNatClampNeg (vp_nar .boolean v))) en) := by
  have e : ∀ f : Nat → Int32, zSet (mmk M m sc lg ar en) (m + 10) (.inl (.boolean, 125, .inl f)) = mmk M m sc lg (updA ar 9 f) en := by
    intro f
    refine zMe_ext (fun q => ?_) rfl
    by_cases h : q = m + 10
    · subst h; simp [zSet, mmk, updA]
    · simp [zSet, mmk, h, updA]
  simp [zwZ, mm_at10, e]
theorem mm_ln10 : zln (mmk M m sc lg ar en) (m + 10) = some 125 := by simp [zln, mm_at10]
theorem mm_r11 {i : Int32} : zrI (mmk M m sc lg ar en) (m + 11) i = if i < 0 ∨ 288 ≤ i.toNatClampNeg then none else some (ar 10 i.toNatClampNeg) := by simp [zrI, mm_at11]
theorem mm_w11 {i v : Int32} : zwI (mmk M m sc lg ar en) (m + 11) i v = if i < 0 ∨ 288 ≤ i.toNatClampNeg then none else some (mmk M m sc lg (updA ar 10 (upd (ar 10) i.toNatClampNeg v)) en) := by
  have e : ∀ f : Nat → Int32, zSet (mmk M m sc lg ar en) (m + 11) (.inl (.int, 288, .inl f)) = mmk M m sc lg (updA ar 10 f) en := by
    intro f
    refine zMe_ext (fun q => ?_) rfl
    by_cases h : q = m + 11
    · subst h; simp [zSet, mmk, updA]
    · simp [zSet, mmk, h, updA]
  simp [zwI, mm_at11, e]
theorem mm_ln11 : zln (mmk M m sc lg ar en) (m + 11) = some 288 := by simp [zln, mm_at11]
theorem mm_r12 {i : Int32} : zrL (mmk M m sc lg ar en) (m + 12) i = if i < 0 ∨ 10 ≤ i.toNatClampNeg then none else some (en i.toNatClampNeg) := by simp [zrL, mm_at12]
theorem mm_w12 {i : Int32} {v : Int64} : zwL (mmk M m sc lg ar en) (m + 12) i v = if i < 0 ∨ 10 ≤ i.toNatClampNeg then none else some (mmk M m sc lg ar (vp_updL en i.toNatClampNeg v)) := by
  have e : ∀ f : Nat → Int64, zSet (mmk M m sc lg ar en) (m + 12) (.inl (.long, 10, .inr (.inl f))) = mmk M m sc lg ar f := by
    intro f
    refine zMe_ext (fun q => ?_) rfl
    by_cases h : q = m + 12
    · subst h; simp [zSet, mmk]
    · simp [zSet, mmk, h]
  simp [zwL, mm_at12, e]
end MM
