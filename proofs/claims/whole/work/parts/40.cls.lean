/-! the class: its object, a hill, a dog -/
def xo (x h : Nat) (tl : Int32) (ab be : Int64) (cb cn cf : Int32) : List Value := [.ref h, .ref (x + 3), .ref (x + 4), .int tl, .long ab, .long be, .int cb, .int cn, .int cf, .ref (x + 5), .ref (x + 23), .ref (x + 27), .ref (x + 29), .ref (x + 30)]
def ho (bk : Nat → Int32) (d : Nat) : List Value := [.int (bk 0), .int (bk 1), .int (bk 2), .int (bk 3), .int (bk 4), .int (bk 5), .int (bk 6), .ref d]
theorem zSS (M : zMe) (a : Nat) (e f : zEn) : zSet (zSet M a e) a f = zSet M a f := zMe_ext (fun q => by by_cases h : q = a <;> simp [zSet, h]) rfl
def cpl (n p : Int32) : Int32 := if p < 0 then 0 else if n ≤ p then 0 else 1
theorem cpl01 (n p : Int32) : cpl n p = 0 ∨ cpl n p = 1 := by unfold cpl; split <;> (try split) <;> simp
def chold (b i : Int32) : Int32 := if ((b >>> (i &&& 31)) &&& 1) = 0 then 0 else 1
theorem chold01 (b i : Int32) : chold b i = 0 ∨ chold b i = 1 := by unfold chold; split <;> simp
theorem c_holds (b i : Int32) (M : zMe) : f_X11_holds b i M = some (chold b i, M) := by
  unfold f_X11_holds f_X11_holds_b13 chold
  split <;> simp
def aIn (lo hi v : Int32) : Prop := ¬ v < lo ∧ ¬ hi < v
section CL
variable {M : zMe} {x h d : Nat} {tl : Int32} {ab be : Int64} {cb cn cf : Int32} {bk : Nat → Int32}
theorem c_obx (hx : M.1 x = some (.inr (11, xo x h tl ab be cb cn cf))) : zob M x 11 = some () := by simp [zob, hx]
theorem c_obh (hh : M.1 h = some (.inr (2, ho bk d))) : zob M h 2 = some () := by simp [zob, hh]
theorem c_h (hx : M.1 x = some (.inr (11, xo x h tl ab be cb cn cf))) : zgN M x [11] 0 = some h := by simp [zgN, zg, hx, xo]
theorem c_bad (hx : M.1 x = some (.inr (11, xo x h tl ab be cb cn cf))) (r : Int32) : f_X11_refusedBad x r M = some (r, zSet M x (.inr (11, xo x h tl ab be (cb + 1) cn cf))) := by
  simp [f_X11_refusedBad, zgI, zg, zpI, zp, hx, xo]
theorem c_no (hx : M.1 x = some (.inr (11, xo x h tl ab be cb cn cf))) : f_X11_refusedNo x M = some (-3, zSet M x (.inr (11, xo x h tl ab be cb (cn + 1) cf))) := by
  simp [f_X11_refusedNo, zgI, zg, zpI, zp, hx, xo]
theorem c_full (hx : M.1 x = some (.inr (11, xo x h tl ab be cb cn cf))) : f_X11_refusedFull x M = some (-4, zSet M x (.inr (11, xo x h tl ab be cb cn (cf + 1)))) := by
  simp [f_X11_refusedFull, zgI, zg, zpI, zp, hx, xo]
theorem c_isPlace (hh : M.1 h = some (.inr (2, ho bk d))) (p : Int32) : f_X2_isPlace h p M = some (cpl (bk 0) p, M) := by
  unfold f_X2_isPlace f_X2_isPlace_b16 f_X2_isPlace_b17 cpl
  split
  · simp
  · simp only [zgI, zg, hh, ho]
    simp
    split <;> simp
theorem c_all (hh : M.1 h = some (.inr (2, ho bk d))) : f_X2_allPlaces h M = some (((1 : Int32) <<< (bk 0 &&& 31)) - 1, M) := by
  simp [f_X2_allPlaces, zgI, zg, hh, ho]
/-- a hill whose numbers 0 .. 6 are these -/
def bset (bk : Nat → Int32) (n : Int32) : Nat → Int32 := fun k => if k = 0 then n else if k = 4 then bk 4 else if k = 5 then bk 5 else 0
theorem c_settle (hh : M.1 h = some (.inr (2, ho bk d))) (n : Int32) : f_X2_settle h n M = some (zSet M h (.inr (2, ho (bset bk n) d))) := by
  simp [f_X2_settle, zpI, zp, hh, ho, bset, zS_s, zSS]
theorem c_places (hx : M.1 x = some (.inr (11, xo x h tl ab be cb cn cf))) (hh : M.1 h = some (.inr (2, ho bk d))) (v : Int32) : f_X11_places x v M = if v < 2 ∨ ¬ v ≤ 5 then some (-2, zSet M x (.inr (11, xo x h tl ab be (cb + 1) cn cf))) else some (bk 0, zSet M h (.inr (2, ho (bset bk v) d))) := by
  have g0 : zgI M h [2] 0 = some (bk 0) := by simp [zgI, zg, hh, ho]
  unfold f_X11_places f_X11_places_b10
  simp only [c_obx hx, Option.bind_some, c_bad hx, c_h hx, c_obh hh, c_settle hh, g0]
  by_cases h1 : v < 2
  · rw [if_pos h1, if_pos (Or.inl h1)]
  · by_cases h2 : v ≤ 5
    · rw [if_neg h1, if_pos h2, if_neg (fun o => o.elim h1 (fun z => z h2))]
    · rw [if_neg h1, if_neg h2, if_pos (Or.inr h2)]
theorem c_shut (hx : M.1 x = some (.inr (11, xo x h tl ab be cb cn cf))) (hh : M.1 h = some (.inr (2, ho bk d))) (p is : Int32) : f_X11_shut x p is M = if cpl (bk 0) p = 0 then some (-2, zSet M x (.inr (11, xo x h tl ab be (cb + 1) cn cf))) else if chold (bk 1) p = is then some (-3, zSet M x (.inr (11, xo x h tl ab be cb (cn + 1) cf))) else some (1, zSet M h (.inr (2, ho (upd bk 1 (bk 1 ^^^ ((1 : Int32) <<< (p &&& 31)))) d))) := by
  have g1 : zgI M h [2] 1 = some (bk 1) := by simp [zgI, zg, hh, ho]
  have g2 : ∀ v, zpI M h [2] 1 v = some (zSet M h (.inr (2, ho (upd bk 1 v) d))) := fun v => by simp [zpI, zp, hh, ho, upd]
  simp only [f_X11_shut, c_h hx, Option.bind_some, c_obh hh, c_isPlace hh, c_obx hx, c_bad hx, c_holds, c_no hx, g1, g2]
theorem c_clear (hx : M.1 x = some (.inr (11, xo x h tl ab be cb cn cf))) : f_X11_clear x M = some (tl, zSet M x (.inr (11, xo x h 0 ab be cb cn cf))) := by
  simp [f_X11_clear, zgI, zg, zpI, zp, hx, xo]
theorem c_part (hx : M.1 x = some (.inr (11, xo x h tl ab be cb cn cf))) (w : Int32) : f_X11_part x w M = if w < 0 ∨ ¬ w ≤ 1 then some (-2, zSet M x (.inr (11, xo x h tl ab be (cb + 1) cn cf))) else some (if w = 0 then ab else be, M) := by
  unfold f_X11_part f_X11_part_b9 f_X11_part_b32
  have g1 : zgL M x [11] 4 = some ab := by simp [zgL, zg, hx, xo]
  have g2 : zgL M x [11] 5 = some be := by simp [zgL, zg, hx, xo]
  have e : ((-2 : Int32)).toInt64 = -2 := by decide
  simp only [c_obx hx, Option.bind_some, c_bad hx, g1, g2, e]
  by_cases h1 : w < 0
  · simp only [if_pos h1, if_pos (show w < 0 ∨ ¬ w ≤ 1 from Or.inl h1)]
  · by_cases h2 : w ≤ 1
    · simp only [if_neg h1, if_pos h2, if_neg (show ¬ (w < 0 ∨ ¬ w ≤ 1) from fun o => o.elim h1 (fun z => z h2))]
      by_cases h3 : w = 0
      · simp only [if_pos h3]
      · simp only [if_neg h3]
    · simp only [if_neg h1, if_neg h2, if_pos (show w < 0 ∨ ¬ w ≤ 1 from Or.inr h2)]
theorem c_status (hx : M.1 x = some (.inr (11, xo x h tl ab be cb cn cf))) (w : Int32) : f_X11_status x w M = if w = 0 then some (cb, M) else if w = 1 then some (cn, M) else if w = 2 then some (cf, M) else some (-1, zSet M x (.inr (11, xo x h tl ab be (cb + 1) cn cf))) := by
  have g1 : zgI M x [11] 6 = some cb := by simp [zgI, zg, hx, xo]
  have g2 : zgI M x [11] 7 = some cn := by simp [zgI, zg, hx, xo]
  have g3 : zgI M x [11] 8 = some cf := by simp [zgI, zg, hx, xo]
  simp only [f_X11_status, g1, g2, g3, Option.bind_some, c_obx hx, c_bad hx]
def cput (bk : Nat → Int32) (w v : Int32) : Int32 := if w = 0 then cpl (bk 0) v else if w = 1 then (if v < 0 then 0 else if ((1 : Int32) <<< (bk 0 &&& 31)) - 1 < v then 0 else 1) else if w = 2 ∨ w = 3 then (if v < 1 then 0 else if 9 < v then 0 else 1) else 0
theorem c_canPut (hx : M.1 x = some (.inr (11, xo x h tl ab be cb cn cf))) (hh : M.1 h = some (.inr (2, ho bk d))) (w v : Int32) : f_X11_canPut x w v M = some (cput bk w v, M) := by
  unfold f_X11_canPut f_X11_canPut_b62 f_X11_canPut_b60 f_X11_canPut_b61 f_X11_canPut_b77 f_X11_canPut_b78 cput
  by_cases w0 : w = 0
  · simp only [w0, if_true, c_h hx, Option.bind_some, c_obh hh, c_isPlace hh]
    rw [if_pos (cpl01 _ _)]
  · by_cases w1 : w = 1
    · subst w1
      simp only [c_h hx, Option.bind_some, c_obh hh, c_all hh]
      by_cases v0 : v < 0
      · simp [v0]
      · by_cases v1 : ((1 : Int32) <<< (bk 0 &&& 31)) - 1 < v <;> simp [v0, v1]
    · have e : (if v < 1 then (if (0 : Int32) = 0 ∨ (0 : Int32) = 1 then some ((0 : Int32), M) else none) else if 9 < v then (if (0 : Int32) = 0 ∨ (0 : Int32) = 1 then some ((0 : Int32), M) else none) else (if (1 : Int32) = 0 ∨ (1 : Int32) = 1 then some ((1 : Int32), M) else none)) = some (if v < 1 then 0 else if 9 < v then 0 else 1, M) := by
        by_cases v0 : v < 1
        · simp [v0]
        · by_cases v1 : 9 < v <;> simp [v0, v1]
      clear e
      by_cases w2 : w = 2
      · subst w2
        by_cases v0 : v < 1
        · simp (decide := true) only [if_pos v0, if_true, if_false]
        · by_cases v1 : 9 < v
          · simp (decide := true) only [if_neg v0, if_pos v1, if_true, if_false]
          · simp (decide := true) only [if_neg v0, if_neg v1, if_true, if_false]
      · by_cases w3 : w = 3
        · subst w3
          by_cases v0 : v < 1
          · simp (decide := true) only [if_pos v0, if_true, if_false]
          · by_cases v1 : 9 < v
            · simp (decide := true) only [if_neg v0, if_pos v1, if_true, if_false]
            · simp (decide := true) only [if_neg v0, if_neg v1, if_true, if_false]
        · rw [if_neg w0, if_neg w1, if_neg w2, if_neg w3, if_neg w0, if_neg w1, if_neg (fun o => o.elim w2 w3)]
theorem c_put (hx : M.1 x = some (.inr (11, xo x h tl ab be cb cn cf))) (hh : M.1 h = some (.inr (2, ho bk d))) (w v : Int32) : f_X11_put x w v M = if cput bk w v = 0 then some (-2, zSet M x (.inr (11, xo x h tl ab be (cb + 1) cn cf))) else if w = 0 then some (bk 2, zSet M h (.inr (2, ho (upd bk 2 v) d))) else if w = 1 then some (bk 3, zSet M h (.inr (2, ho (upd bk 3 v) d))) else if w = 2 then some (bk 4, zSet M h (.inr (2, ho (upd bk 4 v) d))) else some (bk 5, zSet M h (.inr (2, ho (upd bk 5 v) d))) := by
  have g2 : zgI M h [2] 2 = some (bk 2) := by simp [zgI, zg, hh, ho]
  have g3 : zgI M h [2] 3 = some (bk 3) := by simp [zgI, zg, hh, ho]
  have g4 : zgI M h [2] 4 = some (bk 4) := by simp [zgI, zg, hh, ho]
  have g5 : zgI M h [2] 5 = some (bk 5) := by simp [zgI, zg, hh, ho]
  have p2 : ∀ v, zpI M h [2] 2 v = some (zSet M h (.inr (2, ho (upd bk 2 v) d))) := fun v => by simp [zpI, zp, hh, ho, upd]
  have p3 : ∀ v, zpI M h [2] 3 v = some (zSet M h (.inr (2, ho (upd bk 3 v) d))) := fun v => by simp [zpI, zp, hh, ho, upd]
  have p4 : ∀ v, zpI M h [2] 4 v = some (zSet M h (.inr (2, ho (upd bk 4 v) d))) := fun v => by simp [zpI, zp, hh, ho, upd]
  have p5 : ∀ v, zpI M h [2] 5 v = some (zSet M h (.inr (2, ho (upd bk 5 v) d))) := fun v => by simp [zpI, zp, hh, ho, upd]
  simp only [f_X11_put, f_X11_put_b117, c_obx hx, Option.bind_some, c_canPut hx hh, c_bad hx, c_h hx, g2, g3, g4, g5, p2, p3, p4, p5]
end CL
