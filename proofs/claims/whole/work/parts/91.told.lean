/-! the hill that is told -/
theorem zS_swp (M : zMe) {a b : Nat} (h : a ≠ b) (e f : zEn) : zSet (zSet M a e) b f = zSet (zSet M b f) a e := by
  refine zMe_ext (fun q => ?_) rfl
  by_cases h1 : q = a
  · subst h1
    simp [zSet, h]
  · by_cases h2 : q = b
    · subst h2; simp [zSet, h1]
    · simp [zSet, h1, h2]
theorem zA_comm (M : zMe) {a : Nat} (h : a ≠ M.2.1) (e f : zEn) (n : Nat) : zAdd (zSet M a e) f n = zSet (zAdd M f n) a e := by
  refine zMe_ext (fun q => ?_) rfl
  by_cases h1 : q = a
  · subst h1
    simp [zSet, zAdd, h]
  · simp [zSet, zAdd, h1]
theorem ho_up (B : Nat → Nat) (d : Nat) {j : Nat} (hj : j < 7) (v : Nat) : ho (nB (upN B j v)) d = (ho (nB B) d).set j (.int (nI v)) := by
  rcases (show j = 0 ∨ j = 1 ∨ j = 2 ∨ j = 3 ∨ j = 4 ∨ j = 5 ∨ j = 6 by omega) with rfl | rfl | rfl | rfl | rfl | rfl | rfl <;> simp [ho, nB, upN, List.set]
section TO
variable {M : zMe} {r x4 to d : Nat} {ft : Int32} {L p : Nat} {T tx : Nat → Int32} {B : Nat → Nat}
theorem rat_out {q : Nat} (h : q ≠ r) : (rat M r x4 to T L p ft).1 q = M.1 q := rm_out h
theorem rat_set {a : Nat} (h : a ≠ r) (e : zEn) : zSet (rat M r x4 to T L p ft) a e = rat (zSet M a e) r x4 to T L p ft := zS_swp M (fun z => h z.symm) _ _
theorem rat_add (h : r ≠ M.2.1) (e : zEn) (n : Nat) : zAdd (rat M r x4 to T L p ft) e n = rat (zAdd M e n) r x4 to T L p ft := zA_comm M h _ _ n
/-- a number of the hill is set -/
theorem rat_put (hto : to ≠ r) (hh : M.1 to = some (.inr (2, ho (nB B) d))) {j : Nat} (hj : j < 7) (v : Nat) : zpI (rat M r x4 to T L p ft) to [2] j (nI v) = some (rat (zSet M to (.inr (2, ho (nB (upN B j v)) d))) r x4 to T L p ft) := by
  have hh' : (rat M r x4 to T L p ft).1 to = some (.inr (2, ho (nB B) d)) := by rw [rat_out hto]; exact hh
  simp only [zpI, zp, hh']
  rw [if_pos (by decide), ho_up B d hj v, rat_set hto]
/-- the text stays -/
theorem Txt.set (h : Txt M x4 r tx T L) {a : Nat} (ha : x4 ≠ a) (e : zEn) : Txt (zSet M a e) x4 r tx T L := ⟨h.1, by rw [zS_n _ _ ha]; exact h.2.1, h.2.2⟩
theorem Txt.add (h : Txt M x4 r tx T L) (ha : x4 < M.2.1) (e : zEn) (n : Nat) : Txt (zAdd M e n) x4 r tx T L := ⟨h.1, by rw [zA_n _ _ _ (by omega)]; exact h.2.1, h.2.2⟩
/-- a dog is added -/
theorem rat_dog (hto : to ≠ r) (hdr : d ≠ r) (hr : r < M.2.1) (htl : to < M.2.1) (hdl : d < M.2.1) {f : Nat → Option Nat} (hh : M.1 to = some (.inr (2, ho (nB B) d))) (hd : M.1 d = some (dgA f)) (h3 : B 6 < 3) {D : Nat → Nat} (hD : D 0 ≤ 4) (n : Nat) : f_X2_addDog to M.2.1 (rat (zAdd M (dogCell D) n) r x4 to T L p ft) = some (nI (B 6), rat (zSet (zSet (zAdd M (dogCell D) n) d (dgA (va_up f (B 6) (some M.2.1)))) to (.inr (2, ho (nB (bD B D)) d))) r x4 to T L p ft) := by
  have h1 : (rat (zAdd M (dogCell D) n) r x4 to T L p ft).1 to = some (.inr (2, ho (nB B) d)) := by rw [rat_out hto, zA_n _ _ _ (by omega)]; exact hh
  have h2 : (rat (zAdd M (dogCell D) n) r x4 to T L p ft).1 d = some (dgA f) := by rw [rat_out hdr, zA_n _ _ _ (by omega)]; exact hd
  have h4 : (rat (zAdd M (dogCell D) n) r x4 to T L p ft).1 M.2.1 = some (dogCell D) := by rw [rat_out (by omega)]; exact zA_s _ _ _
  rw [c_addDog h1 h2 h3 hD h4, rat_set hdr, rat_set hto]
end TO
