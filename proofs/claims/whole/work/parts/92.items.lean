/-! items of the text, the class's side -/
section IT
variable {M : zMe} {r x4 to d : Nat} {ft : Int32} {L p : Nat} {T tx : Nat → Int32} {B : Nat → Nat}
/-- a number from lo to hi stands at p, or none does -/
theorem nm_case (T : Nat → Int32) (L p lo hi : Nat) : (∃ v, NmA T L p v ∧ lo ≤ v ∧ v ≤ hi) ∨ ∀ v, NmA T L p v → v < lo ∨ hi < v := by
  by_cases hv : ∃ v, NmA T L p v ∧ lo ≤ v ∧ v ≤ hi
  · exact Or.inl hv
  · refine Or.inr (fun v hvv => Classical.byContradiction (fun y => hv ⟨v, hvv, by omega, by omega⟩))
/-- no number: the fault is told, the answer is the least -/
theorem r_numB (h : Txt M x4 r tx T L) (hp : p ≤ L) {lo hi : Nat} (hv : ∀ v, NmA T L p v → v < lo ∨ hi < v) (hhi : hi < 2 ^ 31) (hlo : lo < 2 ^ 31) : f_X7_takeNumber r (nI lo) (nI hi) (rat M r x4 to T L p (-1)) = some (nI lo, rat M r x4 to T L p (nI (tkS T L p))) := by
  rw [r_numX h hp hv hhi hlo, rat_fail, Option.bind_some]
theorem r_breath (h : Txt M x4 r tx T L) (hto : to ≠ r) (hh : M.1 to = some (.inr (2, ho (nB B) d))) (hp : p ≤ L) : (∃ v w, v ≤ 1 ∧ 1 ≤ w ∧ w ≤ 9 ∧ NmA T L p v ∧ NmA T L (tkE T L p) w ∧ f_X7_readBreath r (rat M r x4 to T L p (-1)) = some (rat (zSet M to (.inr (2, ho (nB (upN B (4 + v) w)) d))) r x4 to T L (tkE T L (tkE T L p)) (-1))) ∨ (∃ q j w, (q = p ∨ (q = tkE T L p ∧ ∃ v, v ≤ 1 ∧ NmA T L p v)) ∧ (4 ≤ j ∧ j ≤ 5) ∧ f_X7_readBreath r (rat M r x4 to T L p (-1)) = some (rat (zSet M to (.inr (2, ho (nB (upN B j w)) d))) r x4 to T L q (nI (tkS T L q))) ∧ (q = p → ∀ v, NmA T L p v → 1 < v) ∧ (q = tkE T L p → q ≠ p → ∀ v, NmA T L q v → v < 1 ∨ 9 < v)) := by
  have hL := h.2.2.2
  have he := tkE_le (T := T) hp
  have hs := tkS_le (T := T) hp
  have ob : ∀ q (ft : Int32), zob (rat M r x4 to T L q ft) r 7 = some () := fun q ft => rm_ob
  have g0 : ∀ q (ft : Int32), zgN (rat M r x4 to T L q ft) r [7] 0 = some to := fun q ft => rm_g0
  have fin : ∀ q (ft : Int32) v w, v ≤ 1 → (if nI v = 0 then ((zgN (rat M r x4 to T L q ft) r [7] 0).bind fun a1 => (zpI (rat M r x4 to T L q ft) a1 [2] 4 (nI w)).bind fun M1 => f_X7_readBreath_b38 M1) else ((zgN (rat M r x4 to T L q ft) r [7] 0).bind fun a2 => (zpI (rat M r x4 to T L q ft) a2 [2] 5 (nI w)).bind fun M2 => f_X7_readBreath_b38 M2)) = some (rat (zSet M to (.inr (2, ho (nB (upN B (4 + v) w)) d))) r x4 to T L q ft) := by
    intro q ft v w hv
    rcases (show v = 0 ∨ v = 1 by omega) with rfl | rfl
    · rw [if_pos (show nI 0 = 0 from rfl), g0, Option.bind_some, rat_put hto hh (by omega), Option.bind_some, f_X7_readBreath_b38]
    · rw [if_neg (show ¬ nI 1 = 0 by decide), g0, Option.bind_some, rat_put hto hh (by omega), Option.bind_some, f_X7_readBreath_b38]
  rcases nm_case T L p 0 1 with ⟨v, v1, -, v2⟩ | hx
  · have t1 : f_X7_takeNumber r 0 1 (rat M r x4 to T L p (-1)) = some (nI v, rat M r x4 to T L (tkE T L p) (-1)) := r_numS (lo := 0) (hi := 1) h hp v1 (Nat.zero_le _) v2 (by omega)
    rcases nm_case T L (tkE T L p) 1 9 with ⟨w, w1, w2, w3⟩ | hy
    · have t2 : f_X7_takeNumber r 1 9 (rat M r x4 to T L (tkE T L p) (-1)) = some (nI w, rat M r x4 to T L (tkE T L (tkE T L p)) (-1)) := r_numS (lo := 1) (hi := 9) h he.2.1 w1 w2 w3 (by omega)
      refine Or.inl ⟨v, w, v2, w2, w3, v1, w1, ?_⟩
      rw [f_X7_readBreath, ob, Option.bind_some, t1, Option.bind_some, ob, Option.bind_some, t2, Option.bind_some]
      exact fin _ _ v w v2
    · have t2 : f_X7_takeNumber r 1 9 (rat M r x4 to T L (tkE T L p) (-1)) = some (nI 1, rat M r x4 to T L (tkE T L p) (nI (tkS T L (tkE T L p)))) := r_numB (lo := 1) (hi := 9) h he.2.1 hy (by omega) (by omega)
      have hne : tkS T L p < tkE T L p := he.2.2 (by rw [v1.1]; decide)
      refine Or.inr ⟨tkE T L p, 4 + v, 1, Or.inr ⟨rfl, v, v2, v1⟩, ⟨by omega, by omega⟩, ?_, fun z => by omega, fun _ _ u hu => hy u hu⟩
      rw [f_X7_readBreath, ob, Option.bind_some, t1, Option.bind_some, ob, Option.bind_some, t2, Option.bind_some]
      exact fin _ _ v 1 v2
  · have t1 : f_X7_takeNumber r 0 1 (rat M r x4 to T L p (-1)) = some (nI 0, rat M r x4 to T L p (nI (tkS T L p))) := r_numB (lo := 0) (hi := 1) h hp hx (by omega) (by omega)
    obtain ⟨w, w1, w2, t2⟩ := r_numF (M := M) (to := to) h hp (ft := nI (tkS T L p)) (nI_m1 (by omega)) (lo := 1) (hi := 9) (by omega) (by omega)
    have t2 : f_X7_takeNumber r 1 9 (rat M r x4 to T L p (nI (tkS T L p))) = _ := t2
    refine Or.inr ⟨p, 4 + 0, w, Or.inl rfl, ⟨by omega, by omega⟩, ?_, fun _ u hu => by have := hx u hu; omega, fun z z2 => absurd rfl z2⟩
    rw [f_X7_readBreath, ob, Option.bind_some, t1, Option.bind_some, ob, Option.bind_some, t2, Option.bind_some]
    exact fin _ _ 0 w (by omega)
end IT
