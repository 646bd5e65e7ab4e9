/-! the six words -/
def wds (k : Nat) : List Nat := [[112, 108, 97, 99, 101, 115], [115, 104, 117, 116], [103, 111, 97, 108], [98, 97, 114, 107, 115], [98, 114, 101, 97, 116, 104], [100, 111, 103]].getD k []
def wl (k : Nat) : Nat := (wds k).length
def wc (k i : Nat) : Nat := (wds k).getD i 0
/-- what the text constants answer -/
def ZS (sa : Nat → Nat) : Prop := ∀ k, k < 6 → zsL sa (sa k) = some (nI (wl k)) ∧ ∀ i, i < wl k → zsC sa (sa k) (nI i) = some (nI (wc k i))
def IsW (T : Nat → Int32) (L kd s e k : Nat) : Prop := kd = 1 ∧ e - s = wl k ∧ ∀ i, i < wl k → btz T L (s + i) = nI (wc k i)
theorem wl_7 : ∀ k, k < 6 → wl k ≤ 6 := by decide +kernel
theorem wc_B : ((List.range 6).all fun k => (List.range (wl k)).all fun i => decide (1 ≤ wc k i ∧ wc k i < 256)) = true := by decide +kernel
theorem wc_p {k i : Nat} (hk : k < 6) (hi : i < wl k) : 1 ≤ wc k i ∧ wc k i < 256 := by
  have h := List.all_eq_true.mp wc_B k (List.mem_range.mpr hk)
  exact of_decide_eq_true (List.all_eq_true.mp h i (List.mem_range.mpr hi))
theorem n_subz {a b : Nat} (h : b ≤ a) : nI a - nI b = nI (a - b) := by
  have e : nI a = nI (a - b) + nI b := by rw [nI_add]; congr 1; omega
  rw [e, Int32.add_sub_cancel]
section RW
variable {M : zMe} {r x4 to : Nat} {ft : Int32} {L kd s e : Nat} {T tx : Nat → Int32} {sa : Nat → Nat}
theorem r_word (h : Txt M x4 r tx T L) (hZ : ZS sa) {k : Nat} (hk : k < 6) (hkd : kd ≤ 4) (hse : s ≤ e) (he : e ≤ L) : ∃ v, f_X7_isWord sa r (sa k) (rmk M r x4 to ft L kd s e) = some (v, rmk M r x4 to ft L kd s e) ∧ ((v = 1 ∧ IsW T L kd s e k) ∨ (v = 0 ∧ ¬ IsW T L kd s e k)) := by
  obtain ⟨z1, z2⟩ := hZ k hk
  have hL := h.2.2.2
  have h7 := wl_7 k hk
  rw [f_X7_isWord, rm_g4, Option.bind_some, rm_g6, Option.bind_some, rm_g5, Option.bind_some, z1, Option.bind_some, n_subz hse, f_X7_isWord_b24]
  by_cases c1 : kd = 1
  · by_cases c2 : e - s = wl k
    · rw [if_pos (show nI kd = 1 by rw [c1]; rfl), if_pos (by rw [c2])]
      refine loopX (S := Unit) (R := Option (Int32 × zMe)) (fun fuel j _ => f_X7_isWord_b28 sa fuel r (sa k) (nI j) (rmk M r x4 to ft L kd s e)) (wl k) (fun j _ => ∀ i, i < j → btz T L (s + i) = nI (wc k i)) (fun Q => ∃ v, Q = some (v, rmk M r x4 to ft L kd s e) ∧ ((v = 1 ∧ IsW T L kd s e k) ∨ (v = 0 ∧ ¬ IsW T L kd s e k))) (by omega) (fun fu j _ hj hI => ?_) (fun fu _ hI => ?_) () (fun i hi => by omega)
      · have hst : f_X7_isWord_b28 sa (fu + 1) r (sa k) (nI j) (rmk M r x4 to ft L kd s e) = if btz T L (s + j) = nI (wc k j) then f_X7_isWord_b28 sa fu r (sa k) (nI (j + 1)) (rmk M r x4 to ft L kd s e) else some (0, rmk M r x4 to ft L kd s e) := by
          rw [f_X7_isWord_b28, z1, Option.bind_some, if_neg (nI_ge hj (by omega)), rm_g5, Option.bind_some, rm_ob, Option.bind_some, nI_add, r_byte h (by omega), Option.bind_some, z2 j hj, Option.bind_some, zlet, nI_1]
        by_cases q : btz T L (s + j) = nI (wc k j)
        · refine Or.inl ⟨(), ?_, fun i hi => ?_⟩
          · show f_X7_isWord_b28 sa (fu + 1) r (sa k) (nI j) (rmk M r x4 to ft L kd s e) = _
            rw [hst, if_pos q]
          · by_cases z : i = j
            · rw [z]; exact q
            · exact hI i (by omega)
        · refine Or.inr ⟨0, ?_, Or.inr ⟨rfl, fun w => q (w.2.2 j hj)⟩⟩
          show f_X7_isWord_b28 sa (fu + 1) r (sa k) (nI j) (rmk M r x4 to ft L kd s e) = _
          rw [hst, if_neg q]
      · refine ⟨1, ?_, Or.inl ⟨rfl, c1, c2, hI⟩⟩
        show f_X7_isWord_b28 sa (fu + 1) r (sa k) (nI (wl k)) (rmk M r x4 to ft L kd s e) = _
        rw [f_X7_isWord_b28, z1, Option.bind_some, if_pos (nI_le (Nat.le_refl _) (by omega))]
    · rw [if_pos (show nI kd = 1 by rw [c1]; rfl), if_neg (fun z => c2 ((nI_eq (by omega) (by omega)).mp z))]
      exact ⟨0, rfl, Or.inr ⟨rfl, fun w => c2 w.2.1⟩⟩
  · rw [if_neg (show ¬ nI kd = 1 from fun z => c1 ((nI_eq (b := 1) (by omega) (by omega)).mp z))]
    exact ⟨0, rfl, Or.inr ⟨rfl, fun w => c1 w.1⟩⟩
end RW
/-! the reference's number of a word -/
def fz (b : Nat → Nat) : Nat → Nat
  | 0 => 0
  | n + 1 => 256 * fz b n + b n
theorem fz_lt {b : Nat → Nat} : ∀ n, (∀ i, i < n → b i < 256) → fz b n < 256 ^ n
  | 0, _ => by rw [fz]; decide
  | n + 1, h => by
    have := fz_lt n (fun i hi => h i (by omega))
    have := h n (by omega)
    rw [fz, Nat.pow_succ]
    omega
theorem fz_inj {b c : Nat → Nat} : ∀ n k, (∀ i, i < n → 1 ≤ b i ∧ b i < 256) → (∀ i, i < k → 1 ≤ c i ∧ c i < 256) → fz b n = fz c k → n = k ∧ ∀ i, i < n → b i = c i
  | 0, 0, _, _, _ => ⟨rfl, fun i hi => by omega⟩
  | 0, k + 1, _, h2, h3 => by
    have := h2 k (by omega)
    rw [fz, fz] at h3
    omega
  | n + 1, 0, h1, _, h3 => by
    have := h1 n (by omega)
    rw [fz, fz] at h3
    omega
  | n + 1, k + 1, h1, h2, h3 => by
    have a := h1 n (by omega)
    have c' := h2 k (by omega)
    rw [fz, fz] at h3
    obtain ⟨e1, e2⟩ := fz_inj n k (fun i hi => h1 i (by omega)) (fun i hi => h2 i (by omega)) (by omega)
    subst e1
    refine ⟨rfl, fun i hi => ?_⟩
    by_cases z : i = n
    · rw [z]; omega
    · exact e2 i (by omega)
theorem fz_cong {b c : Nat → Nat} : ∀ n, (∀ i, i < n → b i = c i) → fz b n = fz c n
  | 0, _ => rfl
  | n + 1, h => by rw [fz, fz, fz_cong n (fun i hi => h i (by omega)), h n (by omega)]
theorem fz_w : fz (wc 0) (wl 0) = 123610792682867 ∧ fz (wc 1) (wl 1) = 1936225652 ∧ fz (wc 2) (wl 2) = 1735352684 ∧ fz (wc 3) (wl 3) = 422541683571 ∧ fz (wc 4) (wl 4) = 108243466679400 ∧ fz (wc 5) (wl 5) = 6582119 := by decide +kernel
/-- letters are from 97 on -/
theorem kd_1 {b : Int32} (h : kdz b = 1) : ∃ c, 97 ≤ c ∧ c ≤ 122 ∧ b = nI c := by
  unfold kdz at h
  by_cases h0 : 0 ≤ b
  · rw [if_pos h0] at h
    by_cases h1 : b < 97
    · rw [if_pos h1] at h
      exfalso
      revert h
      repeat' split
      all_goals (intro z; omega)
    · rw [if_neg h1] at h
      by_cases h4 : 122 < b
      · rw [if_pos h4] at h; omega
      · rcases zin_r (a := 97) (b := 122) (by omega) (by omega) b with ⟨-, y | y⟩ | ⟨c, c1, c2, c3⟩
        · exact absurd y h1
        · exact absurd y h4
        · exact ⟨c, c1, c2, c3⟩
  · rw [if_neg h0] at h; omega
