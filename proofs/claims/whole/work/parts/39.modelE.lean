def rowI (n : Nat) (v : Int32) : Int32 := if v < 0 then 0 else if isR n v.toNatClampNeg then 1 else 0
theorem rowI_n {n r : Nat} (hr : r < 2 ^ 31) : rowI n (nI r) = if isR n r then 1 else 0 := by
  unfold rowI
  rw [if_neg (nI_pos hr), nI_clamp hr]
theorem rowI_case (n : Nat) (v : Int32) : rowI n v = 0 ∨ (rowI n v = 1 ∧ ∃ r, RowOK n r ∧ r < 2 ^ 31 ∧ v = nI r) := by
  by_cases h : v < 0
  · exact Or.inl (by unfold rowI; rw [if_pos h])
  · obtain ⟨r, hr, rfl⟩ := nI_of h
    rw [rowI_n hr]
    by_cases hq : isR n r = true
    · exact Or.inr ⟨if_pos hq, r, (isR_iff n r).mp hq, hr, rfl⟩
    · exact Or.inl (if_neg hq)
/-- the bytes that type writes -/
def tyb (v : Int64) (k : Nat) : Int32 := ((v >>> ((nI (8 * k)).toInt64 &&& 63)) &&& (255 : Int64)).toInt32
def tyt (f : Nat → Int32) (g : Nat → Int32) (L n : Nat) : Nat → Nat → Int32
  | 0 => f
  | j + 1 => upd (tyt f g L n j) (L + j) (g (n - 1 - j))
def imt (f bk : Nat → Int32) (i : Nat) : Nat → Nat → Int32
  | 0 => f
  | j + 1 => upd (imt f bk i j) (25 * i + j) (bk j)
def fmt (bk im : Nat → Int32) (i : Nat) : Nat → Nat → Int32
  | 0 => bk
  | j + 1 => upd (fmt bk im i j) j (im (25 * i + j))
theorem imt_at (f bk : Nat → Int32) (i : Nat) : ∀ j q, imt f bk i j q = if 25 * i ≤ q ∧ q < 25 * i + j then bk (q - 25 * i) else f q
  | 0, q => by rw [if_neg (by omega)]; rfl
  | j + 1, q => by
    rw [imt, upd]
    by_cases h : q = 25 * i + j
    · rw [if_pos h, if_pos (by omega), h, show 25 * i + j - 25 * i = j by omega]
    · rw [if_neg h, imt_at f bk i j q]
      by_cases h2 : 25 * i ≤ q ∧ q < 25 * i + j
      · rw [if_pos h2, if_pos (by omega)]
      · rw [if_neg h2, if_neg (by omega)]
theorem fmt_at (bk im : Nat → Int32) (i : Nat) : ∀ j q, fmt bk im i j q = if q < j then im (25 * i + q) else bk q
  | 0, q => by rw [if_neg (by omega)]; rfl
  | j + 1, q => by
    rw [fmt, upd]
    by_cases h : q = j
    · rw [if_pos h, if_pos (by omega), h]
    · rw [if_neg h, fmt_at bk im i j q]
      by_cases h2 : q < j
      · rw [if_pos h2, if_pos (by omega)]
      · rw [if_neg h2, if_neg (by omega)]
theorem tyt_at (f g : Nat → Int32) (L n : Nat) : ∀ j q, tyt f g L n j q = if L ≤ q ∧ q < L + j then g (n - 1 - (q - L)) else f q
  | 0, q => by rw [if_neg (by omega)]; rfl
  | j + 1, q => by
    rw [tyt, upd]
    by_cases h : q = L + j
    · rw [if_pos h, if_pos (by omega), h, show L + j - L = j by omega]
    · rw [if_neg h, tyt_at f g L n j q]
      by_cases h2 : L ≤ q ∧ q < L + j
      · rw [if_pos h2, if_pos (by omega)]
      · rw [if_neg h2, if_neg (by omega)]
theorem upd_same {f : Nat → Int32} {i : Nat} {x : Int32} (h : f i = x) : upd f i x = f := by
  funext k
  by_cases hk : k = i
  · subst hk; simp [upd, h]
  · simp [upd, hk]
theorem upd_twice (f : Nat → Int32) (i : Nat) (x y : Int32) : upd (upd f i x) i y = upd f i y := by
  funext k
  by_cases hk : k = i <;> simp [upd, hk]
theorem n_pm (n : Nat) : nI (n + 1) - 1 = nI (n + 1) + (-1) := by rw [nI_pred, pk_m1]
def hs (h : Int64) (v : Int32) : Int64 := 31 * h + v.toInt64
def hsF (f : Nat → Int32) (h : Int64) : Nat → Int64
  | 0 => h
  | k + 1 => hs (hsF f h k) (f k)
section ME
variable {M : zMe} {m : Nat} {sc : Nat → Int32} {lg : Nat → Int64} {ar : Nat → Nat → Int32} {en : Nat → Int64} {B : Nat → Nat}
theorem m_isRow (hB : Bk (ar 0) B) (hn : B 0 ≤ 5) (v : Int32) : f_X12_isRow m v (mmk M m sc lg ar en) = some (rowI (B 0) v, mmk M m sc lg ar en) := by
  by_cases h : v < 0
  · rw [m_isRow_neg hB hn h, rowI, if_pos h]
  · obtain ⟨r, hr, rfl⟩ := nI_of h
    rw [m_isRowN hB hn hr, rowI_n hr]
theorem m_dog_bad (hB : Bk (ar 0) B) (hn : B 0 ≤ 5) {k a b : Int32} (h : zin k 0 4 = 0 ∨ k = 2 ∨ k = 3 ∨ rowI (B 0) a = 0 ∨ rowI (B 0) b = 0) : f_X12_dog m k a b (mmk M m sc lg ar en) = some (-2, mmk M m sc lg (mref ar 0) en) := by
  simp only [f_X12_dog, f_X12_dog_b35, mm_ob, m_in, m_isRow hB hn, m_bad, Option.bind_some]
  by_cases h1 : zin k 0 4 = 0
  · simp only [if_pos h1]
  · by_cases h2 : k = 2
    · simp only [if_neg h1, if_pos h2]
    · by_cases h3 : k = 3
      · simp only [if_neg h1, if_neg h2, if_pos h3]
      · by_cases h4 : rowI (B 0) a = 0
        · simp only [if_neg h1, if_neg h2, if_neg h3, if_pos h4]
        · by_cases h5 : rowI (B 0) b = 0
          · simp only [if_neg h1, if_neg h2, if_neg h3, if_neg h4, if_pos h5]
          · exact absurd h (by simp [h1, h2, h3, h4, h5])
theorem m_dog_ok (hB : Bk (ar 0) B) (hW : WB B) {k a b : Int32} (h1 : ¬ zin k 0 4 = 0) (h2 : ¬ k = 2) (h3 : ¬ k = 3) (h4 : ¬ rowI (B 0) a = 0) (h5 : ¬ rowI (B 0) b = 0) : f_X12_dog m k a b (mmk M m sc lg ar en) = if B 6 = 3 then some (-4, mmk M m sc lg (mref ar 2) en) else some (nI (B 6), mmk M m sc lg (updA ar 0 (bcomes (ar 0) (B 6) k a b 0 0 0)) en) := by
  simp only [f_X12_dog, mm_ob, m_in, m_isRow hB hW.n5, m_bad, Option.bind_some, if_neg h1, if_neg h2, if_neg h3, if_neg h4, if_neg h5, m_comes hB hW.nd]
  split <;> rfl
theorem m_pup_bad (hB : Bk (ar 0) B) (hn : B 0 ≤ 5) {k a b c d l : Int32} (h : zin k 2 3 = 0 ∨ rowI (B 0) a = 0 ∨ rowI (B 0) b = 0 ∨ rowI (B 0) c = 0 ∨ rowI (B 0) d = 0 ∨ zin l 1 3 = 0) : f_X12_pup m k a b c d l (mmk M m sc lg ar en) = some (-2, mmk M m sc lg (mref ar 0) en) := by
  simp only [f_X12_pup, f_X12_pup_b53, mm_ob, m_in, m_isRow hB hn, m_bad, Option.bind_some]
  by_cases h1 : zin k 2 3 = 0
  · simp only [if_pos h1]
  · by_cases h2 : rowI (B 0) a = 0
    · simp only [if_neg h1, if_pos h2]
    · by_cases h3 : rowI (B 0) b = 0
      · simp only [if_neg h1, if_neg h2, if_pos h3]
      · by_cases h4 : rowI (B 0) c = 0
        · simp only [if_neg h1, if_neg h2, if_neg h3, if_pos h4]
        · by_cases h5 : rowI (B 0) d = 0
          · simp only [if_neg h1, if_neg h2, if_neg h3, if_neg h4, if_pos h5]
          · by_cases h6 : zin l 1 3 = 0
            · simp only [if_neg h1, if_neg h2, if_neg h3, if_neg h4, if_neg h5, if_pos h6]
            · exact absurd h (by simp [h1, h2, h3, h4, h5, h6])
theorem m_pup_ok (hB : Bk (ar 0) B) (hW : WB B) {k a b c d l : Int32} (h1 : ¬ zin k 2 3 = 0) (h2 : ¬ rowI (B 0) a = 0) (h3 : ¬ rowI (B 0) b = 0) (h4 : ¬ rowI (B 0) c = 0) (h5 : ¬ rowI (B 0) d = 0) (h6 : ¬ zin l 1 3 = 0) : f_X12_pup m k a b c d l (mmk M m sc lg ar en) = if B 6 = 3 then some (-4, mmk M m sc lg (mref ar 2) en) else some (nI (B 6), mmk M m sc lg (updA ar 0 (bcomes (ar 0) (B 6) k a b c d l)) en) := by
  simp only [f_X12_pup, mm_ob, m_in, m_isRow hB hW.n5, m_bad, Option.bind_some, if_neg h1, if_neg h2, if_neg h3, if_neg h4, if_neg h5, if_neg h6, m_comes hB hW.nd]
  split <;> rfl
theorem m_type_bad (v : Int64) {n : Int32} (h : zin n 1 8 = 0) : f_X12_type m v n (mmk M m sc lg ar en) = some (-2, mmk M m sc lg (mref ar 0) en) := by
  simp only [f_X12_type, mm_ob, m_in, m_bad, Option.bind_some, if_pos h]
theorem m_type_full (v : Int64) {n L : Nat} (hl : sc 0 = nI L) (hL : L ≤ 200) (h1 : 1 ≤ n) (h8 : n ≤ 8) (h : 200 < L + n) : f_X12_type m v (nI n) (mmk M m sc lg ar en) = some (-4, mmk M m sc lg (mref ar 2) en) := by
  simp only [f_X12_type, mm_ob, m_in, mm_gI5, m_ref2, Option.bind_some, hl, nI_add]
  rw [show zin (nI n) 1 8 = 1 from zin_k (a := 1) (b := 8) (by omega) h1 h8, if_neg (by decide), if_neg (show ¬ nI (L + n) ≤ 200 from nI_ge (b := L + n) (a := 200) h (by omega))]
theorem m_type_ok (v : Int64) {n L : Nat} (hl : sc 0 = nI L) (h1 : 1 ≤ n) (h8 : n ≤ 8) (h : L + n ≤ 200) : f_X12_type m v (nI n) (mmk M m sc lg ar en) = some (nI (L + n), mmk M m (upd sc 0 (nI (L + n))) lg (updA ar 4 (tyt (ar 4) (tyb v) L n n)) en) := by
  simp only [f_X12_type, m_in, mm_gI5, Option.bind_some, hl, nI_add, zlet]
  rw [show zin (nI n) 1 8 = 1 from zin_k (a := 1) (b := 8) (by omega) h1 h8, if_neg (by decide), if_pos (show nI (L + n) ≤ 200 from nI_le (b := 200) h (by omega))]
  have e1 : nI n - 1 = nI (n - 0) + (-1) := by
    obtain ⟨k, rfl⟩ : ∃ k, n = k + 1 := ⟨n - 1, by omega⟩
    exact n_pm k
  rw [e1]
  have key : f_X12_type_b40 zfu m v (nI (n - 0) + (-1)) (mmk M m (upd sc 0 (nI (L + 0))) lg (updA ar 4 (tyt (ar 4) (tyb v) L n 0)) en) = some (nI (L + n), mmk M m (upd sc 0 (nI (L + n))) lg (updA ar 4 (tyt (ar 4) (tyb v) L n n)) en) := by
    refine loopZ (fun fuel j => f_X12_type_b40 fuel m v (nI (n - j) + (-1)) (mmk M m (upd sc 0 (nI (L + j))) lg (updA ar 4 (tyt (ar 4) (tyb v) L n j)) en)) n _ (by omega) (fun f j hj => ?_) (fun f => ?_)
    · show f_X12_type_b40 (f + 1) m v (nI (n - j) + (-1)) (mmk M m (upd sc 0 (nI (L + j))) lg (updA ar 4 (tyt (ar 4) (tyb v) L n j)) en) = _
      have e2 : nI (n - j) + (-1) = nI (n - 1 - j) := by
        obtain ⟨k, hk⟩ : ∃ k, n - j = k + 1 := ⟨n - j - 1, by omega⟩
        rw [hk, pk_m1]
        congr 1
        omega
      have e3 : nI (n - 1 - j) + (-1) = nI (n - (j + 1)) + (-1) := by congr 2; omega
      have us : ∀ (x : Int32), upd sc 0 x 0 = x := fun x => by simp [upd]
      have e8 : (8 * nI (n - 1 - j) : Int32) = nI (8 * (n - 1 - j)) := pk_mul 8 _
      simp only [f_X12_type_b40, e2, if_neg (nI_pos (show n - 1 - j < 2 ^ 31 by omega)), mm_gN4, mm_gI5, mm_pI5, Option.bind_some, zlet, us, mm_wN5 (show L + j < 200 by omega), updA_s, updA_A, upd_twice, nI_1, e3, e8]
      rfl
    · show f_X12_type_b40 (f + 1) m v (nI (n - n) + (-1)) (mmk M m (upd sc 0 (nI (L + n))) lg (updA ar 4 (tyt (ar 4) (tyb v) L n n)) en) = _
      have us : ∀ (x : Int32), upd sc 0 x 0 = x := fun x => by simp [upd]
      rw [Nat.sub_self, f_X12_type_b40, if_pos (by decide), mm_gI5, us, Option.bind_some]
  rw [show tyt (ar 4) (tyb v) L n 0 = ar 4 from rfl, updA_id, upd_same (f := sc) (i := 0) (x := nI (L + 0)) hl] at key
  exact key
theorem m_image_bad {i : Int32} (h : zin i 0 1 = 0) : f_X12_image m i (mmk M m sc lg ar en) = some (-2, mmk M m sc lg (mref ar 0) en) := by
  simp only [f_X12_image, mm_ob, m_in, m_bad, Option.bind_some, if_pos h]
theorem m_image_ok {i : Nat} (hi : i < 2) : f_X12_image m (nI i) (mmk M m sc lg ar en) = some (1, mmk M m sc lg (updA (updA ar 2 (imt (ar 2) (ar 0) i 25)) 3 (upd (ar 3) i 1)) en) := by
  simp only [f_X12_image, m_in, Option.bind_some]
  rw [show zin (nI i) 0 1 = 1 from zin_k (a := 0) (b := 1) (by omega) (by omega) (by omega), if_neg (by decide)]
  have key : f_X12_image_b16 zfu m (nI i) (nI 0) (mmk M m sc lg (updA ar 2 (imt (ar 2) (ar 0) i 0)) en) = some (1, mmk M m sc lg (updA (updA ar 2 (imt (ar 2) (ar 0) i 25)) 3 (upd (ar 3) i 1)) en) := by
    refine loopZ (fun fuel j => f_X12_image_b16 fuel m (nI i) (nI j) (mmk M m sc lg (updA ar 2 (imt (ar 2) (ar 0) i j)) en)) 25 _ (by omega) (fun f j hj => ?_) (fun f => ?_)
    · show f_X12_image_b16 (f + 1) m (nI i) (nI j) (mmk M m sc lg (updA ar 2 (imt (ar 2) (ar 0) i j)) en) = _
      have e : (25 * nI i + nI j : Int32) = nI (25 * i + j) := by rw [show (25 : Int32) = nI 25 from rfl, pk_mul, nI_add]
      rw [f_X12_image_b16, if_neg (show ¬ (25 : Int32) ≤ nI j from nI_ge (b := 25) hj (by omega)), mm_gN2, Option.bind_some, mm_gN0, Option.bind_some, mm_rN1 hj, Option.bind_some, e, mm_wN3 (show 25 * i + j < 50 by omega), Option.bind_some, zlet, nI_1, updA_s, updA_A, updA_n _ _ (by decide)]
      rfl
    · show f_X12_image_b16 (f + 1) m (nI i) (nI 25) (mmk M m sc lg (updA ar 2 (imt (ar 2) (ar 0) i 25)) en) = _
      rw [f_X12_image_b16, if_pos (show (25 : Int32) ≤ nI 25 by decide), mm_gN3, Option.bind_some, mm_wN4 hi, Option.bind_some, updA_n _ _ (by decide)]
      rfl
  rw [show imt (ar 2) (ar 0) i 0 = ar 2 from rfl, updA_id] at key
  exact key
theorem m_from_bad {i : Int32} (h : zin i 0 1 = 0) : f_X12_from m i (mmk M m sc lg ar en) = some (-2, mmk M m sc lg (mref ar 0) en) := by
  simp only [f_X12_from, mm_ob, m_in, m_bad, Option.bind_some, if_pos h]
theorem m_from_no {i : Nat} (hi : i < 2) (h : ar 3 i = 0) : f_X12_from m (nI i) (mmk M m sc lg ar en) = some (-3, mmk M m sc lg (mref ar 1) en) := by
  simp only [f_X12_from, m_in, Option.bind_some, mm_gN3, mm_rN4 hi, mm_ob, m_ref1]
  rw [show zin (nI i) 0 1 = 1 from zin_k (a := 0) (b := 1) (by omega) (by omega) (by omega), if_neg (by decide), if_pos h]
theorem m_from_ok {i : Nat} (hi : i < 2) (h : ¬ ar 3 i = 0) : f_X12_from m (nI i) (mmk M m sc lg ar en) = some (1, mmk M m sc lg (updA ar 0 (fmt (ar 0) (ar 2) i 25)) en) := by
  simp only [f_X12_from, m_in, Option.bind_some, mm_gN3, mm_rN4 hi, mm_ob, m_ref1]
  rw [show zin (nI i) 0 1 = 1 from zin_k (a := 0) (b := 1) (by omega) (by omega) (by omega), if_neg (by decide), if_neg h]
  have key : f_X12_from_b33 zfu m (nI i) (nI 0) (mmk M m sc lg (updA ar 0 (fmt (ar 0) (ar 2) i 0)) en) = some (1, mmk M m sc lg (updA ar 0 (fmt (ar 0) (ar 2) i 25)) en) := by
    refine loopZ (fun fuel j => f_X12_from_b33 fuel m (nI i) (nI j) (mmk M m sc lg (updA ar 0 (fmt (ar 0) (ar 2) i j)) en)) 25 _ (by omega) (fun f j hj => ?_) (fun f => ?_)
    · show f_X12_from_b33 (f + 1) m (nI i) (nI j) (mmk M m sc lg (updA ar 0 (fmt (ar 0) (ar 2) i j)) en) = _
      have e : (25 * nI i + nI j : Int32) = nI (25 * i + j) := by rw [show (25 : Int32) = nI 25 from rfl, pk_mul, nI_add]
      rw [f_X12_from_b33, if_neg (show ¬ (25 : Int32) ≤ nI j from nI_ge (b := 25) hj (by omega)), mm_gN0, Option.bind_some, mm_gN2, Option.bind_some, e, mm_rN3 (show 25 * i + j < 50 by omega), Option.bind_some, mm_wN1 hj, Option.bind_some, zlet, nI_1, updA_s, updA_A, updA_n _ _ (by decide)]
      rfl
    · show f_X12_from_b33 (f + 1) m (nI i) (nI 25) (mmk M m sc lg (updA ar 0 (fmt (ar 0) (ar 2) i 25)) en) = _
      rw [f_X12_from_b33, if_pos (show (25 : Int32) ≤ nI 25 by decide)]
  rw [show fmt (ar 0) (ar 2) i 0 = ar 0 from rfl, updA_id] at key
  exact key
def dgst (B : Nat → Nat) (L : Int32) (a b : Int64) : Int64 := 31 * (31 * hsF (fun k => nI (B (1 + k))) (hsF (fun k => nI (B (7 + k))) (hs (hs (hs (hs 661 (nI (B 0))) (nI (B 6))) (mbits (nI (B 1)))) L) (6 * B 6)) 5 + a) + b
theorem m_digest (hB : Bk (ar 0) B) (hW : WB B) : f_X12_digest m (mmk M m sc lg ar en) = some (dgst B (sc 0) (lg 0) (lg 1), mmk M m sc lg ar en) := by
  have hnd := hW.nd
  have e6 : ar 0 6 = nI (B 6) := hB 6 (by omega)
  have e0 : ar 0 0 = nI (B 0) := hB 0 (by omega)
  have e1 : ar 0 1 = nI (B 1) := hB 1 (by omega)
  have s3 : ∀ h : Int64, f_X12_digest_b71 zfu m h (nI (1 + 0)) (mmk M m sc lg ar en) = some (31 * (31 * hsF (fun k => nI (B (1 + k))) h 5 + lg 0) + lg 1, mmk M m sc lg ar en) := by
    intro h
    refine loopZ (fun fuel j => f_X12_digest_b71 fuel m (hsF (fun k => nI (B (1 + k))) h j) (nI (1 + j)) (mmk M m sc lg ar en)) 5 _ (by omega) (fun f j hj => ?_) (fun f => ?_)
    · show f_X12_digest_b71 (f + 1) m (hsF (fun k => nI (B (1 + k))) h j) (nI (1 + j)) (mmk M m sc lg ar en) = _
      rw [f_X12_digest_b71, if_neg (show ¬ (6 : Int32) ≤ nI (1 + j) from nI_ge (b := 6) (by omega) (by omega)), mm_gN0, Option.bind_some, mm_rN1 (show 1 + j < 25 by omega), Option.bind_some, zlet, zlet, nI_1, hB _ (show 1 + j < 25 by omega)]
      rfl
    · show f_X12_digest_b71 (f + 1) m (hsF (fun k => nI (B (1 + k))) h 5) (nI (1 + 5)) (mmk M m sc lg ar en) = _
      rw [f_X12_digest_b71, if_pos (show (6 : Int32) ≤ nI (1 + 5) by decide), mm_gL7, Option.bind_some, zlet, mm_gL8, Option.bind_some]
  have r6 : zrI (mmk M m sc lg ar en) (m + 1) 6 = some (nI (B 6)) := by rw [show (6 : Int32) = nI 6 from rfl, mm_rN1 (by omega), e6]
  have s2 : ∀ h : Int64, f_X12_digest_b32 zfu m h (nI 0) (mmk M m sc lg ar en) = some (31 * (31 * hsF (fun k => nI (B (1 + k))) (hsF (fun k => nI (B (7 + k))) h (6 * B 6)) 5 + lg 0) + lg 1, mmk M m sc lg ar en) := by
    intro h
    refine loopZ (fun fuel j => f_X12_digest_b32 fuel m (hsF (fun k => nI (B (7 + k))) h j) (nI j) (mmk M m sc lg ar en)) (6 * B 6) _ (by omega) (fun f j hj => ?_) (fun f => ?_)
    · show f_X12_digest_b32 (f + 1) m (hsF (fun k => nI (B (7 + k))) h j) (nI j) (mmk M m sc lg ar en) = _
      rw [f_X12_digest_b32, mm_gN0, Option.bind_some, r6, Option.bind_some, show (6 : Int32) * nI (B 6) = nI (6 * B 6) from pk_mul 6 _, if_neg (nI_ge hj (by omega)), Option.bind_some, show (7 : Int32) + nI j = nI (7 + j) from nI_add 7 j, mm_rN1 (show 7 + j < 25 by omega), Option.bind_some, zlet, zlet, nI_1, hB _ (show 7 + j < 25 by omega)]
      rfl
    · show f_X12_digest_b32 (f + 1) m (hsF (fun k => nI (B (7 + k))) h (6 * B 6)) (nI (6 * B 6)) (mmk M m sc lg ar en) = _
      rw [f_X12_digest_b32, mm_gN0, Option.bind_some, r6, Option.bind_some, show (6 : Int32) * nI (B 6) = nI (6 * B 6) from pk_mul 6 _, if_pos (nI_le (Nat.le_refl _) (by omega))]
      exact s3 _
  have e : zfu = 999995 + 1 + 1 + 1 + 1 + 1 := rfl
  rw [f_X12_digest, e]
  rw [f_X12_digest_b6, if_neg (by decide), mm_ob, Option.bind_some, m_counted, Option.bind_some, zlet, zlet]
  rw [f_X12_digest_b6, if_neg (by decide), mm_ob, Option.bind_some, m_counted, Option.bind_some, zlet, zlet]
  rw [f_X12_digest_b6, if_neg (by decide), mm_ob, Option.bind_some, m_counted, Option.bind_some, zlet, zlet]
  rw [f_X12_digest_b6, if_neg (by decide), mm_ob, Option.bind_some, m_counted, Option.bind_some, zlet, zlet]
  rw [f_X12_digest_b6, if_pos (by decide)]
  simp (decide := true) only [if_neg, if_false, if_true, e0, e1, e6]
  exact s2 _
end ME
