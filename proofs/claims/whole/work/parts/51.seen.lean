/-! longs -/
theorem l_tn {n : Nat} (h : n < 2 ^ 64) : (lN n).toBitVec.toNat = n := by
  show (BitVec.ofNat 64 n).toNat = n
  rw [BitVec.toNat_ofNat, Nat.mod_eq_of_lt h]
theorem l_shr {n k : Nat} (h : n < 2 ^ 63) (s : Int64) (hs : (s.toBitVec.smod 64).toNat = k) : lN n >>> s = lN (n / 2 ^ k) := by
  apply Int64.toInt_inj.mp
  have h2 : n / 2 ^ k ≤ n := Nat.div_le_self _ _
  have e : (lN n >>> s).toInt = (lN n).toInt >>> k := by
    show ((lN n).toBitVec.sshiftRight (s.toBitVec.smod 64).toNat).toInt = _
    rw [hs, BitVec.toInt_sshiftRight]
    rfl
  rw [e, pk_lT h, pk_lT (by omega), Int.shiftRight_eq_div_pow]
  rfl
theorem l_shl {n k : Nat} (s : Int64) (hs : (s.toBitVec.smod 64).toNat = k) (h : n * 2 ^ k < 2 ^ 64) : lN n <<< s = lN (n * 2 ^ k) := by
  apply Int64.toBitVec_inj.mp
  apply BitVec.eq_of_toNat_eq
  have hn : n < 2 ^ 64 := Nat.lt_of_le_of_lt (Nat.le_mul_of_pos_right n (Nat.two_pow_pos k)) h
  have e : (lN n <<< s).toBitVec.toNat = (lN n).toBitVec.toNat * 2 ^ k % 2 ^ 64 := by
    show ((lN n).toBitVec <<< (s.toBitVec.smod 64).toNat).toNat = _
    rw [hs, BitVec.toNat_shiftLeft, Nat.shiftLeft_eq]
  rw [e, l_tn hn, l_tn h, Nat.mod_eq_of_lt h]
theorem l_or (a b : Nat) : lN a ||| lN b = lN (a ||| b) := by
  apply Int64.toBitVec_inj.mp
  rw [Int64.toBitVec_or]
  apply BitVec.eq_of_toNat_eq
  show ((a % 2 ^ 64) ||| (b % 2 ^ 64)) = (a ||| b) % 2 ^ 64
  rw [Nat.or_mod_two_pow]
theorem n_or_add {a b k : Nat} (h : b < 2 ^ k) : a * 2 ^ k ||| b = a * 2 ^ k + b := by
  rw [Nat.mul_comm, Nat.two_pow_add_eq_or_of_lt h a]
theorem n_am (v : Nat) {m : Int32} (k : Nat) (hk : k ≤ 32) (hm : m.toBitVec.toNat = 2 ^ k - 1) : nI v &&& m = nI (v % 2 ^ k) := by
  rw [pk_and _ k hm]
  congr 1
  show v % 2 ^ 32 % 2 ^ k = v % 2 ^ k
  exact Nat.mod_mod_of_dvd v (Nat.pow_dvd_pow 2 hk)
theorem lg_c0 (a b : Int64) : (lg_cmp a b = 0) = (a = b) := by
  apply propext
  unfold lg_cmp
  by_cases h1 : a > b
  · rw [if_pos h1]
    exact ⟨fun z => absurd z (by decide), fun z => absurd z (fun e => lg_lt_ne h1 e.symm)⟩
  · rw [if_neg h1]
    by_cases h2 : a = b
    · rw [if_pos h2]; exact ⟨fun _ => h2, fun _ => rfl⟩
    · rw [if_neg h2]; exact ⟨fun z => absurd z (by decide), fun z => absurd z h2⟩
theorem s24 : (((24 : Int32).toInt64 &&& 63).toBitVec.smod 64).toNat = 24 := by decide
theorem s16 : (((16 : Int32).toInt64 &&& 63).toBitVec.smod 64).toNat = 16 := by decide
theorem s8 : (((8 : Int32).toInt64 &&& 63).toBitVec.smod 64).toNat = 8 := by decide
theorem s15 : (((15 : Int32).toInt64 &&& 63).toBitVec.smod 64).toNat = 15 := by decide
theorem s20 : (((20 : Int32).toInt64 &&& 63).toBitVec.smod 64).toNat = 20 := by decide
theorem s35 : (((35 : Int32).toInt64 &&& 63).toBitVec.smod 64).toNat = 35 := by decide
/-! a slot: its search, key, breath -/
def ow (sr x : Nat) : Bool := decide (x / 16777216 = sr)
def sky (x : Nat) : Nat := x / 256 % 65536
def sbr (x : Nat) : Nat := x % 256
def smk (sr k b : Nat) : Nat := sr * 16777216 + k * 256 + b
theorem sky_lt (x : Nat) : sky x < 65536 := Nat.mod_lt _ (by decide)
theorem smk_ok {sr k b : Nat} (hk : k < 65536) (hb : b < 256) : ow sr (smk sr k b) = true ∧ sky (smk sr k b) = k ∧ sbr (smk sr k b) = b := by
  refine ⟨?_, ?_, ?_⟩
  · unfold ow smk
    rw [decide_eq_true_iff]
    omega
  · unfold sky smk
    omega
  · unfold sbr smk
    omega
def hsh (N key : Nat) : Nat := ((((nI key * 40503).toUInt32 >>> ((4 : Int32).toUInt32 &&& Int32.toUInt32 31)).toInt32).toBitVec.toNat) % N
/-- each slot of ours is found by going on from its key's place -/
def HT (N sr : Nat) (v : Nat → Nat) : Prop := ∀ i, i < N → ow sr (v i) = true → ∃ r, r < N ∧ i = (hsh N (sky (v i)) + r) % N ∧ ∀ r', r' < r → ow sr (v ((hsh N (sky (v i)) + r') % N)) = true ∧ sky (v ((hsh N (sky (v i)) + r') % N)) ≠ sky (v i)
/-- slot i is where the key is, or belongs -/
def Slt (N sr : Nat) (v : Nat → Nat) (key i : Nat) : Prop := i < N ∧ (ow sr (v i) = true → sky (v i) = key) ∧ ∃ r, r < N ∧ i = (hsh N key + r) % N ∧ ∀ r', r' < r → ow sr (v ((hsh N key + r') % N)) = true ∧ sky (v ((hsh N key + r') % N)) ≠ key
def Rp (N sr : Nat) (v : Nat → Nat) (sm : Nat → Option Nat) : Prop := ∀ key b, sm key = some b ↔ ∃ i, i < N ∧ ow sr (v i) = true ∧ sky (v i) = key ∧ sbr (v i) = b
def upN (v : Nat → Nat) (i x : Nat) : Nat → Nat := fun j => if j = i then x else v j
theorem upN_s (v : Nat → Nat) (i x : Nat) : upN v i x i = x := by simp [upN]
theorem upN_n (v : Nat → Nat) {i j : Nat} (x : Nat) (h : j ≠ i) : upN v i x j = v j := by simp [upN, h]
def cn (sr : Nat) (v : Nat → Nat) : Nat → Nat
  | 0 => 0
  | n + 1 => cn sr v n + (if ow sr (v n) then 1 else 0)
section HS
variable {N sr : Nat} {v : Nat → Nat} {sm : Nat → Option Nat} {key i : Nat}
theorem ht_at (hH : HT N sr v) (hS : Slt N sr v key i) {j : Nat} (hj : j < N) (oj : ow sr (v j) = true) (kj : sky (v j) = key) : j = i := by
  obtain ⟨hi, h1, r, hr, e, hp⟩ := hS
  obtain ⟨r2, hr2, e2, hp2⟩ := hH j hj oj
  rw [kj] at e2 hp2
  rcases Nat.lt_trichotomy r r2 with h | h | h
  · have := hp2 r h
    rw [← e] at this
    exact absurd (h1 this.1) this.2
  · rw [e2, e, h]
  · have := hp r2 h
    rw [← e2] at this
    exact absurd kj this.2
theorem ht_put (hH : HT N sr v) (hS : Slt N sr v key i) {x : Nat} (ox : ow sr x = true) (kx : sky x = key) : HT N sr (upN v i x) := by
  obtain ⟨hi, h1, r, hr, e, hp⟩ := hS
  intro j hj oj
  by_cases hji : j = i
  · subst hji
    rw [upN_s, kx]
    refine ⟨r, hr, e, fun r' hr' => ?_⟩
    obtain ⟨a, b⟩ := hp r' hr'
    have : (hsh N key + r') % N ≠ j := fun z => by
      rw [z] at a b
      exact b (h1 a)
    rw [upN_n _ _ this]
    exact ⟨a, b⟩
  · rw [upN_n _ _ hji] at oj ⊢
    obtain ⟨r2, hr2, e2, hp2⟩ := hH j hj oj
    refine ⟨r2, hr2, e2, fun r' hr' => ?_⟩
    obtain ⟨a, b⟩ := hp2 r' hr'
    by_cases z : (hsh N (sky (v j)) + r') % N = i
    · rw [z] at a b ⊢
      rw [upN_s]
      refine ⟨ox, ?_⟩
      rw [kx, ← h1 a]
      exact b
    · rw [upN_n _ _ z]
      exact ⟨a, b⟩
theorem rp_put (hH : HT N sr v) (hR : Rp N sr v sm) (hS : Slt N sr v key i) {x : Nat} (ox : ow sr x = true) (kx : sky x = key) : Rp N sr (upN v i x) (fun q => if q = key then some (sbr x) else sm q) := by
  intro q b
  show (if q = key then some (sbr x) else sm q) = some b ↔ _
  by_cases hq : q = key
  · rw [if_pos hq]
    constructor
    · intro h
      cases h
      exact ⟨i, hS.1, by rw [upN_s]; exact ox, by rw [upN_s, kx, hq], by rw [upN_s]⟩
    · rintro ⟨j, j1, j2, j3, j4⟩
      by_cases e : j = i
      · rw [e, upN_s] at j4; rw [j4]
      · rw [upN_n _ _ e] at j2 j3
        exact absurd (ht_at hH hS j1 j2 (by rw [j3, hq])) e
  · rw [if_neg hq, hR q b]
    constructor
    · rintro ⟨j, j1, j2, j3, j4⟩
      have e : j ≠ i := fun z => by
        rw [z] at j2 j3
        exact hq (by rw [← j3]; exact hS.2.1 j2)
      exact ⟨j, j1, by rw [upN_n _ _ e]; exact j2, by rw [upN_n _ _ e]; exact j3, by rw [upN_n _ _ e]; exact j4⟩
    · rintro ⟨j, j1, j2, j3, j4⟩
      have e : j ≠ i := fun z => by
        rw [z, upN_s, kx] at j3
        exact hq j3.symm
      rw [upN_n _ _ e] at j2 j3 j4
      exact ⟨j, j1, j2, j3, j4⟩
theorem rp_own (hH : HT N sr v) (hR : Rp N sr v sm) (hS : Slt N sr v key i) (ho : ow sr (v i) = true) : sm key = some (sbr (v i)) := (hR key _).mpr ⟨i, hS.1, ho, hS.2.1 ho, rfl⟩
theorem rp_not (hH : HT N sr v) (hR : Rp N sr v sm) (hS : Slt N sr v key i) (ho : ow sr (v i) = false) : sm key = none := by
  cases h : sm key with
  | none => rfl
  | some b =>
    obtain ⟨j, j1, j2, j3, j4⟩ := (hR key b).mp h
    rw [ht_at hH hS j1 j2 j3, ho] at j2
    cases j2
theorem cn_upd {n : Nat} {x : Nat} (ox : ow sr x = true) : ∀ n, cn sr (upN v i x) n = cn sr v n + (if i < n ∧ ow sr (v i) = false then 1 else 0)
  | 0 => by simp [cn]
  | n + 1 => by
    rw [cn, cn, cn_upd (n := 0) ox n]
    by_cases e : n = i
    · subst e
      rw [upN_s, ox]
      cases h : ow sr (v n) <;> simp
    · rw [upN_n _ _ e]
      have : (i < n + 1 ∧ ow sr (v i) = false) ↔ (i < n ∧ ow sr (v i) = false) := ⟨fun h => ⟨by omega, h.2⟩, fun h => ⟨by omega, h.2⟩⟩
      simp only [this]
      omega
theorem cn_free : ∀ n, cn sr v n < n → ∃ j, j < n ∧ ow sr (v j) = false
  | 0, h => by omega
  | n + 1, h => by
    rw [cn] at h
    cases ho : ow sr (v n)
    · exact ⟨n, by omega, ho⟩
    · rw [ho] at h
      obtain ⟨j, j1, j2⟩ := cn_free n (by simp at h; omega)
      exact ⟨j, by omega, j2⟩
theorem cn_enum (sr : Nat) (v : Nat → Nat) : ∀ n, ∃ e : Nat → Nat, (∀ k, k < cn sr v n → e k < n ∧ ow sr (v (e k)) = true) ∧ ∀ j k, j < k → k < cn sr v n → e j < e k
  | 0 => ⟨fun _ => 0, fun k hk => by simp [cn] at hk, fun j k _ hk => by simp [cn] at hk⟩
  | n + 1 => by
    obtain ⟨e, e1, e2⟩ := cn_enum sr v n
    cases ho : ow sr (v n)
    · refine ⟨e, fun k hk => ?_, fun j k hjk hk => ?_⟩
      · rw [cn, ho] at hk
        obtain ⟨a, b⟩ := e1 k (by simpa using hk)
        exact ⟨by omega, b⟩
      · rw [cn, ho] at hk
        exact e2 j k hjk (by simpa using hk)
    · refine ⟨fun k => if k < cn sr v n then e k else n, fun k hk => ?_, fun j k hjk hk => ?_⟩
      · show (if k < cn sr v n then e k else n) < n + 1 ∧ ow sr (v (if k < cn sr v n then e k else n)) = true
        split
        next h =>
          obtain ⟨a, b⟩ := e1 k h
          exact ⟨by omega, b⟩
        next => exact ⟨by omega, ho⟩
      · show (if j < cn sr v n then e j else n) < (if k < cn sr v n then e k else n)
        rw [cn, ho] at hk
        simp only [if_true] at hk
        rw [if_pos (show j < cn sr v n by omega)]
        split
        next h => exact e2 j k hjk h
        next => exact (e1 j (by omega)).1
theorem cn_le (hH : HT N sr v) : cn sr v N ≤ 65536 := by
  obtain ⟨e, e1, e2⟩ := cn_enum sr v N
  refine pigeon 65536 _ (fun k => sky (v (e k))) (fun k _ => sky_lt _) (fun j k hjk hk h => ?_)
  obtain ⟨a1, a2⟩ := e1 j (by omega)
  obtain ⟨b1, b2⟩ := e1 k hk
  obtain ⟨r, hr, f, hp⟩ := hH (e k) b1 b2
  have := ht_at hH (i := e k) (key := sky (v (e k))) ⟨b1, fun _ => rfl, r, hr, f, hp⟩ a1 a2 h
  have := e2 j k hjk hk
  omega
theorem md_reach {h i : Nat} (hh : h < N) (hi : i < N) : ∃ r, r < N ∧ i = (h + r) % N := by
  by_cases c : h ≤ i
  · exact ⟨i - h, by omega, by rw [show h + (i - h) = i by omega, Nat.mod_eq_of_lt hi]⟩
  · refine ⟨i + N - h, by omega, ?_⟩
    rw [show h + (i + N - h) = i + N by omega, Nat.add_mod_right, Nat.mod_eq_of_lt hi]
end HS
