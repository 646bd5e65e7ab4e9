theorem st_min : Cond.static Lib.Math.min.name ∈ lw_tbl := by decide +kernel
theorem st_max : Cond.static Lib.Math.max.name ∈ lw_tbl := by decide +kernel
theorem ini_math : Cond.initialized "java/lang/Math" ∈ lw_tbl := by decide +kernel
theorem cd_min : Cond.code Lib.Math.min.name Lib.Math.min.code 2 (some .int) ∈ lw_tbl := by decide +kernel
theorem cd_max : Cond.code Lib.Math.max.name Lib.Math.max.code 2 (some .int) ∈ lw_tbl := by decide +kernel
section ZMM
variable {g : zG} {t : zM} {pc n : Nat} {L r : List Value} {M M2 : zMe} {rv : Option Value} {x y : Int32}
theorem z_mmin (hC : zC g) (hw : Cond.methodLink t.1 n Lib.Math.min.name ∈ lw_tbl) (hfr : 1 ≤ t.2.2.2.2.2.1) (hlo : (r.map fun v => v.category).sum + 13 ≤ t.2.2.2.2.2.2) (hd : decode t.2.1 pc = .ok (.invokestatic n, 3)) (kk : zW g t (pc + 3) L (.int (if y < x then y else x) :: r) M rv M2) : zW g t pc L (.int y :: .int x :: r) M rv M2 :=
  ⟨kk.1, kk.2.1, fun p e R s m args below meth c H ls locs cells slots Q hF hR hL hl hc hs hQ => va_mmin hF.1 hF.2.1 (by rw [hF.2.2.1]; exact hL.1.symm) hF.2.2.2.1 (zw_at hC hF hw rfl args) (zw_at hC hF st_min rfl args) (zw_at hC hF ini_math rfl args) (zw_at hC hF cd_min rfl args) (Nat.le_trans hfr hF.2.2.2.2.2.2.1) (Nat.le_trans hlo hF.2.2.2.2.2.2.2) (by omega) (by omega) hd (kk.2.2 p e R s m args below meth c H ls locs cells slots Q hF hR hL hl hc hs hQ)⟩
theorem z_mmax (hC : zC g) (hw : Cond.methodLink t.1 n Lib.Math.max.name ∈ lw_tbl) (hfr : 1 ≤ t.2.2.2.2.2.1) (hlo : (r.map fun v => v.category).sum + 13 ≤ t.2.2.2.2.2.2) (hd : decode t.2.1 pc = .ok (.invokestatic n, 3)) (kk : zW g t (pc + 3) L (.int (if x < y then y else x) :: r) M rv M2) : zW g t pc L (.int y :: .int x :: r) M rv M2 :=
  ⟨kk.1, kk.2.1, fun p e R s m args below meth c H ls locs cells slots Q hF hR hL hl hc hs hQ => va_mmax hF.1 hF.2.1 (by rw [hF.2.2.1]; exact hL.1.symm) hF.2.2.2.1 (zw_at hC hF hw rfl args) (zw_at hC hF st_max rfl args) (zw_at hC hF ini_math rfl args) (zw_at hC hF cd_max rfl args) (Nat.le_trans hfr hF.2.2.2.2.2.2.1) (Nat.le_trans hlo hF.2.2.2.2.2.2.2) (by omega) (by omega) hd (kk.2.2 p e R s m args below meth c H ls locs cells slots Q hF hR hL hl hc hs hQ)⟩
end ZMM
/-! the law's script; the texts that are constants -/
def zxs (sn : Nat) (xs : Nat → Int32) (i : Int32) : Option Int32 := if i < 0 ∨ sn ≤ i.toNatClampNeg then none else some (xs i.toNatClampNeg)
/-- places of the text constants in the Reader's pool -/
def zsi (k : Nat) : Nat := [41, 64, 73, 80, 85, 90].getD k 0
def zst (k : Nat) : String := ["places", "shut", "goal", "barks", "breath", "dog"].getD k ""
/-- the six texts: where they are, what they hold -/
def zCs (g : zG) (sa : Nat → Nat) : Prop := (∀ k, k < 6 → vk_R "OneWhistle$Reader" (zsi k) (zst k) (sa k) g.2.1) ∧ ∃ sv, zStr g sa sv
/-- which of them lies at a -/
def zsK (sa : Nat → Nat) (a : Nat) : Option Nat := (List.range 6).find? (fun k => decide (a = sa k))
theorem zsK_some {sa : Nat → Nat} {a k : Nat} (h : zsK sa a = some k) : k < 6 ∧ a = sa k := ⟨List.mem_range.mp (List.mem_of_find?_eq_some h), of_decide_eq_true (List.find?_some (p := fun k => decide (a = sa k)) h)⟩
theorem zsK_at {sa : Nat → Nat} (hi : ∀ i j, i < 6 → j < 6 → sa i = sa j → i = j) {k : Nat} (hk : k < 6) : zsK sa (sa k) = some k := by
  cases h : zsK sa (sa k) with
  | none =>
    have := List.find?_eq_none.mp h k (List.mem_range.mpr hk)
    simp at this
  | some j =>
    obtain ⟨h1, h2⟩ := zsK_some h
    rw [hi k j hk h1 h2]
/-- the length of a text, a letter of it -/
def zsL (sa : Nat → Nat) (a : Nat) : Option Int32 := (zsK sa a).bind fun k => some (nI (zwl.getD k 0))
def zsC (sa : Nat → Nat) (a : Nat) (i : Int32) : Option Int32 := (zsK sa a).bind fun k => if i < 0 ∨ zwl.getD k 0 ≤ i.toNatClampNeg then none else some ((zwb.getD k []).getD i.toNatClampNeg 0)
section ZLW
variable {g : zG} {t : zM} {pc n : Nat} {L r : List Value} {M M2 : zMe} {rv : Option Value}
theorem z_xs {b sn : Nat} {xs : Nat → Int32} (hX : va_X b sn xs g.2.1 g.2.1.heap) (hbl : b < g.2.1.heap.size) {i x : Int32} (h : zxs sn xs i = some x) (hd : decode t.2.1 pc = .ok (.iaload, 1)) (kk : zW g t (pc + 1) L (.int x :: r) M rv M2) : zW g t pc L (.int i :: .ref b :: r) M rv M2 := by
  refine ⟨kk.1, kk.2.1, fun p e R s m args below meth c H ls locs cells slots Q hF hR hL hl hcc hss hQ => ?_⟩
  have K := kk.2.2 p e R s m args below meth c H ls locs cells slots Q hF hR hL hl hcc hss hQ
  unfold zxs at h
  by_cases hc : i < 0 ∨ sn ≤ i.toNatClampNeg
  · rw [if_pos hc] at h; cases h
  · rw [if_neg hc] at h
    cases h
    obtain ⟨scr, h1, h2, h3, h4, h5⟩ := hX
    have hlt : i.toNatClampNeg < sn := Nat.not_le.mp fun q => hc (Or.inr q)
    exact W.iald (v := .int (xs i.toNatClampNeg)) hF.1 hF.2.1 (by rw [hR.2.2.1 b hbl]; exact h1) (State.isArrayOf_alike hF.2.2.2.2.2.1.alike h2) h3 (by rw [h4]; exact hc) (h5 _ hlt) rfl rfl hd K
theorem z_xlen {b sn : Nat} {xs : Nat → Int32} (hX : va_X b sn xs g.2.1 g.2.1.heap) (hbl : b < g.2.1.heap.size) (hd : decode t.2.1 pc = .ok (.arraylength, 1)) (kk : zW g t (pc + 1) L (.int (Int32.ofNat sn) :: r) M rv M2) : zW g t pc L (.ref b :: r) M rv M2 := by
  refine ⟨kk.1, kk.2.1, fun p e R s m args below meth c H ls locs cells slots Q hF hR hL hl hcc hss hQ => ?_⟩
  have K := kk.2.2 p e R s m args below meth c H ls locs cells slots Q hF hR hL hl hcc hss hQ
  obtain ⟨scr, h1, h2, h3, h4, h5⟩ := hX
  exact W.alen (ty := .int) hF.1 hF.2.1 (by rw [hR.2.2.1 b hbl]; exact h1) (State.isArrayOf_alike hF.2.2.2.2.2.1.alike h2) (by rw [h4]) rfl rfl hd K
theorem z_ldcS {sa : Nat → Nat} (hS : zCs g sa) (k : Nat) (hk : k < 6 ∧ t.1 = "OneWhistle$Reader" ∧ n = zsi k) (hd : decode t.2.1 pc = .ok (.ldc n, 2)) (kk : zW g t (pc + 2) L (.ref (sa k) :: r) M rv M2) : zW g t pc L r M rv M2 := by
  refine ⟨kk.1, kk.2.1, fun p e R s m args below meth c H ls locs cells slots Q hF hR hL hl hcc hss hQ => ?_⟩
  have K := kk.2.2 p e R s m args below meth c H ls locs cells slots Q hF hR hL hl hcc hss hQ
  obtain ⟨h1, h2, h3⟩ := hk
  subst h3
  exact va_ldcS hF.1 hF.2.1 (by rw [← h2]; exact hF.2.2.2.1) ((hS.1 k h1).warm hF.2.2.2.2.2.1) hd K
theorem z_sL (hC : zC g) {sa : Nat → Nat} (hS : zCs g sa) {a : Nat} {x : Int32} (h : zsL sa a = some x) (hl : Cond.methodLink t.1 n yJ0_length_8abf5 ∈ lw_tbl ∧ zFit t mJ0_length r) (hd : decode t.2.1 pc = .ok (.invokevirtual n, 3)) (kk : zW g t (pc + 3) L (.int x :: r) M rv M2) : zW g t pc L (.ref a :: r) M rv M2 := by
  obtain ⟨-, sv, hS⟩ := hS
  obtain ⟨k, h1, h2⟩ := Option.bind_eq_some_iff.mp h
  obtain ⟨hk, rfl⟩ := zsK_some h1
  cases h2
  exact z_callVo (av := []) (rest := r) (C := RJ0) hC (hS.1.1 k hk).1 (s_length hC hS hk) hl.1 (by decide +kernel) (by decide +kernel) cd_J0_length hl.2 hd kk
theorem z_sC (hC : zC g) {sa : Nat → Nat} (hS : zCs g sa) {a : Nat} {i x : Int32} (h : zsC sa a i = some x) (hl : Cond.methodLink t.1 n yJ0_charAt_5068e ∈ lw_tbl ∧ zFit t mJ0_charAt r) (hd : decode t.2.1 pc = .ok (.invokevirtual n, 3)) (kk : zW g t (pc + 3) L (.int x :: r) M rv M2) : zW g t pc L (.int i :: .ref a :: r) M rv M2 := by
  obtain ⟨-, sv, hS⟩ := hS
  obtain ⟨k, h1, h2⟩ := Option.bind_eq_some_iff.mp h
  obtain ⟨hk, rfl⟩ := zsK_some h1
  by_cases c : i < 0 ∨ zwl.getD k 0 ≤ i.toNatClampNeg
  · rw [if_pos c] at h2; cases h2
  · rw [if_neg c] at h2
    cases h2
    exact z_callVo (av := [.int i]) (rest := r) (C := RJ0) hC (hS.1.1 k hk).1 (s_charAt hC hS hk (fun z => c (Or.inl z)) (Nat.not_le.mp fun z => c (Or.inr z))) hl.1 (by decide +kernel) (by decide +kernel) cd_J0_charAt hl.2 hd kk
end ZLW
