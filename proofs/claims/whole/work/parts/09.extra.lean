theorem st_min : Cond.static Lib.Math.min.name ∈ lw_tbl := by decide +kernel
theorem st_max : Cond.static Lib.Math.max.name ∈ lw_tbl := by decide +kernel
theorem ini_math : Cond.initialized "java/lang/Math" ∈ lw_tbl := by decide +kernel
theorem cd_min : Cond.code Lib.Math.min.name Lib.Math.min.code 2 (some .int) ∈ lw_tbl := by decide +kernel
theorem cd_max : Cond.code Lib.Math.max.name Lib.Math.max.code 2 (some .int) ∈ lw_tbl := by decide +kernel
section ZMM
variable {g : zG} {t : zM} {pc n : Nat} {L r : List Value} {M M2 : zMe} {rv : Option Value} {x y : Int32}
theorem z_mmin (hC : zC g) (hw : Cond.methodLink t.1 n Lib.Math.min.name ∈ lw_tbl) (hfr : 1 ≤ t.2.2.2.2.2.1) (hlo : (r.map fun v => v.category).sum + 13 ≤ t.2.2.2.2.2.2) (hd : decode t.2.1 pc = .ok (.invokestatic n, 3)) (kk : zW g t (pc + 3) L (.int (if y < x then y else x) :: r) M rv M2) : zW g t pc L (.int y :: .int x :: r) M rv M2 :=
  ⟨kk.1, kk.2.1, fun p e R s m args below meth c H ls locs cells slots Q hF hR hL hl hc hs hQ => va_mmin hF.1 hF.2.1 (by rw [hF.2.2.1]; exact hL.1.symm) hF.2.2.2.1 (zw_at hC hF hw rfl args) (zw_at hC hF st_min rfl args) (zw_at hC hF ini_math rfl args) (zw_at hC hF cd_min rfl args) (Nat.le_trans hfr hF.2.2.2.2.2.2.1) (Nat.le_trans hlo hF.2.2.2.2.2.2.2) (by omega) (by omega) hd (kk.2.2 p e R s m args below meth c H ls locs cells slots Q hF hR hL hl hc hs hQ)⟩
theorem z_mmax (hC : zC g) (hw : Cond.methodLink t.1 n Lib.Math.max.name ∈ lw_tbl) (hfr : 1 ≤ t.2.2.2.2.2.1) (hlo : (r.map fun v => v.category).sum + 13 ≤ t.2.2.2.2.2.2) (hd : decode t.2.1 pc = .ok (.invokestatic n, 3)) (kk : zW g t (pc + 3) L (.int (if x < y then y else x) :: r) M rv M2) : zW g t pc L (.int y :: .int x :: r) M rv M2 :=
  ⟨kk.1, kk.2.1, fun p e R s m args below meth c H ls locs cells slots Q hF hR hL hl hc hs hQ => va_mmax hF.1 hF.2.1 (by rw [hF.2.2.1]; exact hL.1.symm) hF.2.2.2.1 (zw_at hC hF hw rfl args) (zw_at hC hF st_max rfl args) (zw_at hC hF ini_math rfl args) (zw_at hC hF cd_max rfl args) (Nat.le_trans hfr hF.2.2.2.2.2.2.1) (Nat.le_trans hlo hF.2.2.2.2.2.2.2) (by omega) (by omega) hd (kk.2.2 p e R s m args below meth c H ls locs cells slots Q hF hR hL hl hc hs hQ)⟩
end ZMM
