/-- what is known of a class of the worlds: number, name, fields, their types -/
def zCl (ci : Nat) (C : String) (T : u_T) (N : Nat) (ty : Nat → FieldType) : Prop := vwCl[ci]? = some (C, T, N) ∧ (∀ w ∈ u_ws C T N, w ∈ lw_tbl) ∧ (∀ k, k < N → parseFieldDescriptor (T k).2.2.1 = some (ty k)) ∧ (∀ a, a < N → ∀ b, b < N → a ≠ b → (T a).2.1 ≠ (T b).2.1)
theorem u_good (C : String) (T : u_T) (N : Nat) : ∀ w ∈ u_ws C T N, goodWord w = true := by
  intro w hw
  obtain ⟨k, -, rfl⟩ := List.mem_map.mp hw
  unfold u_lay
  split <;> rfl
/-- a field as a class's method names it by number n: it is field k of class ci -/
def zFl (own : String) (n : Nat) (T : u_T) (k : Nat) : Prop := ∃ ref : String, Cond.fieldLink own n ref (T k).2.1 (T k).2.2.1 ∈ lw_tbl ∧ (ref = (T k).1 ∨ Cond.sameField ref (T k).1 (T k).2.1 (T k).2.2.1 ∈ lw_tbl)
section ZM
variable {g : zG} {t : zM} {pc : Nat} {L r : List Value} {M M1 M2 : zMe} {rv : Option Value}
theorem zF.K (hC : zC g) {p : Program} {R : Room} {s : State} {m : MethodId} {meth : Method} {c : Code} (hF : zF g t p R s m meth c) : va_K g.2.2.2 vwCl [] s := va_K.moved hF.2.2.2.2.2.1.alike hC.2
theorem zF.arr {p : Program} {R : Room} {s : State} {m : MethodId} {meth : Method} {c : Code} (hF : zF g t p R s m meth c) {cA : ClassId} {ty : FieldType} (h : ArrOfT g.2.1 cA ty) : ArrOfT s cA ty := arrOfT_moved hF.2.2.2.2.2.1.alike h
theorem z_getf (hC : zC g) {ci : Nat} {C : String} {T : u_T} {N : Nat} {ty : Nat → FieldType} (hc : zCl ci C T N ty) {a n : Nat} {fs : List Value} {v : Value} (k : Nat) (hk : k < N) (hf : zFl t.1 n T k) (hM : M.1 a = some (.inr (ci, fs))) (hv : fs[k]? = some v) (hd : decode t.2.1 pc = .ok (.getfield n, 3))
    (kk : zW g t (pc + 3) L (v :: r) M rv M2) : zW g t pc L (.ref a :: r) M rv M2 := by
  refine ⟨kk.1, kk.2.1, fun p e R s m args below meth c H ls locs cells slots Q hF hR hL hl hcc hss hQ => ?_⟩
  have K := kk.2.2 p e R s m args below meth c H ls locs cells slots Q hF hR hL hl hcc hss hQ
  obtain ⟨hci, hin, hty, hnm⟩ := hc
  obtain ⟨ref, hw, hsm⟩ := hf
  obtain ⟨-, q0, h1, h2, cell, q1, q2, q3, q4⟩ := hR.2.2.2 a _ hM
  have hr : q0 = (C, T, N) := Option.some.inj (h1.symm.trans hci)
  subst hr
  have hKK := hF.K hC
  obtain ⟨hS, hfc, kC, hkC, hkind⟩ := hKK.1 ci _ hci
  obtain ⟨cf, kf, fi, f, hi, hsl⟩ := hS k hk
  have hts : ∀ w ∈ u_ws C T N, w.before args s = true := fun w h => zw_at hC hF (hin w h) (u_good C T N w h) args
  have hsame : s.fieldFound? ref (T k).2.1 (T k).2.2.1 = some (cf, kf, fi, f) := by
    rcases hsm with h | h
    · rw [h]; exact hi
    · exact u_same (zw_at hC hF h rfl args) _ hi
  refine W.getf hF.1 hF.2.1 hF.2.2.2.1 (zw_at hC hF hw rfl args) hsame (u_facts hfc hkC (u_lays hts (fun _ h => h) hk) hi).1 q1 (by rw [q3]; exact fun h => by cases h) (v := v) ?_ rfl rfl hd K
  rw [hsl, q4 k hk]
  simp [vp_V, hv]
theorem z_putf (hC : zC g) {ci : Nat} {C : String} {T : u_T} {N : Nat} {ty : Nat → FieldType} (hc : zCl ci C T N ty) {a n : Nat} {fs : List Value} {v : Value} (k : Nat) (hk : k < N) (hf : zFl t.1 n T k) (hfin : (T k).2.2.2 = false ∨ (t.2.2.2.2.1 = "<init>" ∧ (T k).2.2.2 = true ∧ (T k).1 = t.1)) (hM : M.1 a = some (.inr (ci, fs))) (hn : narrow (ty k) v = v) (hft : fits (ty k) v = true) (hd : decode t.2.1 pc = .ok (.putfield n, 3))
    (kk : zW g t (pc + 3) L r (zSet M a (.inr (ci, fs.set k v))) rv M2) : zW g t pc L (v :: .ref a :: r) M rv M2 := by
  refine ⟨kk.1, kk.2.1, fun p e R s m args below meth c H ls locs cells slots Q hF hR hL hl hcc hss hQ => ?_⟩
  obtain ⟨hci, hin, hty, hnm⟩ := hc
  obtain ⟨ref, hw, hsm⟩ := hf
  obtain ⟨hba, q0, h1, h2, cell, q1, q2, q3, q4⟩ := hR.2.2.2 a _ hM
  have hr : q0 = (C, T, N) := Option.some.inj (h1.symm.trans hci)
  subst hr
  have hKK := hF.K hC
  have hts : ∀ w ∈ u_ws C T N, w.before args s = true := fun w h => zw_at hC hF (hin w h) (u_good C T N w h) args
  have hap := va_apart (own := t.1) hts (fun _ h => h) ty hty hnm hKK hci
  obtain ⟨hS, hfc, kC, hkC, hkind⟩ := hKK.1 ci _ hci
  obtain ⟨cf, kf, fi, f, hi, hsl⟩ := hS k hk
  have hsame : s.fieldFound? ref (T k).2.1 (T k).2.2.1 = some (cf, kf, fi, f) := by
    rcases hsm with h | h
    · rw [h]; exact hi
    · exact u_same (zw_at hC hF h rfl args) _ hi
  have hlay := hts _ (u_in_lay hk)
  unfold u_lay at hlay
  have hst := (u_facts hfc hkC (u_lays hts (fun _ h => h) hk) hi).1
  have hkl : k < fs.length := by rw [← h2]; exact hk
  have done : ∀ H1 : Heap, H1[a]? = some (cell.setSlot f.slot v) → H1.size = H.size → (∀ q, q ≠ a → H1[q]? = H[q]?) → W p g.1 e R s m args below meth c H1 (locs ++ [⟨a, f.slot⟩]) cells slots Q (F0 m (pc + 3) ls r) := by
    intro H1 e1 e2 e3
    rw [hsl] at e1
    refine kk.2.2 p e R s m args below meth c H1 ls _ cells slots Q hF (hR.set hM e2 e3 ⟨_, hci, by rw [List.length_set]; exact h2, ?_⟩) hL ?_ hcc hss hQ
    · exact t_OB.to (V := updV (vp_V fs) k v) ⟨_, e1, q2, q3, t_set q4 hap hk v⟩ (fun j _ => vp_updV_set hkl v j)
    · intro q hq
      rcases List.mem_append.mp hq with h | h
      · exact hl q h
      · rw [List.mem_singleton.mp h]; exact hba
  rcases hfin with hfin | ⟨hinit, hfin, hdecl⟩
  · rw [if_neg (by rw [hfin]; decide)] at hlay
    have h6 := u_store hfc hkC hkind hlay hi (hty k hk) hn hft
    exact W.putK hF.1 hF.2.1 (f := f) ⟨hF.2.2.2.1, zw_at hC hF hw rfl args, ⟨_, _, _, hsame⟩, hst⟩ (by rw [q2]; exact h6) q1 q3 (by rw [hsl]; exact k2_hasslot (q4 k hk)) rfl rfl hd done
  · rw [if_pos hfin] at hlay
    have hcf : m.cls = cf := by
      obtain ⟨_, _, c', _, _, _, -, -, hf', -, -, -, hown2, -⟩ := Cond.laysFinal_spec hlay
      have e1 : c' = cf := by have := hi.symm.trans hf'; simp at this; exact this.1.symm
      rw [hdecl] at hown2
      rw [← e1]; exact Option.some.inj (hF.2.2.2.1.symm.trans hown2)
    have h6 := u_fits hfc hkC hkind (Or.inr hlay) hi (hty k hk) hn hft
    exact W.putFinK hF.1 hF.2.1 hF.2.2.2.1 (zw_at hC hF hw rfl args) hsame hst hcf (by rw [hF.2.2.2.2.1]; exact hinit) (by rw [q2]; exact h6) q1 q3 (by rw [hsl]; exact k2_hasslot (q4 k hk)) rfl rfl hd done
theorem z_new (hC : zC g) {ci : Nat} {C : String} {T : u_T} {N : Nat} {ty : Nat → FieldType} (hc : zCl ci C T N ty) {n : Nat} {fs : List Value} (hw : Cond.classLink t.1 n C ∈ lw_tbl) (hw1 : Cond.instantiable C N ∈ lw_tbl) (hw2 : Cond.initialized C ∈ lw_tbl) (hlen : N = fs.length) (hfs : ∀ j, j < N → defaultValue (ty j) = vp_V fs j) (hd : decode t.2.1 pc = .ok (.new n, 3))
    (kk : zW g t (pc + 3) L (.ref M.2.1 :: r) (zAdd M (.inr (ci, fs)) N) rv M2) : zW g t pc L r M rv M2 := by
  have hn1 : M.2.1 + 1 ≤ M2.2.1 := kk.1
  have hn2 : M.2.2 + N ≤ M2.2.2 := kk.2.1
  refine ⟨by omega, by omega, fun p e R s m args below meth c H ls locs cells slots Q hF hR hL hl hcc hss hQ => ?_⟩
  obtain ⟨hci, hin, hty, hnm⟩ := hc
  have hKn := (hF.K hC).1 ci _ hci
  have hts : ∀ w ∈ u_ws C T N, w.before args s = true := fun w h => zw_at hC hF (hin w h) (u_good C T N w h) args
  refine W.newcK hF.1 hF.2.1 hF.2.2.2.1 (zw_at hC hF hw rfl args) (zw_at hC hF hw1 rfl args) (zw_at hC hF hw2 rfl args) rfl hd (by omega) (by omega) hKn.2.1 hR.1 fun H1 kC hkC e1 z1 o1 => ?_
  refine kk.2.2 p e R s m args below meth c H1 ls locs (cells + 1) (slots + N) Q hF (hR.add z1 o1 ⟨_, hci, hlen, ?_⟩) hL hl ?_ ?_ hQ
  · exact (u_born ty hts (fun _ h => h) hKn hkC e1 hty).to hfs
  · show cells + 1 + (M2.2.1 - (M.2.1 + 1)) ≤ R.cells
    omega
  · show slots + N + (M2.2.2 - (M.2.2 + N)) ≤ R.slots
    omega
theorem z_newa (hC : zC g) {at0 : ArrayType} {ty : FieldType} (hty : newarray.typeOf at0 = ty) (hw : Cond.arrayClass ty ∈ lw_tbl) {x : Int32} {a0 : vp_A} (ha : ∀ cA : ClassId, vp_cell cA a0 = arrV cA a0.1 (fun _ => defaultValue ty)) (hx : ¬ x < 0) (hN : x.toNatClampNeg = a0.1) (hb : a0.1 * componentBytes ty ≤ 536870912) (hd : decode t.2.1 pc = .ok (.newarray at0, 2))
    (kk : zW g t (pc + 2) L (.ref M.2.1 :: r) (zAdd M (.inl (ty, a0)) a0.1) rv M2) : zW g t pc L (.int x :: r) M rv M2 := by
  subst hty
  have hn1 : M.2.1 + 1 ≤ M2.2.1 := kk.1
  have hn2 : M.2.2 + a0.1 ≤ M2.2.2 := kk.2.1
  refine ⟨by omega, by omega, fun p e R s m args below meth c H ls locs cells slots Q hF hR hL hl hcc hss hQ => ?_⟩
  refine va_newaK hF.1 hF.2.1 (zw_at hC hF hw rfl args) rfl hd rfl hx hN hb (by omega) (by omega) hR.1 fun H1 cA e1 z1 o1 hAr hNm => ?_
  have hal := hF.2.2.2.2.2.1.alike
  refine kk.2.2 p e R s m args below meth c H1 ls locs (cells + 1) (slots + a0.1) Q hF (hR.add z1 o1 ⟨cA, by rw [ha]; exact e1, arrOfT_moved hal.symm hAr, ?_⟩) hL hl ?_ ?_ hQ
  · refine va_RA.moved (u := s) hal.symm ?_
    cases at0 <;> exact hNm
  · show cells + 1 + (M2.2.1 - (M.2.1 + 1)) ≤ R.cells
    omega
  · show slots + a0.1 + (M2.2.2 - (M.2.2 + a0.1)) ≤ R.slots
    omega
theorem z_newq (hC : zC g) {C : String} {n : Nat} (hw : Cond.classLink t.1 n C ∈ lw_tbl) (hw1 : Cond.arrayOver (.object C) ∈ lw_tbl) {x : Int32} {N : Nat} (hx : ¬ x < 0) (hN : x.toNatClampNeg = N) (hb : N * 4 ≤ 536870912) (hd : decode t.2.1 pc = .ok (.anewarray n, 3))
    (kk : zW g t (pc + 3) L (.ref M.2.1 :: r) (zAdd M (.inl (.object C, N, .inr (.inr (.inr (.inr (fun _ => none)))))) N) rv M2) : zW g t pc L (.int x :: r) M rv M2 := by
  subst hN
  have hn1 : M.2.1 + 1 ≤ M2.2.1 := kk.1
  have hn2 : M.2.2 + x.toNatClampNeg ≤ M2.2.2 := kk.2.1
  refine ⟨by omega, by omega, fun p e R s m args below meth c H ls locs cells slots Q hF hR hL hl hcc hss hQ => ?_⟩
  have hal := hF.2.2.2.2.2.1.alike
  have hov : va_AO C s := va_AO.moved hal (va_AO.of (hC.1 _ hw1))
  refine W.anew hF.1 hF.2.1 hF.2.2.2.1 (zw_at hC hF hw rfl args) (va_AO.use hov) rfl hd rfl hx hb (by omega) (by omega) fun cA kA comp f1 f2 f3 f4 => ?_
  generalize hH1 : H.push ({ cls := cA, slots := Array.replicate x.toNatClampNeg .null, vm := .none } : Cell) = H1
  have z1 : H1.size = M.2.1 + 1 := by rw [← hH1, Array.size_push, hR.1]
  have e1 : H1[M.2.1]? = some (arrV cA x.toNatClampNeg (fun _ => .null)) := by rw [← hH1, ← hR.1, Array.getElem?_push_size, ← arrV_new]
  have o1 : ∀ q : Nat, q < M.2.1 → H1[q]? = H[q]? := fun q hq => by rw [← hH1, Array.getElem?_push, if_neg (by rw [hR.1]; omega)]
  have hAr : ArrOfT s cA (.object C) := fun N z => ⟨(fun k h => by cases h), kA, f2, comp, f3⟩
  have hRA : va_RA s cA (.object C) := ⟨kA, comp, f2, f3, f4, f1⟩
  have K := kk.2.2 p e R s m args below meth c H1 ls locs (cells + 1) (slots + x.toNatClampNeg) Q hF (hR.add z1 o1 ⟨cA, by rw [vp_cell_q]; exact e1, arrOfT_moved hal.symm hAr, hRA.moved hal.symm⟩) hL hl (by show cells + 1 + (M2.2.1 - (M.2.1 + 1)) ≤ R.cells; omega) (by show slots + _ + (M2.2.2 - (M.2.2 + _)) ≤ R.slots; omega) hQ
  rw [← hR.1] at K
  exact K
theorem z_alen {a : Nat} {ty : FieldType} {A : vp_A} (hM : M.1 a = some (.inl (ty, A))) (hd : decode t.2.1 pc = .ok (.arraylength, 1)) (kk : zW g t (pc + 1) L (.int (Int32.ofNat A.1) :: r) M rv M2) : zW g t pc L (.ref a :: r) M rv M2 := by
  refine ⟨kk.1, kk.2.1, fun p e R s m args below meth c H ls locs cells slots Q hF hR hL hl hcc hss hQ => ?_⟩
  obtain ⟨hba, cA, h1, h2, h3⟩ := hR.2.2.2 a _ hM
  have K := kk.2.2 p e R s m args below meth c H ls locs cells slots Q hF hR hL hl hcc hss hQ
  have h4 : ∃ z : Nat → Value, vp_cell cA A = arrV cA A.1 z := by
    obtain ⟨n, x⟩ := A
    rcases x with f | f | f | f | f
    · exact ⟨_, vp_cell_i cA n f⟩
    · exact ⟨_, vp_cell_l cA n f⟩
    · exact ⟨_, vp_cell_f cA n f⟩
    · exact ⟨_, vp_cell_d cA n f⟩
    · exact ⟨_, vp_cell_q cA n f⟩
  obtain ⟨z, hz⟩ := h4
  exact W.alen (ty := ty) hF.1 hF.2.1 h1 (by rw [hz]; exact hF.arr h2 _ _) (by rw [hz, arrV_size]) rfl rfl hd K

theorem z_iald {a n : Nat} {f : Nat → Int32} {i : Int32} (hM : M.1 a = some (.inl (.int, n, .inl f))) (hin : vp_in i n) (hd : decode t.2.1 pc = .ok (.iaload, 1)) (kk : zW g t (pc + 1) L (.int (f i.toNatClampNeg) :: r) M rv M2) : zW g t pc L (.int i :: .ref a :: r) M rv M2 := by
  refine ⟨kk.1, kk.2.1, fun p e R s m args below meth c H ls locs cells slots Q hF hR hL hl hcc hss hQ => ?_⟩
  obtain ⟨hba, cA, h1, h2, h3⟩ := hR.2.2.2 a _ hM
  have K := kk.2.2 p e R s m args below meth c H ls locs cells slots Q hF hR hL hl hcc hss hQ
  have hlt : i.toNatClampNeg < n := Nat.not_le.mp fun q => hin (Or.inr q)
  exact W.iald (v := .int (f i.toNatClampNeg)) hF.1 hF.2.1 h1 (hF.arr h2 n (fun j => .int (f j))) (fun q => by cases q) (by show ¬ (i < 0 ∨ (arrV _ _ _).slots.size ≤ _); rw [arrV_size]; exact hin) (by show (arrV _ _ _).slots[_]? = _; rw [arrV_read _ _ hlt]) rfl rfl hd K
theorem z_bald {a n : Nat} {f : Nat → Int32} {i : Int32} (hM : M.1 a = some (.inl (.byte, n, .inl f))) (hin : vp_in i n) (hd : decode t.2.1 pc = .ok (.baload, 1)) (kk : zW g t (pc + 1) L (.int (f i.toNatClampNeg) :: r) M rv M2) : zW g t pc L (.int i :: .ref a :: r) M rv M2 := by
  refine ⟨kk.1, kk.2.1, fun p e R s m args below meth c H ls locs cells slots Q hF hR hL hl hcc hss hQ => ?_⟩
  obtain ⟨hba, cA, h1, h2, h3⟩ := hR.2.2.2 a _ hM
  have K := kk.2.2 p e R s m args below meth c H ls locs cells slots Q hF hR hL hl hcc hss hQ
  have hlt : i.toNatClampNeg < n := Nat.not_le.mp fun q => hin (Or.inr q)
  exact W.bald (v := .int (f i.toNatClampNeg)) hF.1 hF.2.1 h1 (hF.arr h2 n (fun j => .int (f j))) (fun q => by cases q) (by show ¬ (i < 0 ∨ (arrV _ _ _).slots.size ≤ _); rw [arrV_size]; exact hin) (by show (arrV _ _ _).slots[_]? = _; rw [arrV_read _ _ hlt]) rfl rfl hd K
theorem z_zald {a n : Nat} {f : Nat → Int32} {i : Int32} (hM : M.1 a = some (.inl (.boolean, n, .inl f))) (hin : vp_in i n) (hd : decode t.2.1 pc = .ok (.baload, 1)) (kk : zW g t (pc + 1) L (.int (f i.toNatClampNeg) :: r) M rv M2) : zW g t pc L (.int i :: .ref a :: r) M rv M2 := by
  refine ⟨kk.1, kk.2.1, fun p e R s m args below meth c H ls locs cells slots Q hF hR hL hl hcc hss hQ => ?_⟩
  obtain ⟨hba, cA, h1, h2, h3⟩ := hR.2.2.2 a _ hM
  have K := kk.2.2 p e R s m args below meth c H ls locs cells slots Q hF hR hL hl hcc hss hQ
  have hlt : i.toNatClampNeg < n := Nat.not_le.mp fun q => hin (Or.inr q)
  exact W.zald (v := .int (f i.toNatClampNeg)) hF.1 hF.2.1 h1 (hF.arr h2 n (fun j => .int (f j))) (fun q => by cases q) (by show ¬ (i < 0 ∨ (arrV _ _ _).slots.size ≤ _); rw [arrV_size]; exact hin) (by show (arrV _ _ _).slots[_]? = _; rw [arrV_read _ _ hlt]) rfl rfl hd K
theorem z_lald {a n : Nat} {f : Nat → Int64} {i : Int32} (hM : M.1 a = some (.inl (.long, n, .inr (.inl f)))) (hin : vp_in i n) (hd : decode t.2.1 pc = .ok (.laload, 1)) (kk : zW g t (pc + 1) L (.long (f i.toNatClampNeg) :: r) M rv M2) : zW g t pc L (.int i :: .ref a :: r) M rv M2 := by
  refine ⟨kk.1, kk.2.1, fun p e R s m args below meth c H ls locs cells slots Q hF hR hL hl hcc hss hQ => ?_⟩
  obtain ⟨hba, cA, h1, h2, h3⟩ := hR.2.2.2 a _ hM
  have K := kk.2.2 p e R s m args below meth c H ls locs cells slots Q hF hR hL hl hcc hss hQ
  have hlt : i.toNatClampNeg < n := Nat.not_le.mp fun q => hin (Or.inr q)
  exact W.lald (v := .long (f i.toNatClampNeg)) hF.1 hF.2.1 h1 (hF.arr h2 n (fun j => .long (f j))) (fun q => by cases q) (by show ¬ (i < 0 ∨ (arrV _ _ _).slots.size ≤ _); rw [arrV_size]; exact hin) (by show (arrV _ _ _).slots[_]? = _; rw [arrV_read _ _ hlt]) rfl rfl hd K
theorem z_aald {a n : Nat} {C : String} {f : Nat → Option Nat} {i : Int32} (hM : M.1 a = some (.inl (.object C, n, .inr (.inr (.inr (.inr f)))))) (hin : vp_in i n) (hd : decode t.2.1 pc = .ok (.aaload, 1)) (kk : zW g t (pc + 1) L (va_rf (f i.toNatClampNeg) :: r) M rv M2) : zW g t pc L (.int i :: .ref a :: r) M rv M2 := by
  refine ⟨kk.1, kk.2.1, fun p e R s m args below meth c H ls locs cells slots Q hF hR hL hl hcc hss hQ => ?_⟩
  obtain ⟨hba, cA, h1, h2, h3⟩ := hR.2.2.2 a _ hM
  have K := kk.2.2 p e R s m args below meth c H ls locs cells slots Q hF hR hL hl hcc hss hQ
  have hlt : i.toNatClampNeg < n := Nat.not_le.mp fun q => hin (Or.inr q)
  exact W.aald (v := va_rf (f i.toNatClampNeg)) hF.1 hF.2.1 h1 (hF.arr h2 n (fun j => va_rf (f j))) rfl (fun q => by cases q) (by show ¬ (i < 0 ∨ (arrV _ _ _).slots.size ≤ _); rw [arrV_size]; exact hin) (by show (arrV _ _ _).slots[_]? = _; rw [arrV_read _ _ hlt]) rfl rfl hd K
theorem z_iast {a n : Nat} {f : Nat → Int32} {i : Int32} {x : Int32} (hM : M.1 a = some (.inl (.int, n, .inl f))) (hin : vp_in i n) (hd : decode t.2.1 pc = .ok (.iastore, 1)) (kk : zW g t (pc + 1) L r (zSet M a (.inl (.int, n, .inl (upd f i.toNatClampNeg x)))) rv M2) : zW g t pc L (.int x :: .int i :: .ref a :: r) M rv M2 := by
  refine ⟨kk.1, kk.2.1, fun p e R s m args below meth c H ls locs cells slots Q hF hR hL hl hcc hss hQ => ?_⟩
  obtain ⟨hba, cA, h1, h2, h3⟩ := hR.2.2.2 a _ hM
  refine W.iast hF.1 hF.2.1 h1 (hF.arr h2 n (fun j => .int (f j))) (fun q => by cases q) (by show ¬ (i < 0 ∨ (arrV _ _ _).slots.size ≤ _); rw [arrV_size]; exact hin) rfl rfl hd fun H1 e1 z oq => ?_
  refine kk.2.2 p e R s m args below meth c H1 ls _ cells slots Q hF (hR.set hM z oq ⟨cA, ?_, h2, h3⟩) hL ?_ hcc hss hQ
  · rw [e1, vp_cell_i, vp_cell_i, arrV_store]
    congr 2
    funext q
    by_cases hq : q = i.toNatClampNeg
    · subst hq
      simp [updV, upd]
      try rfl
    · simp [updV, upd, hq]
  · intro q hq
    rcases List.mem_append.mp hq with h | h
    · exact hl q h
    · rw [List.mem_singleton.mp h]; exact hba
theorem z_bast {a n : Nat} {f : Nat → Int32} {i : Int32} {x : Int32} (hM : M.1 a = some (.inl (.byte, n, .inl f))) (hin : vp_in i n) (hd : decode t.2.1 pc = .ok (.bastore, 1)) (kk : zW g t (pc + 1) L r (zSet M a (.inl (.byte, n, .inl (upd f i.toNatClampNeg (vp_nar .byte x))))) rv M2) : zW g t pc L (.int x :: .int i :: .ref a :: r) M rv M2 := by
  refine ⟨kk.1, kk.2.1, fun p e R s m args below meth c H ls locs cells slots Q hF hR hL hl hcc hss hQ => ?_⟩
  obtain ⟨hba, cA, h1, h2, h3⟩ := hR.2.2.2 a _ hM
  refine W.bast hF.1 hF.2.1 h1 (hF.arr h2 n (fun j => .int (f j))) (fun q => by cases q) (by show ¬ (i < 0 ∨ (arrV _ _ _).slots.size ≤ _); rw [arrV_size]; exact hin) rfl rfl hd fun H1 e1 z oq => ?_
  refine kk.2.2 p e R s m args below meth c H1 ls _ cells slots Q hF (hR.set hM z oq ⟨cA, ?_, h2, h3⟩) hL ?_ hcc hss hQ
  · rw [e1, vp_cell_i, vp_cell_i, arrV_store]
    congr 2
    funext q
    by_cases hq : q = i.toNatClampNeg
    · subst hq
      simp [updV, upd, vp_nar]
      try rfl
    · simp [updV, upd, vp_nar, hq]
  · intro q hq
    rcases List.mem_append.mp hq with h | h
    · exact hl q h
    · rw [List.mem_singleton.mp h]; exact hba
theorem z_zast {a n : Nat} {f : Nat → Int32} {i : Int32} {x : Int32} (hM : M.1 a = some (.inl (.boolean, n, .inl f))) (hin : vp_in i n) (hd : decode t.2.1 pc = .ok (.bastore, 1)) (kk : zW g t (pc + 1) L r (zSet M a (.inl (.boolean, n, .inl (upd f i.toNatClampNeg (vp_nar .boolean x))))) rv M2) : zW g t pc L (.int x :: .int i :: .ref a :: r) M rv M2 := by
  refine ⟨kk.1, kk.2.1, fun p e R s m args below meth c H ls locs cells slots Q hF hR hL hl hcc hss hQ => ?_⟩
  obtain ⟨hba, cA, h1, h2, h3⟩ := hR.2.2.2 a _ hM
  refine W.zast hF.1 hF.2.1 h1 (hF.arr h2 n (fun j => .int (f j))) (fun q => by cases q) (by show ¬ (i < 0 ∨ (arrV _ _ _).slots.size ≤ _); rw [arrV_size]; exact hin) rfl rfl hd fun H1 e1 z oq => ?_
  refine kk.2.2 p e R s m args below meth c H1 ls _ cells slots Q hF (hR.set hM z oq ⟨cA, ?_, h2, h3⟩) hL ?_ hcc hss hQ
  · rw [e1, vp_cell_i, vp_cell_i, arrV_store]
    congr 2
    funext q
    by_cases hq : q = i.toNatClampNeg
    · subst hq
      simp [updV, upd, vp_nar]
      try rfl
    · simp [updV, upd, vp_nar, hq]
  · intro q hq
    rcases List.mem_append.mp hq with h | h
    · exact hl q h
    · rw [List.mem_singleton.mp h]; exact hba
theorem z_last {a n : Nat} {f : Nat → Int64} {i : Int32} {x : Int64} (hM : M.1 a = some (.inl (.long, n, .inr (.inl f)))) (hin : vp_in i n) (hd : decode t.2.1 pc = .ok (.lastore, 1)) (kk : zW g t (pc + 1) L r (zSet M a (.inl (.long, n, .inr (.inl (vp_updL f i.toNatClampNeg x))))) rv M2) : zW g t pc L (.long x :: .int i :: .ref a :: r) M rv M2 := by
  refine ⟨kk.1, kk.2.1, fun p e R s m args below meth c H ls locs cells slots Q hF hR hL hl hcc hss hQ => ?_⟩
  obtain ⟨hba, cA, h1, h2, h3⟩ := hR.2.2.2 a _ hM
  refine W.last hF.1 hF.2.1 h1 (hF.arr h2 n (fun j => .long (f j))) (fun q => by cases q) (by show ¬ (i < 0 ∨ (arrV _ _ _).slots.size ≤ _); rw [arrV_size]; exact hin) rfl rfl hd fun H1 e1 z oq => ?_
  refine kk.2.2 p e R s m args below meth c H1 ls _ cells slots Q hF (hR.set hM z oq ⟨cA, ?_, h2, h3⟩) hL ?_ hcc hss hQ
  · rw [e1, vp_cell_l, vp_cell_l, arrV_store]
    congr 2
    funext q
    by_cases hq : q = i.toNatClampNeg
    · subst hq
      simp [updV, vp_updL]
      try rfl
    · simp [updV, vp_updL, hq]
  · intro q hq
    rcases List.mem_append.mp hq with h | h
    · exact hl q h
    · rw [List.mem_singleton.mp h]; exact hba
theorem z_aast (hC : zC g) {a n v : Nat} {E C : String} {ci N : Nat} {T : u_T} {ty : Nat → FieldType} {vs : List Value} {f : Nat → Option Nat} {i : Int32} (hc : zCl ci C T N ty) (hcast : C = E ∨ Cond.castable C E ∈ lw_tbl) (hM : M.1 a = some (.inl (.object E, n, .inr (.inr (.inr (.inr f)))))) (hv : M.1 v = some (.inr (ci, vs))) (hin : vp_in i n) (hd : decode t.2.1 pc = .ok (.aastore, 1))
    (kk : zW g t (pc + 1) L r (zSet M a (.inl (.object E, n, .inr (.inr (.inr (.inr (va_up f i.toNatClampNeg (some v)))))))) rv M2) : zW g t pc L (.ref v :: .int i :: .ref a :: r) M rv M2 := by
  refine ⟨kk.1, kk.2.1, fun p e R s m args below meth c H ls locs cells slots Q hF hR hL hl hcc hss hQ => ?_⟩
  obtain ⟨hba, cA, h1, h2, h3⟩ := hR.2.2.2 a _ hM
  obtain ⟨-, q0, g0, g00, cellV, g1, g2, g3, -⟩ := hR.2.2.2 v _ hv
  have hlt : i.toNatClampNeg < n := Nat.not_le.mp fun q => hin (Or.inr q)
  have h0 : ¬ i < 0 := fun q => hin (Or.inl q)
  have hal := hF.2.2.2.2.2.1.alike
  have hcls := ((hF.K hC).1 ci _ hc.1).2
  obtain ⟨kA, comp, k1, k2, k3, -⟩ := h3.moved hal
  obtain ⟨kE, hkE, -⟩ := Vm.findClass_spec k3
  obtain ⟨kC, hkC, -⟩ := hcls.2
  have hass : s.vm.assignable (g.2.2.2.1 ci) comp = true := by
    rcases hcast with rfl | hw
    · have e1 : g.2.2.2.1 ci = comp := Option.some.inj (hcls.1.symm.trans k3)
      rw [e1]
      first | exact Vm.assignable_refl _ _ | exact Vm.assignable_self _ _ | simp [Vm.assignable]
    · have hz : va_Nw (.castable C E) s := va_Nw.warmC hF.2.2.2.2.2.1 (va_Nw.of rfl (hC.1 _ hw))
      obtain ⟨c0, t1, f1, f2, f3⟩ := Cond.castable_spec (va_Nw.use (A := args) rfl hz)
      cases hcls.1.symm.trans f1
      cases k3.symm.trans f2
      exact f3
  refine W.aast hF.1 hF.2.1 h1 (fun q h => by cases h) (fun h => by cases h) k1 k2 rfl hkE ⟨h0, by show _ < (arrV _ _ _).slots.size; rw [arrV_size]; exact hlt⟩ g1 (fun q h => by rw [g3] at h; cases h) (by rw [g2]; exact hkC) (by rw [g2]; exact hass) rfl rfl hd fun H1 e1 z oq => ?_
  refine kk.2.2 p e R s m args below meth c H1 ls _ cells slots Q hF (hR.set hM z oq ⟨cA, ?_, h2, h3⟩) hL ?_ hcc hss hQ
  · rw [e1, vp_cell_q, vp_cell_q, arrV_store]
    congr 2
    funext q
    by_cases hq : q = i.toNatClampNeg
    · subst hq
      simp [updV, va_up, va_rf]
    · simp [updV, va_up, hq]
  · intro q hq
    rcases List.mem_append.mp hq with h | h
    · exact hl q h
    · rw [List.mem_singleton.mp h]; exact hba
end ZM
