/-! ONE MEMORY FOR ALL: the cells that the law's run has made, by address; next address; slots used. A judgement zW: from pc, with locals L, stack stk and memory M, the method returns rv, the memory then M2. -/
abbrev zEn : Type := (FieldType × vp_A) ⊕ (Nat × List Value)
abbrev zMe : Type := (Nat → Option zEn) × Nat × Nat
/-- launch, the law's start, its arguments, class numbers and slots -/
abbrev zG : Type := Launch × State × Array Value × va_G
/-- a method: own class, bytes, size of locals, return type, name, frames, locals' room -/
abbrev zM : Type := String × ByteArray × Nat × Option FieldType × String × Nat × Nat
def zC (g : zG) : Prop := (∀ w ∈ lw_tbl, w.before g.2.2.1 g.2.1 = true) ∧ va_K g.2.2.2 vwCl [] g.2.1
def zAt (g : zG) (q : Nat) (e : zEn) (H : Heap) : Prop := match e with
  | .inl (ty, a) => ∃ cA : ClassId, H[q]? = some (vp_cell cA a) ∧ ArrOfT g.2.1 cA ty ∧ va_RA g.2.1 cA ty
  | .inr (ci, fs) => ∃ r : vw_C, vwCl[ci]? = some r ∧ r.2.2 = fs.length ∧ t_OB q (g.2.2.2.1 ci) r.2.2 (g.2.2.2.2 ci) H (vp_V fs)
def zR (g : zG) (M : zMe) (H : Heap) : Prop := H.size = M.2.1 ∧ g.2.1.heap.size ≤ M.2.1 ∧ (∀ q : Nat, q < g.2.1.heap.size → H[q]? = g.2.1.heap[q]?) ∧ ∀ (q : Nat) (e : zEn), M.1 q = some e → g.2.1.heap.size ≤ q ∧ zAt g q e H
theorem zAt.kept {g : zG} {q : Nat} {e : zEn} {H H1 : Heap} (h : zAt g q e H) (hq : H1[q]? = H[q]?) : zAt g q e H1 := by
  match e, h with
  | .inl (ty, a), ⟨cA, h1, h2⟩ => exact ⟨cA, by rw [hq]; exact h1, h2⟩
  | .inr (ci, fs), ⟨r, h1, h2, h3⟩ => exact ⟨r, h1, h2, h3.kept hq⟩
theorem zAt.lt {g : zG} {q : Nat} {e : zEn} {H : Heap} (h : zAt g q e H) : q < H.size := by
  match e, h with
  | .inl (ty, a), ⟨cA, h1, h2⟩ => exact (Array.getElem?_eq_some_iff.mp h1).1
  | .inr (ci, fs), ⟨r, h1, h2, c0, h3, h4⟩ => exact (Array.getElem?_eq_some_iff.mp h3).1
/-- one cell changed -/
def zSet (M : zMe) (a : Nat) (e : zEn) : zMe := (fun q => if q = a then some e else M.1 q, M.2.1, M.2.2)
/-- one cell more, of n slots -/
def zAdd (M : zMe) (e : zEn) (n : Nat) : zMe := (fun q => if q = M.2.1 then some e else M.1 q, M.2.1 + 1, M.2.2 + n)
theorem zR.set {g : zG} {M : zMe} {H H1 : Heap} {a : Nat} {e e0 : zEn} (h : zR g M H) (h0 : M.1 a = some e0) (hs : H1.size = H.size) (ho : ∀ q : Nat, q ≠ a → H1[q]? = H[q]?) (hn : zAt g a e H1) : zR g (zSet M a e) H1 := by
  obtain ⟨h1, h2, h3, h4⟩ := h
  have hb := (h4 a e0 h0).1
  refine ⟨hs.trans h1, h2, fun q hq => (ho q (by omega)).trans (h3 q hq), fun q e' hq => ?_⟩
  by_cases hqa : q = a
  · subst hqa
    simp only [zSet, if_true] at hq
    cases hq
    exact ⟨hb, hn⟩
  · simp only [zSet, if_neg hqa] at hq
    exact ⟨(h4 q e' hq).1, (h4 q e' hq).2.kept (ho q hqa)⟩
theorem zR.add {g : zG} {M : zMe} {H H1 : Heap} {e : zEn} {n : Nat} (h : zR g M H) (hs : H1.size = M.2.1 + 1) (ho : ∀ q : Nat, q < M.2.1 → H1[q]? = H[q]?) (hn : zAt g M.2.1 e H1) : zR g (zAdd M e n) H1 := by
  obtain ⟨h1, h2, h3, h4⟩ := h
  refine ⟨hs, Nat.le_succ_of_le h2, fun q hq => (ho q (by omega)).trans (h3 q hq), fun q e' hq => ?_⟩
  by_cases hqa : q = M.2.1
  · subst hqa
    simp only [zAdd, if_true] at hq
    cases hq
    exact ⟨h2, hn⟩
  · simp only [zAdd, if_neg hqa] at hq
    exact ⟨(h4 q e' hq).1, (h4 q e' hq).2.kept (ho q (by have := (h4 q e' hq).2.lt; omega))⟩
/-! locals by place; what isn't known (or a long's second half) is .retAddr 0 -/
def zJ : Value → Bool
  | .retAddr _ => true
  | _ => false
def zL (n : Nat) (L : List Value) (ls : Array Slot) : Prop := ls.size = n ∧ L.length = n ∧ lv_wf ls ∧ ∀ (i : Nat) (v : Value), L[i]? = some v → zJ v = false → ls[i]? = some (.val v)
/-- a long ahead of place i is lost when i is written -/
def zk1 : Value → Value
  | .long _ => .retAddr 0
  | .double _ => .retAddr 0
  | w => w
def zK : List Value → Nat → List Value
  | [], _ => []
  | v :: L, 0 => v :: L
  | v :: L, 1 => zk1 v :: L
  | v :: L, i + 2 => v :: zK L (i + 1)
def zS1 (L : List Value) (i : Nat) (v : Value) : List Value := (zK L i).set i v
def zS2 (L : List Value) (i : Nat) (v : Value) : List Value := ((zK L i).set i v).set (i + 1) (.retAddr 0)
theorem zK_len : ∀ (L : List Value) (i : Nat), (zK L i).length = L.length := by
  intro L
  induction L with
  | nil => intro i; cases i <;> rfl
  | cons v L ih =>
    intro i
    match i with
    | 0 => rfl
    | 1 => rfl
    | i + 2 => simp [zK, ih]
theorem zK_at : ∀ (L : List Value) (i j : Nat) (w : Value), (zK L i)[j]? = some w → zJ w = false → L[j]? = some w ∧ (j + 1 = i → w.category ≠ 2) := by
  intro L
  induction L with
  | nil => intro i j w h; cases i <;> simp [zK] at h
  | cons v L ih =>
    intro i j w h hw
    match i with
    | 0 => exact ⟨h, fun e => by omega⟩
    | 1 =>
      match j with
      | 0 =>
        have h : zk1 v = w := by
          have h : (zk1 v :: L)[0]? = some w := h
          simpa using h
        subst h
        cases v <;> first | (simp [zk1, zJ] at hw; done) | (refine ⟨rfl, fun _ => ?_⟩; simp [zk1, Value.category])
      | j + 1 =>
        have h : (zk1 v :: L)[j + 1]? = some w := h
        exact ⟨by simpa using h, fun e => by omega⟩
    | i + 2 =>
      match j with
      | 0 => exact ⟨by simpa [zK] using h, fun e => by omega⟩
      | j + 1 =>
        obtain ⟨a, b⟩ := ih (i + 1) j w (by simpa [zK] using h) hw
        exact ⟨by simpa using a, fun e => b (by omega)⟩
theorem zL.at {n : Nat} {L : List Value} {ls : Array Slot} (h : zL n L ls) {i : Nat} {v : Value} (hi : L[i]? = some v) (hv : zJ v = false) : ls[i]? = some (.val v) := h.2.2.2 i v hi hv
/-- the known places as the kit lists them -/
def zA (L : List Value) : List (Nat × Value) := (List.range L.length).filterMap (fun i => match L[i]? with | some v => if zJ v then none else some (i, v) | none => none)
theorem zA_mem {L : List Value} {i : Nat} {v : Value} : (i, v) ∈ zA L ↔ (L[i]? = some v ∧ zJ v = false) := by
  simp only [zA, List.mem_filterMap, List.mem_range]
  constructor
  · rintro ⟨j, hj, h⟩
    cases hL : L[j]? with
    | none => rw [hL] at h; cases h
    | some w =>
      rw [hL] at h
      simp only at h
      by_cases hw : zJ w = true
      · rw [if_pos hw] at h; cases h
      · rw [if_neg hw] at h
        simp only [Option.some.injEq, Prod.mk.injEq] at h
        obtain ⟨rfl, rfl⟩ := h
        exact ⟨hL, by simpa using hw⟩
  · rintro ⟨h1, h2⟩
    refine ⟨i, (List.getElem?_eq_some_iff.mp h1).1, ?_⟩
    rw [h1]
    simp [h2]
theorem zL.has {n : Nat} {L : List Value} {ls : Array Slot} (h : zL n L ls) : lv_has ls n (zA L) := ⟨h.1, h.2.2.1, fun q hq => by obtain ⟨i, v⟩ := q; obtain ⟨a, b⟩ := zA_mem.mp hq; exact h.2.2.2 i v a b⟩
theorem zL.s1 {n : Nat} {L : List Value} {ls ls' : Array Slot} {i : Nat} {v : Value} (h : zL n L ls) (hl : lv_has ls' n ((i, v) :: (zA L).filter (fun q => !(q.1 == i) && !(q.1 + 1 == i && q.2.category == 2)))) (hi : i < n) : zL n (zS1 L i v) ls' := by
  refine ⟨hl.1, by rw [zS1, List.length_set, zK_len]; exact h.2.1, hl.2.1, fun j w hj hw => ?_⟩
  by_cases hji : j = i
  · subst hji
    rw [zS1, List.getElem?_set_self (by rw [zK_len, h.2.1]; exact hi)] at hj
    cases hj
    exact hl.2.2 _ List.mem_cons_self
  · rw [zS1, List.getElem?_set_ne (Ne.symm hji)] at hj
    obtain ⟨a, b⟩ := zK_at L i j w hj hw
    refine hl.2.2 (j, w) (List.mem_cons_of_mem _ (List.mem_filter.mpr ⟨zA_mem.mpr ⟨a, hw⟩, ?_⟩))
    have hb : ¬ (j + 1 = i ∧ w.category = 2) := fun e => b e.1 e.2
    simp [hji]
    omega
theorem zL.s2 {n : Nat} {L : List Value} {ls ls' : Array Slot} {i : Nat} {v : Value} (h : zL n L ls) (hl : lv_has ls' n ((i, v) :: (zA L).filter (fun q => !(q.1 == i) && (!(q.1 == i + 1) && !(q.1 + 1 == i && q.2.category == 2))))) (hi : i + 1 < n) : zL n (zS2 L i v) ls' := by
  refine ⟨hl.1, by rw [zS2, List.length_set, List.length_set, zK_len]; exact h.2.1, hl.2.1, fun j w hj hw => ?_⟩
  by_cases hj1 : j = i + 1
  · subst hj1
    rw [zS2, List.getElem?_set_self (by rw [List.length_set, zK_len, h.2.1]; exact hi)] at hj
    cases hj
    simp [zJ] at hw
  · rw [zS2, List.getElem?_set_ne (Ne.symm hj1)] at hj
    by_cases hji : j = i
    · subst hji
      rw [List.getElem?_set_self (by rw [zK_len, h.2.1]; omega)] at hj
      cases hj
      exact hl.2.2 _ List.mem_cons_self
    · rw [List.getElem?_set_ne (Ne.symm hji)] at hj
      obtain ⟨a, b⟩ := zK_at L i j w hj hw
      refine hl.2.2 (j, w) (List.mem_cons_of_mem _ (List.mem_filter.mpr ⟨zA_mem.mpr ⟨a, hw⟩, ?_⟩))
      have hb : ¬ (j + 1 = i ∧ w.category = 2) := fun e => b e.1 e.2
      simp [hji, hj1]
      omega
/-- the locals at a method's entry -/
def zE : List Value → List Value
  | [] => []
  | .long x :: vs => .long x :: .retAddr 0 :: zE vs
  | .double x :: vs => .double x :: .retAddr 0 :: zE vs
  | v :: vs => v :: zE vs
theorem zE_at : ∀ (vs : List Value) (k i : Nat) (v : Value), (zE vs)[i]? = some v → zJ v = false → (k + i, v) ∈ lv_args k vs := by
  intro vs
  induction vs with
  | nil => intro k i v h; simp [zE] at h
  | cons u vs ih =>
    intro k i v h hv
    have one : u.category = 1 → (zE (u :: vs)) = u :: zE vs → (k + i, v) ∈ lv_args k (u :: vs) := by
      intro hc he
      rw [he] at h
      have hc2 : ¬ u.category = 2 := by omega
      simp only [lv_args, if_neg hc2]
      match i, h with
      | 0, h => simp at h; subst h; exact List.mem_cons_self
      | i + 1, h =>
        refine List.mem_cons_of_mem _ ?_
        have := ih (k + 1) i v (by simpa using h) hv
        rwa [show k + (i + 1) = k + 1 + i by omega]
    have two : u.category = 2 → (zE (u :: vs)) = u :: .retAddr 0 :: zE vs → (k + i, v) ∈ lv_args k (u :: vs) := by
      intro hc he
      rw [he] at h
      simp only [lv_args, if_pos hc]
      match i, h with
      | 0, h => simp at h; subst h; exact List.mem_cons_self
      | 1, h => simp at h; subst h; simp [zJ] at hv
      | i + 2, h =>
        refine List.mem_cons_of_mem _ ?_
        have := ih (k + 2) i v (by simpa using h) hv
        rwa [show k + (i + 2) = k + 2 + i by omega]
    cases u with
    | long x => exact two rfl rfl
    | double x => exact two rfl rfl
    | int x => exact one rfl rfl
    | float x => exact one rfl rfl
    | null => exact one rfl rfl
    | ref x => exact one rfl rfl
    | retAddr x => exact one rfl rfl
theorem zE_len : ∀ vs : List Value, (zE vs).length = (lg_sl vs).length := by
  intro vs
  induction vs with
  | nil => rfl
  | cons u vs ih => cases u <;> simp [zE, lg_sl, Value.category] at ih ⊢ <;> omega
def zEn0 (n : Nat) (vs : List Value) : List Value := zE vs ++ List.replicate (n - (zE vs).length) (.retAddr 0)
theorem zL.entry {n : Nat} {vs : List Value} (h : (zE vs).length ≤ n) : zL n (zEn0 n vs) ((lg_sl vs ++ List.replicate (n - (lg_sl vs).length) Slot.unset).toArray) := by
  have hl := lv_entry vs (n := n) (by rw [← zE_len]; exact h)
  refine ⟨hl.1, by simp [zEn0]; omega, hl.2.1, fun i v hi hv => ?_⟩
  by_cases hlt : i < (zE vs).length
  · rw [zEn0, List.getElem?_append_left hlt] at hi
    have := zE_at vs 0 i v hi hv
    exact hl.2.2 (i, v) (by simpa using this)
  · rw [zEn0, List.getElem?_append_right (by omega)] at hi
    have := List.eq_of_mem_replicate (List.mem_of_getElem? hi)
    subst this
    simp [zJ] at hv
/-! the judgement -/
def zRet (cc : ByteArray) (pc : Nat) (rv : Option Value) : Prop := match rv with
  | none => decode cc pc = .ok (.return_, 1)
  | some (.int _) => decode cc pc = .ok (.ireturn, 1)
  | some (.long _) => decode cc pc = .ok (.lreturn, 1)
  | some (.ref _) => decode cc pc = .ok (.areturn, 1)
  | some .null => decode cc pc = .ok (.areturn, 1)
  | _ => False
/-- the answer fits the method's type -/
def zRok (ty : Option FieldType) (rv : Option Value) : Prop := match rv with
  | none => ty = none
  | some (.int x) => ∃ a, ty = some a ∧ narrow a (.int x) = .int x
  | some (.long _) => ty = some .long
  | some (.ref _) => ∃ a, ty = some a ∧ ((∃ n, a = .object n) ∨ ∃ u, a = .array u)
  | some .null => ∃ a, ty = some a ∧ ((∃ n, a = .object n) ∨ ∃ u, a = .array u)
  | _ => False
def zF (g : zG) (t : zM) (p : Program) (R : Room) (s : State) (m : MethodId) (meth : Method) (c : Code) : Prop := p.tables.exec = Jvm.exec ∧ c.code = t.2.1 ∧ c.maxLocals = t.2.2.1 ∧ s.vm.findClass t.1 = some m.cls ∧ meth.name = t.2.2.2.2.1 ∧ g.2.1.WarmedH s.vm ∧ t.2.2.2.2.2.1 ≤ R.frames ∧ t.2.2.2.2.2.2 ≤ R.locals
def zW (g : zG) (t : zM) (pc : Nat) (L stk : List Value) (M : zMe) (rv : Option Value) (M2 : zMe) : Prop := M.2.1 ≤ M2.2.1 ∧ M.2.2 ≤ M2.2.2 ∧
  ∀ (p : Program) (e : Env) (R : Room) (s : State) (m : MethodId) (args : Array Value) (below : List Frame) (meth : Method) (c : Code) (H : Heap) (ls : Array Slot) (locs : List Loc) (cells slots : Nat) (Q : State → Prop),
    zF g t p R s m meth c → zR g M H → zL t.2.2.1 L ls → (∀ q ∈ locs, g.2.1.heap.size ≤ q.base) → cells + (M2.2.1 - M.2.1) ≤ R.cells → slots + (M2.2.2 - M.2.2) ≤ R.slots →
    (∀ (pc1 : Nat) (ls1 : Array Slot) (H1 : Heap) (locs1 : List Loc) (cells1 slots1 : Nat), zR g M2 H1 → (∀ q ∈ locs1, g.2.1.heap.size ≤ q.base) → cells1 ≤ R.cells → slots1 ≤ R.slots → zRet t.2.1 pc1 rv → zRok t.2.2.2.1 rv → W p g.1 e R s m args below meth c H1 locs1 cells1 slots1 Q (F0 m pc1 ls1 rv.toList)) →
    W p g.1 e R s m args below meth c H locs cells slots Q (F0 m pc ls stk)
section ZW
variable {g : zG} {t : zM} {pc pc2 : Nat} {L L2 stk stk2 r : List Value} {M M1 M2 : zMe} {rv : Option Value}
/-- a step that leaves locals and memory alone -/
theorem zgo (h : ∀ (p : Program) (e : Env) (R : Room) (s : State) (m : MethodId) (args : Array Value) (below : List Frame) (meth : Method) (c : Code) (H : Heap) (ls : Array Slot) (locs : List Loc) (cells slots : Nat) (Q : State → Prop), zF g t p R s m meth c → zL t.2.2.1 L ls → W p g.1 e R s m args below meth c H locs cells slots Q (F0 m pc2 ls stk2) → W p g.1 e R s m args below meth c H locs cells slots Q (F0 m pc ls stk))
    (k : zW g t pc2 L stk2 M rv M2) : zW g t pc L stk M rv M2 :=
  ⟨k.1, k.2.1, fun p e R s m args below meth c H ls locs cells slots Q hF hR hL hl hc hs hQ => h p e R s m args below meth c H ls locs cells slots Q hF hL (k.2.2 p e R s m args below meth c H ls locs cells slots Q hF hR hL hl hc hs hQ)⟩
/-- a step that changes locals -/
theorem zgoL (h : ∀ (p : Program) (e : Env) (R : Room) (s : State) (m : MethodId) (args : Array Value) (below : List Frame) (meth : Method) (c : Code) (H : Heap) (ls : Array Slot) (locs : List Loc) (cells slots : Nat) (Q : State → Prop), zF g t p R s m meth c → zL t.2.2.1 L ls → (∀ ls2, zL t.2.2.1 L2 ls2 → W p g.1 e R s m args below meth c H locs cells slots Q (F0 m pc2 ls2 stk2)) → W p g.1 e R s m args below meth c H locs cells slots Q (F0 m pc ls stk))
    (k : zW g t pc2 L2 stk2 M rv M2) : zW g t pc L stk M rv M2 :=
  ⟨k.1, k.2.1, fun p e R s m args below meth c H ls locs cells slots Q hF hR hL hl hc hs hQ => h p e R s m args below meth c H ls locs cells slots Q hF hL (fun ls2 hL2 => k.2.2 p e R s m args below meth c H ls2 locs cells slots Q hF hR hL2 hl hc hs hQ)⟩
/-- places of the locals that are forgotten -/
def zmask : List Bool → List Value → List Value
  | _, [] => []
  | [], v :: L => v :: L
  | b :: bs, v :: L => (if b then v else .retAddr 0) :: zmask bs L
theorem zmask_len : ∀ (bs : List Bool) (L : List Value), (zmask bs L).length = L.length := by
  intro bs
  induction bs with
  | nil => intro L; cases L <;> rfl
  | cons b bs ih => intro L; cases L <;> simp [zmask, ih]
theorem zmask_at : ∀ (bs : List Bool) (L : List Value) (i : Nat) (v : Value), (zmask bs L)[i]? = some v → zJ v = false → L[i]? = some v := by
  intro bs
  induction bs with
  | nil => intro L i v h hv; cases L <;> exact h
  | cons b bs ih =>
    intro L i v h hv
    cases L with
    | nil => exact h
    | cons w L =>
      cases i with
      | zero =>
        cases b
        · simp [zmask] at h; subst h; simp [zJ] at hv
        · simpa [zmask] using h
      | succ i => exact ih L i v (by simpa [zmask] using h) hv
theorem zweak (bs : List Bool) (k : zW g t pc (zmask bs L) stk M rv M2) : zW g t pc L stk M rv M2 :=
  ⟨k.1, k.2.1, fun p e R s m args below meth c H ls locs cells slots Q hF hR hL hl hc hs hQ => k.2.2 p e R s m args below meth c H ls locs cells slots Q hF hR ⟨hL.1, by rw [zmask_len]; exact hL.2.1, hL.2.2.1, fun i v h hv => hL.2.2.2 i v (zmask_at bs L i v h hv) hv⟩ hl hc hs hQ⟩
theorem zeq (hL : L = L2) (hs : stk = stk2) (k : zW g t pc L2 stk2 M rv M2) : zW g t pc L stk M rv M2 := by subst hL; subst hs; exact k
end ZW
