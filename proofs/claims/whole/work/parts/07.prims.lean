theorem znn {z : Int32} (hz : ¬ z < 0) : z.toInt = (z.toNatClampNeg : Int) := by
  have h0 : (0 : Int) ≤ z.toInt := by simpa using Int32.le_iff_toInt_le.mp (Int32.not_lt.mp hz)
  show z.toInt = ((z.toInt.toNat : Nat) : Int)
  omega
/-- arraycopy between long arrays: the destination's cell alone changes -/
theorem zcopyl {p : Program} {l : Launch} {e : Env} {R : Room} {s : State} {m : MethodId} {args : Array Value} {below : List Frame} {meth : Method} {c : Code} {H : Heap} {locs : List Loc} {cells slots : Nat} {Q : State → Prop} {cc : ByteArray} {pc : Nat} {ls : Array Slot} {rest : List Value} {a : Nat} (hexec : p.tables.exec = Jvm.exec) (hb : c.code = cc) (hml : c.maxLocals = ls.size) {own : String} {index : Nat} (hown : s.vm.findClass own = some m.cls) (hlink : (Cond.methodLink own index arraycopyName).before args s = true) (hnat : (Cond.native arraycopyName).before args s = true) (hstat : (Cond.static arraycopyName).before args s = true) (hini : (Cond.initialized "java/lang/System").before args s = true)
    {a0 : Nat} {c0 c1 : ClassId} {n0 n1 : Nat} {f g : Nat → Int64} (hc0 : H[a0]? = some (vp_cell c0 (n0, .inr (.inl f)))) (hc1 : H[a]? = some (vp_cell c1 (n1, .inr (.inl g)))) (hA0 : ArrOfT s c0 .long) (hA1 : ArrOfT s c1 .long)
    {sp dp n : Int32} (h1 : ¬ sp < 0) (h2 : ¬ dp < 0) (h3 : ¬ n < 0) (h4 : sp.toNatClampNeg + n.toNatClampNeg ≤ n0) (h5 : dp.toNatClampNeg + n.toNatClampNeg ≤ n1)
    (hfr : 1 ≤ R.frames) (hlo : (rest.map fun v => v.category).sum + (nativeFrameWords "java/lang/System" "arraycopy" 5 + 11) ≤ R.locals) (hdg : decode cc pc = .ok (.invokestatic index, 3))
    (kk : ∀ (H1 : Heap) (L1 : List Loc), H1[a]? = some (vp_cell c1 (n1, .inr (.inl (va_cpy f g sp.toNatClampNeg dp.toNatClampNeg n.toNatClampNeg)))) → H1.size = H.size → (∀ q, q ≠ a → H1[q]? = H[q]?) → (∀ q ∈ L1, q.base = a) → W p l e R s m args below meth c H1 (locs ++ L1) cells slots Q (F0 m (pc + 3) ls rest)) : W p l e R s m args below meth c H locs cells slots Q (F0 m pc ls (.int n :: .int dp :: .ref a :: .int sp :: .ref a0 :: rest)) := by
  intro T hT X
  subst hT
  subst hb
  have s0 : (vp_cell c0 (n0, .inr (.inl f))).slots.size = n0 := arrV_size c0 n0 _
  have s1 : (vp_cell c1 (n1, .inr (.inl g))).slots.size = n1 := arrV_size c1 n1 _
  obtain ⟨-, k0, hk0, d0, hd0⟩ := hA0 n0 (fun j => .long (f j))
  obtain ⟨-, k1, hk1, d1, hd1⟩ := hA1 n1 (fun j => .long (g j))
  have hlo2 : 2 * (F0 m pc ls (.int n :: .int dp :: .ref a :: .int sp :: .ref a0 :: rest)).monitorRoom + (rest.map fun v => v.category).sum + (nativeFrameWords "java/lang/System" "arraycopy" 5 + 11) ≤ R.locals := by
    rw [show (F0 m pc ls (.int n :: .int dp :: .ref a :: .int sp :: .ref a0 :: rest)).monitorRoom = 0 from rfl]
    omega
  obtain ⟨vm2, X2, step⟩ := X.arraycopy hexec hown hlink hnat hstat hini (srcPos := sp) (destPos := dp) (n := n) hc0 hc1 (fun _ z => by cases z) (fun _ z => by cases z) (fun z => by cases z) (fun z => by cases z) hk0 hk1 hd0 hd1 rfl h1 h2 h3
    (by rw [znn h1, znn h3, s0]; omega) (by rw [znn h2, znn h3, s1]; omega)
    (fun vm1 _ i hi => by
      have ev : (vp_cell c0 (n0, .inr (.inl f))).slots.getD (sp.toNatClampNeg + i) .null = .long (f (sp.toNatClampNeg + i)) := by
        rw [Array.getD_eq_getD_getElem?, vp_cell_l, arrV_read c0 (fun j => .long (f j)) (show sp.toNatClampNeg + i < n0 by omega)]
        rfl
      rw [ev]
      exact ⟨rfl, trivial⟩)
    (g := F0 m pc ls (.int n :: .int dp :: .ref a :: .int sp :: .ref a0 :: rest)) rfl hml.symm (rest := rest) rfl hdg hfr hlo2
  have ec : copied (vp_cell c0 (n0, .inr (.inl f))) (vp_cell c1 (n1, .inr (.inl g))) sp dp n = vp_cell c1 (n1, .inr (.inl (va_cpy f g sp.toNatClampNeg dp.toNatClampNeg n.toNatClampNeg))) := va_copied (fun z => .long z) c0 c1 f g h4
  rw [ec] at X2 step
  have hlt : a < T.heap.size := (Array.getElem?_eq_some_iff.mp hc1).1
  obtain ⟨t2, a1, b1⟩ := kk (T.heap.setIfInBounds a (vp_cell c1 (n1, .inr (.inl (va_cpy f g sp.toNatClampNeg dp.toNatClampNeg n.toNatClampNeg))))) _ (by simp [Array.getElem?_setIfInBounds, hlt]) (by simp) (fun q hq => by simp [Array.getElem?_setIfInBounds, Ne.symm hq]) (fun q hq => by
    obtain ⟨z, -, hz⟩ := List.mem_map.mp hq
    rw [← hz]) _ rfl X2
  exact ⟨t2, step t2 a1, b1⟩
/-! functions over the memory, as the bytecode does it: none where the machine would not go on as we walk it -/
def zlet {α β : Type} (x : α) (f : α → β) : β := f x
theorem zlet_use {α β : Type} {x y : α} {f : α → Option β} {q : β} (h : zlet x f = some q) (e : y = x) : f y = some q := by subst e; exact h
theorem zbind {α β : Type} {x : Option α} {f : α → Option β} {q : β} (h : x.bind f = some q) : ∃ y, x = some y ∧ f y = some q := Option.bind_eq_some_iff.mp h
theorem zift {α : Type} {c : Prop} [Decidable c] {a b : Option α} {q : α} (h : (if c then a else b) = some q) (hc : c) : a = some q := by rw [if_pos hc] at h; exact h
theorem zife {α : Type} {c : Prop} [Decidable c] {a b : Option α} {q : α} (h : (if c then a else b) = some q) (hc : ¬ c) : b = some q := by rw [if_neg hc] at h; exact h
theorem zifs {α : Type} {c : Prop} [Decidable c] {a : Option α} {q : α} (h : (if c then a else none) = some q) : c ∧ a = some q := by
  by_cases hc : c
  · exact ⟨hc, zift h hc⟩
  · rw [if_neg hc] at h; cases h
def zcase {β : Type} (x : Option Nat) (A : β) (f : Nat → β) : β := match x with
  | none => A
  | some a => f a
theorem zcaseN {β : Type} {x : Option Nat} {A : Option β} {f : Nat → Option β} {q : β} (h : zcase x A f = some q) (e : x = none) : A = some q := by subst e; exact h
theorem zcaseS {β : Type} {x : Option Nat} {A : Option β} {f : Nat → Option β} {q : β} {a : Nat} (h : zcase x A f = some q) (e : x = some a) : f a = some q := by subst e; exact h
theorem zon (x : Option Nat) : x = none ∨ ∃ a, x = some a := by cases x with | none => exact Or.inl rfl | some a => exact Or.inr ⟨a, rfl⟩
theorem zopt {β : Type} {x : Option Nat} {f : Nat → Option β} {q : β} (h : zcase x none f = some q) : ∃ a, x = some a ∧ f a = some q := by
  cases x with
  | none => cases h
  | some a => exact ⟨a, rfl, h⟩
def zfu : Nat := 1000000
def zFs (own : String) (n : Nat) (cs : List Nat) (k : Nat) : Prop := ∀ ci ∈ cs, ∃ C T N ty, zCl ci C T N ty ∧ k < N ∧ zFl own n T k
def zFp (own : String) (n : Nat) (cs : List Nat) (k : Nat) (ft : FieldType) (nm : String) : Prop := ∀ ci ∈ cs, ∃ C T N ty, zCl ci C T N ty ∧ k < N ∧ zFl own n T k ∧ ty k = ft ∧ ((T k).2.2.2 = false ∨ (nm = "<init>" ∧ (T k).2.2.2 = true ∧ (T k).1 = own))
/-- field k of the object at a, whose class is one of cs -/
def zg (M : zMe) (a : Nat) (cs : List Nat) (k : Nat) : Option Value := match M.1 a with
  | some (.inr (ci, fs)) => if ci ∈ cs then fs[k]? else none
  | _ => none
def zgI (M : zMe) (a : Nat) (cs : List Nat) (k : Nat) : Option Int32 := match zg M a cs k with
  | some (.int x) => some x
  | _ => none
def zgL (M : zMe) (a : Nat) (cs : List Nat) (k : Nat) : Option Int64 := match zg M a cs k with
  | some (.long x) => some x
  | _ => none
def zgN (M : zMe) (a : Nat) (cs : List Nat) (k : Nat) : Option Nat := match zg M a cs k with
  | some (.ref x) => some x
  | _ => none
theorem zg_some {M : zMe} {a : Nat} {cs : List Nat} {k : Nat} {v : Value} (h : zg M a cs k = some v) : ∃ ci fs, ci ∈ cs ∧ M.1 a = some (.inr (ci, fs)) ∧ fs[k]? = some v := by
  unfold zg at h
  split at h
  next ci fs e =>
    obtain ⟨h1, h2⟩ := zifs h
    exact ⟨ci, fs, h1, e, h2⟩
  next => cases h
theorem zgI_some {M : zMe} {a : Nat} {cs : List Nat} {k : Nat} {x : Int32} (h : zgI M a cs k = some x) : zg M a cs k = some (.int x) := by
  unfold zgI at h
  split at h
  next y e => cases h; exact e
  next => cases h
theorem zgL_some {M : zMe} {a : Nat} {cs : List Nat} {k : Nat} {x : Int64} (h : zgL M a cs k = some x) : zg M a cs k = some (.long x) := by
  unfold zgL at h
  split at h
  next y e => cases h; exact e
  next => cases h
theorem zgN_some {M : zMe} {a : Nat} {cs : List Nat} {k : Nat} {x : Nat} (h : zgN M a cs k = some x) : zg M a cs k = some (.ref x) := by
  unfold zgN at h
  split at h
  next y e => cases h; exact e
  next => cases h
def zp (M : zMe) (a : Nat) (cs : List Nat) (k : Nat) (v : Value) : Option zMe := match M.1 a with
  | some (.inr (ci, fs)) => if ci ∈ cs then some (zSet M a (.inr (ci, fs.set k v))) else none
  | _ => none
theorem zp_some {M M1 : zMe} {a : Nat} {cs : List Nat} {k : Nat} {v : Value} (h : zp M a cs k v = some M1) : ∃ ci fs, ci ∈ cs ∧ M.1 a = some (.inr (ci, fs)) ∧ M1 = zSet M a (.inr (ci, fs.set k v)) := by
  unfold zp at h
  split at h
  next ci fs e =>
    obtain ⟨h1, h2⟩ := zifs h
    exact ⟨ci, fs, h1, e, (Option.some.inj h2).symm⟩
  next => cases h
def zpI (M : zMe) (a : Nat) (cs : List Nat) (k : Nat) (x : Int32) : Option zMe := zp M a cs k (.int x)
def zpZ (M : zMe) (a : Nat) (cs : List Nat) (k : Nat) (x : Int32) : Option zMe := if x = 0 ∨ x = 1 then zp M a cs k (.int x) else none
def zpL (M : zMe) (a : Nat) (cs : List Nat) (k : Nat) (x : Int64) : Option zMe := zp M a cs k (.long x)
def zpR (M : zMe) (a : Nat) (cs : List Nat) (k : Nat) (x : Option Nat) : Option zMe := zp M a cs k (va_rf x)
theorem zbo {x : Int32} (h : x = 0 ∨ x = 1) : narrow .boolean (.int x) = .int x := by rcases h with rfl | rfl <;> rfl
theorem zbf {x : Int32} (h : x = 0 ∨ x = 1) : fits .boolean (.int x) = true := by rcases h with rfl | rfl <;> rfl
section ZP
variable {g : zG} {t : zM} {pc n : Nat} {L r : List Value} {M M1 M2 : zMe} {rv : Option Value} {a k : Nat} {cs : List Nat}
theorem z_g (hC : zC g) (hf : zFs t.1 n cs k) {v : Value} (h : zg M a cs k = some v) (hd : decode t.2.1 pc = .ok (.getfield n, 3)) (kk : zW g t (pc + 3) L (v :: r) M rv M2) : zW g t pc L (.ref a :: r) M rv M2 := by
  obtain ⟨ci, fs, h1, h2, h3⟩ := zg_some h
  obtain ⟨C, T, N, ty, f1, f2, f3⟩ := hf ci h1
  exact z_getf hC f1 k f2 f3 h2 h3 hd kk
theorem z_gI (hC : zC g) (hf : zFs t.1 n cs k) {x : Int32} (h : zgI M a cs k = some x) (hd : decode t.2.1 pc = .ok (.getfield n, 3)) (kk : zW g t (pc + 3) L (.int x :: r) M rv M2) : zW g t pc L (.ref a :: r) M rv M2 := z_g hC hf (zgI_some h) hd kk
theorem z_gL (hC : zC g) (hf : zFs t.1 n cs k) {x : Int64} (h : zgL M a cs k = some x) (hd : decode t.2.1 pc = .ok (.getfield n, 3)) (kk : zW g t (pc + 3) L (.long x :: r) M rv M2) : zW g t pc L (.ref a :: r) M rv M2 := z_g hC hf (zgL_some h) hd kk
theorem z_gN (hC : zC g) (hf : zFs t.1 n cs k) {x : Nat} (h : zgN M a cs k = some x) (hd : decode t.2.1 pc = .ok (.getfield n, 3)) (kk : zW g t (pc + 3) L (.ref x :: r) M rv M2) : zW g t pc L (.ref a :: r) M rv M2 := z_g hC hf (zgN_some h) hd kk
theorem z_p (hC : zC g) {ft : FieldType} (hf : zFp t.1 n cs k ft t.2.2.2.2.1) {v : Value} (hn : narrow ft v = v) (hft : fits ft v = true) (h : zp M a cs k v = some M1) (hd : decode t.2.1 pc = .ok (.putfield n, 3)) (kk : zW g t (pc + 3) L r M1 rv M2) : zW g t pc L (v :: .ref a :: r) M rv M2 := by
  obtain ⟨ci, fs, h1, h2, h3⟩ := zp_some h
  obtain ⟨C, T, N, ty, f1, f2, f3, f4, f5⟩ := hf ci h1
  subst h3
  exact z_putf hC f1 k f2 f3 f5 h2 (by rw [f4]; exact hn) (by rw [f4]; exact hft) hd kk
theorem z_pI (hC : zC g) (hf : zFp t.1 n cs k .int t.2.2.2.2.1) {x : Int32} (h : zpI M a cs k x = some M1) (hd : decode t.2.1 pc = .ok (.putfield n, 3)) (kk : zW g t (pc + 3) L r M1 rv M2) : zW g t pc L (.int x :: .ref a :: r) M rv M2 := z_p hC hf rfl rfl h hd kk
theorem z_pL (hC : zC g) (hf : zFp t.1 n cs k .long t.2.2.2.2.1) {x : Int64} (h : zpL M a cs k x = some M1) (hd : decode t.2.1 pc = .ok (.putfield n, 3)) (kk : zW g t (pc + 3) L r M1 rv M2) : zW g t pc L (.long x :: .ref a :: r) M rv M2 := z_p hC hf rfl rfl h hd kk
theorem z_pZ (hC : zC g) (hf : zFp t.1 n cs k .boolean t.2.2.2.2.1) {x : Int32} (h : zpZ M a cs k x = some M1) (hd : decode t.2.1 pc = .ok (.putfield n, 3)) (kk : zW g t (pc + 3) L r M1 rv M2) : zW g t pc L (.int x :: .ref a :: r) M rv M2 := by
  obtain ⟨h1, h2⟩ := zifs h
  exact z_p hC hf (zbo h1) (zbf h1) h2 hd kk
theorem z_pRo (hC : zC g) {C : String} (hf : zFp t.1 n cs k (.object C) t.2.2.2.2.1) {x : Option Nat} (h : zpR M a cs k x = some M1) (hd : decode t.2.1 pc = .ok (.putfield n, 3)) (kk : zW g t (pc + 3) L r M1 rv M2) : zW g t pc L (va_rf x :: .ref a :: r) M rv M2 := z_p hC hf (by cases x <;> rfl) (by cases x <;> rfl) h hd kk
theorem z_pRa (hC : zC g) {u : FieldType} (hf : zFp t.1 n cs k (.array u) t.2.2.2.2.1) {x : Option Nat} (h : zpR M a cs k x = some M1) (hd : decode t.2.1 pc = .ok (.putfield n, 3)) (kk : zW g t (pc + 3) L r M1 rv M2) : zW g t pc L (va_rf x :: .ref a :: r) M rv M2 := z_p hC hf (by cases x <;> rfl) (by cases x <;> rfl) h hd kk
end ZP
def zrI (M : zMe) (a : Nat) (i : Int32) : Option Int32 := match M.1 a with
  | some (.inl (.int, n, .inl f)) => if i < 0 ∨ n ≤ i.toNatClampNeg then none else some (f i.toNatClampNeg)
  | _ => none
theorem zrI_some {M : zMe} {a : Nat} {i : Int32} {x : Int32} (h : zrI M a i = some x) : ∃ n f, M.1 a = some (.inl (.int, n, .inl f)) ∧ vp_in i n ∧ x = f i.toNatClampNeg := by
  unfold zrI at h
  split at h
  next n f e =>
    by_cases hc : i < 0 ∨ n ≤ i.toNatClampNeg
    · rw [if_pos hc] at h; cases h
    · rw [if_neg hc] at h; cases h; exact ⟨n, f, e, hc, rfl⟩
  next => cases h
theorem z_rI {g : zG} {t : zM} {pc : Nat} {L r : List Value} {M M2 : zMe} {rv : Option Value} {a : Nat} {i : Int32} {x : Int32} (h : zrI M a i = some x) (hd : decode t.2.1 pc = .ok (.iaload, 1)) (kk : zW g t (pc + 1) L (.int x :: r) M rv M2) : zW g t pc L (.int i :: .ref a :: r) M rv M2 := by
  obtain ⟨n, f, h1, h2, h3⟩ := zrI_some h
  subst h3
  exact z_iald h1 h2 hd kk
def zwI (M : zMe) (a : Nat) (i : Int32) (x : Int32) : Option zMe := match M.1 a with
  | some (.inl (.int, n, .inl f)) => if i < 0 ∨ n ≤ i.toNatClampNeg then none else some (zSet M a (.inl (.int, n, .inl (upd f i.toNatClampNeg x))))
  | _ => none
theorem z_wI {g : zG} {t : zM} {pc : Nat} {L r : List Value} {M M1 M2 : zMe} {rv : Option Value} {a : Nat} {i : Int32} {x : Int32} (h : zwI M a i x = some M1) (hd : decode t.2.1 pc = .ok (.iastore, 1)) (kk : zW g t (pc + 1) L r M1 rv M2) : zW g t pc L (.int x :: .int i :: .ref a :: r) M rv M2 := by
  unfold zwI at h
  split at h
  next n f e =>
    by_cases hc : i < 0 ∨ n ≤ i.toNatClampNeg
    · rw [if_pos hc] at h; cases h
    · rw [if_neg hc] at h; cases h; exact z_iast e hc hd kk
  next => cases h
def zrB (M : zMe) (a : Nat) (i : Int32) : Option Int32 := match M.1 a with
  | some (.inl (.byte, n, .inl f)) => if i < 0 ∨ n ≤ i.toNatClampNeg then none else some (f i.toNatClampNeg)
  | _ => none
theorem zrB_some {M : zMe} {a : Nat} {i : Int32} {x : Int32} (h : zrB M a i = some x) : ∃ n f, M.1 a = some (.inl (.byte, n, .inl f)) ∧ vp_in i n ∧ x = f i.toNatClampNeg := by
  unfold zrB at h
  split at h
  next n f e =>
    by_cases hc : i < 0 ∨ n ≤ i.toNatClampNeg
    · rw [if_pos hc] at h; cases h
    · rw [if_neg hc] at h; cases h; exact ⟨n, f, e, hc, rfl⟩
  next => cases h
theorem z_rB {g : zG} {t : zM} {pc : Nat} {L r : List Value} {M M2 : zMe} {rv : Option Value} {a : Nat} {i : Int32} {x : Int32} (h : zrB M a i = some x) (hd : decode t.2.1 pc = .ok (.baload, 1)) (kk : zW g t (pc + 1) L (.int x :: r) M rv M2) : zW g t pc L (.int i :: .ref a :: r) M rv M2 := by
  obtain ⟨n, f, h1, h2, h3⟩ := zrB_some h
  subst h3
  exact z_bald h1 h2 hd kk
def zwB (M : zMe) (a : Nat) (i : Int32) (x : Int32) : Option zMe := match M.1 a with
  | some (.inl (.byte, n, .inl f)) => if i < 0 ∨ n ≤ i.toNatClampNeg then none else some (zSet M a (.inl (.byte, n, .inl (upd f i.toNatClampNeg (vp_nar .byte x)))))
  | _ => none
theorem z_wB {g : zG} {t : zM} {pc : Nat} {L r : List Value} {M M1 M2 : zMe} {rv : Option Value} {a : Nat} {i : Int32} {x : Int32} (h : zwB M a i x = some M1) (hd : decode t.2.1 pc = .ok (.bastore, 1)) (kk : zW g t (pc + 1) L r M1 rv M2) : zW g t pc L (.int x :: .int i :: .ref a :: r) M rv M2 := by
  unfold zwB at h
  split at h
  next n f e =>
    by_cases hc : i < 0 ∨ n ≤ i.toNatClampNeg
    · rw [if_pos hc] at h; cases h
    · rw [if_neg hc] at h; cases h; exact z_bast e hc hd kk
  next => cases h
def zrZ (M : zMe) (a : Nat) (i : Int32) : Option Int32 := match M.1 a with
  | some (.inl (.boolean, n, .inl f)) => if i < 0 ∨ n ≤ i.toNatClampNeg then none else some (f i.toNatClampNeg)
  | _ => none
theorem zrZ_some {M : zMe} {a : Nat} {i : Int32} {x : Int32} (h : zrZ M a i = some x) : ∃ n f, M.1 a = some (.inl (.boolean, n, .inl f)) ∧ vp_in i n ∧ x = f i.toNatClampNeg := by
  unfold zrZ at h
  split at h
  next n f e =>
    by_cases hc : i < 0 ∨ n ≤ i.toNatClampNeg
    · rw [if_pos hc] at h; cases h
    · rw [if_neg hc] at h; cases h; exact ⟨n, f, e, hc, rfl⟩
  next => cases h
theorem z_rZ {g : zG} {t : zM} {pc : Nat} {L r : List Value} {M M2 : zMe} {rv : Option Value} {a : Nat} {i : Int32} {x : Int32} (h : zrZ M a i = some x) (hd : decode t.2.1 pc = .ok (.baload, 1)) (kk : zW g t (pc + 1) L (.int x :: r) M rv M2) : zW g t pc L (.int i :: .ref a :: r) M rv M2 := by
  obtain ⟨n, f, h1, h2, h3⟩ := zrZ_some h
  subst h3
  exact z_zald h1 h2 hd kk
def zwZ (M : zMe) (a : Nat) (i : Int32) (x : Int32) : Option zMe := match M.1 a with
  | some (.inl (.boolean, n, .inl f)) => if i < 0 ∨ n ≤ i.toNatClampNeg then none else some (zSet M a (.inl (.boolean, n, .inl (upd f i.toNatClampNeg (vp_nar .boolean x)))))
  | _ => none
theorem z_wZ {g : zG} {t : zM} {pc : Nat} {L r : List Value} {M M1 M2 : zMe} {rv : Option Value} {a : Nat} {i : Int32} {x : Int32} (h : zwZ M a i x = some M1) (hd : decode t.2.1 pc = .ok (.bastore, 1)) (kk : zW g t (pc + 1) L r M1 rv M2) : zW g t pc L (.int x :: .int i :: .ref a :: r) M rv M2 := by
  unfold zwZ at h
  split at h
  next n f e =>
    by_cases hc : i < 0 ∨ n ≤ i.toNatClampNeg
    · rw [if_pos hc] at h; cases h
    · rw [if_neg hc] at h; cases h; exact z_zast e hc hd kk
  next => cases h
def zrL (M : zMe) (a : Nat) (i : Int32) : Option Int64 := match M.1 a with
  | some (.inl (.long, n, .inr (.inl f))) => if i < 0 ∨ n ≤ i.toNatClampNeg then none else some (f i.toNatClampNeg)
  | _ => none
theorem zrL_some {M : zMe} {a : Nat} {i : Int32} {x : Int64} (h : zrL M a i = some x) : ∃ n f, M.1 a = some (.inl (.long, n, .inr (.inl f))) ∧ vp_in i n ∧ x = f i.toNatClampNeg := by
  unfold zrL at h
  split at h
  next n f e =>
    by_cases hc : i < 0 ∨ n ≤ i.toNatClampNeg
    · rw [if_pos hc] at h; cases h
    · rw [if_neg hc] at h; cases h; exact ⟨n, f, e, hc, rfl⟩
  next => cases h
theorem z_rL {g : zG} {t : zM} {pc : Nat} {L r : List Value} {M M2 : zMe} {rv : Option Value} {a : Nat} {i : Int32} {x : Int64} (h : zrL M a i = some x) (hd : decode t.2.1 pc = .ok (.laload, 1)) (kk : zW g t (pc + 1) L (.long x :: r) M rv M2) : zW g t pc L (.int i :: .ref a :: r) M rv M2 := by
  obtain ⟨n, f, h1, h2, h3⟩ := zrL_some h
  subst h3
  exact z_lald h1 h2 hd kk
def zwL (M : zMe) (a : Nat) (i : Int32) (x : Int64) : Option zMe := match M.1 a with
  | some (.inl (.long, n, .inr (.inl f))) => if i < 0 ∨ n ≤ i.toNatClampNeg then none else some (zSet M a (.inl (.long, n, .inr (.inl (vp_updL f i.toNatClampNeg x)))))
  | _ => none
theorem z_wL {g : zG} {t : zM} {pc : Nat} {L r : List Value} {M M1 M2 : zMe} {rv : Option Value} {a : Nat} {i : Int32} {x : Int64} (h : zwL M a i x = some M1) (hd : decode t.2.1 pc = .ok (.lastore, 1)) (kk : zW g t (pc + 1) L r M1 rv M2) : zW g t pc L (.long x :: .int i :: .ref a :: r) M rv M2 := by
  unfold zwL at h
  split at h
  next n f e =>
    by_cases hc : i < 0 ∨ n ≤ i.toNatClampNeg
    · rw [if_pos hc] at h; cases h
    · rw [if_neg hc] at h; cases h; exact z_last e hc hd kk
  next => cases h
def zrR (M : zMe) (a : Nat) (i : Int32) : Option (Option Nat) := match M.1 a with
  | some (.inl (.object _, n, .inr (.inr (.inr (.inr f))))) => if i < 0 ∨ n ≤ i.toNatClampNeg then none else some (f i.toNatClampNeg)
  | _ => none
theorem z_rR {g : zG} {t : zM} {pc : Nat} {L r : List Value} {M M2 : zMe} {rv : Option Value} {a : Nat} {i : Int32} {x : Option Nat} (h : zrR M a i = some x) (hd : decode t.2.1 pc = .ok (.aaload, 1)) (kk : zW g t (pc + 1) L (va_rf x :: r) M rv M2) : zW g t pc L (.int i :: .ref a :: r) M rv M2 := by
  unfold zrR at h
  split at h
  next C n f e =>
    by_cases hc : i < 0 ∨ n ≤ i.toNatClampNeg
    · rw [if_pos hc] at h; cases h
    · rw [if_neg hc] at h; cases h; exact z_aald e hc hd kk
  next => cases h
/-- a reference stored into an array of E: null, or an object of a class of cs -/
def zwR (M : zMe) (a : Nat) (i : Int32) (x : Option Nat) (E : String) (cs : List Nat) : Option zMe := match M.1 a with
  | some (.inl (.object E2, n, .inr (.inr (.inr (.inr f))))) => if i < 0 ∨ n ≤ i.toNatClampNeg then none else if E2 = E then (match x with
    | none => some (zSet M a (.inl (.object E, n, .inr (.inr (.inr (.inr (va_up f i.toNatClampNeg none)))))))
    | some v => match M.1 v with
      | some (.inr (ci, _)) => if ci ∈ cs then some (zSet M a (.inl (.object E, n, .inr (.inr (.inr (.inr (va_up f i.toNatClampNeg (some v)))))))) else none
      | _ => none) else none
  | _ => none
def zCa (E : String) (cs : List Nat) : Prop := ∀ ci ∈ cs, ∃ C T N ty, zCl ci C T N ty ∧ (C = E ∨ Cond.castable C E ∈ lw_tbl)
theorem z_aastN {g : zG} {t : zM} {pc : Nat} {L r : List Value} {M M2 : zMe} {rv : Option Value} {a n : Nat} {E : String} {f : Nat → Option Nat} {i : Int32} (hM : M.1 a = some (.inl (.object E, n, .inr (.inr (.inr (.inr f)))))) (hin : vp_in i n) (hd : decode t.2.1 pc = .ok (.aastore, 1))
    (kk : zW g t (pc + 1) L r (zSet M a (.inl (.object E, n, .inr (.inr (.inr (.inr (va_up f i.toNatClampNeg none))))))) rv M2) : zW g t pc L (.null :: .int i :: .ref a :: r) M rv M2 := by
  refine ⟨kk.1, kk.2.1, fun p e R s m args below meth c H ls locs cells slots Q hF hR hL hl hcc hss hQ => ?_⟩
  obtain ⟨hba, cA, h1, h2, h3⟩ := hR.2.2.2 a _ hM
  have hlt : i.toNatClampNeg < n := Nat.not_le.mp fun q => hin (Or.inr q)
  have h0 : ¬ i < 0 := fun q => hin (Or.inl q)
  have hal := hF.2.2.2.2.2.1.alike
  obtain ⟨kA, comp, k1, k2, k3, -⟩ := h3.moved hal
  refine va_WaastN hF.1 hF.2.1 h1 (hF.arr h2 n (fun j => va_rf (f j))) (fun h => by cases h) (by show ¬ (i < 0 ∨ (arrV _ _ _).slots.size ≤ _); rw [arrV_size]; exact hin) rfl rfl hd fun H1 e1 z oq => ?_
  refine kk.2.2 p e R s m args below meth c H1 ls _ cells slots Q hF (hR.set hM z oq ⟨cA, ?_, h2, h3⟩) hL ?_ hcc hss hQ
  · rw [e1, vp_cell_q, vp_cell_q, arrV_store]
    congr 2
    funext q
    by_cases hq : q = i.toNatClampNeg
    · subst hq
      simp [updV, va_up, va_rf]
    · simp [updV, va_up, hq]
  · intro q hq
    rcases List.mem_append.mp hq with h | h
    · exact hl q h
    · rw [List.mem_singleton.mp h]; exact hba
theorem z_wR {g : zG} {t : zM} {pc : Nat} {L r : List Value} {M M1 M2 : zMe} {rv : Option Value} {a : Nat} {i : Int32} {x : Option Nat} {E : String} {cs : List Nat} (hC : zC g) (hcs : zCa E cs) (h : zwR M a i x E cs = some M1) (hd : decode t.2.1 pc = .ok (.aastore, 1)) (kk : zW g t (pc + 1) L r M1 rv M2) : zW g t pc L (va_rf x :: .int i :: .ref a :: r) M rv M2 := by
  unfold zwR at h
  split at h
  next E2 n f e =>
    by_cases hc : i < 0 ∨ n ≤ i.toNatClampNeg
    · rw [if_pos hc] at h; cases h
    · rw [if_neg hc] at h
      obtain ⟨hE, h⟩ := zifs h
      subst hE
      cases x with
      | none => cases h; exact z_aastN e hc hd kk
      | some v =>
        simp only at h
        split at h
        next ci fs e2 =>
          obtain ⟨h1, h⟩ := zifs h
          cases h
          obtain ⟨C, T, N, ty, f1, f2⟩ := hcs ci h1
          exact z_aast hC f1 f2 e e2 hc hd kk
        next => cases h
  next => cases h
def zln (M : zMe) (a : Nat) : Option Int32 := match M.1 a with
  | some (.inl (_, A)) => some (Int32.ofNat A.1)
  | _ => none
theorem z_ln {g : zG} {t : zM} {pc : Nat} {L r : List Value} {M M2 : zMe} {rv : Option Value} {a : Nat} {x : Int32} (h : zln M a = some x) (hd : decode t.2.1 pc = .ok (.arraylength, 1)) (kk : zW g t (pc + 1) L (.int x :: r) M rv M2) : zW g t pc L (.ref a :: r) M rv M2 := by
  unfold zln at h
  split at h
  next ty A e => cases h; exact z_alen e hd kk
  next => cases h
def znI (M : zMe) (ty : FieldType) (x : Int32) : Option zMe := if x < 0 ∨ 16777216 < x.toNatClampNeg then none else some (zAdd M (.inl (ty, x.toNatClampNeg, .inl (fun _ => 0))) x.toNatClampNeg)
def znL (M : zMe) (x : Int32) : Option zMe := if x < 0 ∨ 16777216 < x.toNatClampNeg then none else some (zAdd M (.inl (.long, x.toNatClampNeg, .inr (.inl (fun _ => 0)))) x.toNatClampNeg)
def znR (M : zMe) (E : String) (x : Int32) : Option zMe := if x < 0 ∨ 16777216 < x.toNatClampNeg then none else some (zAdd M (.inl (.object E, x.toNatClampNeg, .inr (.inr (.inr (.inr (fun _ => none)))))) x.toNatClampNeg)
theorem zsz {x : Int32} {α : Type} {A : Option α} {q : α} (h : (if x < 0 ∨ 16777216 < x.toNatClampNeg then none else A) = some q) : ¬ x < 0 ∧ x.toNatClampNeg ≤ 16777216 ∧ A = some q := by
  by_cases hc : x < 0 ∨ 16777216 < x.toNatClampNeg
  · rw [if_pos hc] at h; cases h
  · rw [if_neg hc] at h; exact ⟨fun a => hc (Or.inl a), by have : ¬ 16777216 < x.toNatClampNeg := fun a => hc (Or.inr a); omega, h⟩
section ZN
variable {g : zG} {t : zM} {pc n : Nat} {L r : List Value} {M M1 M2 : zMe} {rv : Option Value} {x : Int32}
theorem z_nI (hC : zC g) {at0 : ArrayType} {ty : FieldType} (hty : newarray.typeOf at0 = ty) (hdv : defaultValue ty = .int 0) (hb : componentBytes ty ≤ 8) (hw : Cond.arrayClass ty ∈ lw_tbl) (h : znI M ty x = some M1) (hd : decode t.2.1 pc = .ok (.newarray at0, 2)) (kk : zW g t (pc + 2) L (.ref M.2.1 :: r) M1 rv M2) : zW g t pc L (.int x :: r) M rv M2 := by
  obtain ⟨h1, h2, h3⟩ := zsz h
  cases h3
  exact z_newa hC hty hw (a0 := (x.toNatClampNeg, .inl (fun _ => 0))) (fun cA => by rw [hdv]; rfl) h1 rfl (by show x.toNatClampNeg * componentBytes ty ≤ 536870912; have := Nat.mul_le_mul h2 hb; omega) hd kk
theorem z_nL (hC : zC g) (hw : Cond.arrayClass .long ∈ lw_tbl) (h : znL M x = some M1) (hd : decode t.2.1 pc = .ok (.newarray .long, 2)) (kk : zW g t (pc + 2) L (.ref M.2.1 :: r) M1 rv M2) : zW g t pc L (.int x :: r) M rv M2 := by
  obtain ⟨h1, h2, h3⟩ := zsz h
  cases h3
  exact z_newa hC (ty := .long) rfl hw (a0 := (x.toNatClampNeg, .inr (.inl (fun _ => 0)))) (fun cA => rfl) h1 rfl (by show x.toNatClampNeg * 8 ≤ 536870912; omega) hd kk
theorem z_nR (hC : zC g) {E : String} (hw : Cond.classLink t.1 n E ∈ lw_tbl) (hw1 : Cond.arrayOver (.object E) ∈ lw_tbl) (h : znR M E x = some M1) (hd : decode t.2.1 pc = .ok (.anewarray n, 3)) (kk : zW g t (pc + 3) L (.ref M.2.1 :: r) M1 rv M2) : zW g t pc L (.int x :: r) M rv M2 := by
  obtain ⟨h1, h2, h3⟩ := zsz h
  cases h3
  exact z_newq hC hw hw1 h1 rfl (by omega) hd kk
theorem z_nO (hC : zC g) {ci : Nat} {C : String} {T : u_T} {N : Nat} {ty : Nat → FieldType} (hc : zCl ci C T N ty) {fs : List Value} (hw : Cond.classLink t.1 n C ∈ lw_tbl) (hw1 : Cond.instantiable C N ∈ lw_tbl) (hw2 : Cond.initialized C ∈ lw_tbl) (hlen : N = fs.length) (hfs : ∀ j, j < N → defaultValue (ty j) = vp_V fs j) (h : M1 = zAdd M (.inr (ci, fs)) N) (hd : decode t.2.1 pc = .ok (.new n, 3))
    (kk : zW g t (pc + 3) L (.ref M.2.1 :: r) M1 rv M2) : zW g t pc L r M rv M2 := by
  subst h
  exact z_new hC hc hw hw1 hw2 hlen hfs hd kk
/-- System.arraycopy of longs -/
def zcp (M : zMe) (a0 : Nat) (sp : Int32) (a : Nat) (dp : Int32) (x : Int32) : Option zMe := match M.1 a0, M.1 a with
  | some (.inl (.long, n0, .inr (.inl f))), some (.inl (.long, n1, .inr (.inl h))) => if sp < 0 ∨ dp < 0 ∨ x < 0 ∨ n0 < sp.toNatClampNeg + x.toNatClampNeg ∨ n1 < dp.toNatClampNeg + x.toNatClampNeg then none else some (zSet M a (.inl (.long, n1, .inr (.inl (va_cpy f h sp.toNatClampNeg dp.toNatClampNeg x.toNatClampNeg)))))
  | _, _ => none
theorem z_cp (hC : zC g) {a0 a : Nat} {sp dp : Int32} (hw : Cond.methodLink t.1 n arraycopyName ∈ lw_tbl) (hw1 : Cond.native arraycopyName ∈ lw_tbl) (hw2 : Cond.static arraycopyName ∈ lw_tbl) (hw3 : Cond.initialized "java/lang/System" ∈ lw_tbl) (hfr : 1 ≤ t.2.2.2.2.2.1) (hlo : (r.map fun v => v.category).sum + (nativeFrameWords "java/lang/System" "arraycopy" 5 + 11) ≤ t.2.2.2.2.2.2) (h : zcp M a0 sp a dp x = some M1) (hd : decode t.2.1 pc = .ok (.invokestatic n, 3)) (kk : zW g t (pc + 3) L r M1 rv M2) : zW g t pc L (.int x :: .int dp :: .ref a :: .int sp :: .ref a0 :: r) M rv M2 := by
  unfold zcp at h
  split at h
  next n0 f n1 h1 e0 e1 =>
    by_cases hc : sp < 0 ∨ dp < 0 ∨ x < 0 ∨ n0 < sp.toNatClampNeg + x.toNatClampNeg ∨ n1 < dp.toNatClampNeg + x.toNatClampNeg
    · rw [if_pos hc] at h; cases h
    · rw [if_neg hc] at h
      cases h
      refine ⟨kk.1, kk.2.1, fun p e R s m args below meth c H ls locs cells slots Q hF hR hL hl hcc hss hQ => ?_⟩
      obtain ⟨-, c0, q1, q2, q3⟩ := hR.2.2.2 a0 _ e0
      obtain ⟨hba, c1, r1, r2, r3⟩ := hR.2.2.2 a _ e1
      refine zcopyl hF.1 hF.2.1 (by rw [hF.2.2.1]; exact hL.1.symm) hF.2.2.2.1 (zw_at hC hF hw rfl args) (zw_at hC hF hw1 rfl args) (zw_at hC hF hw2 rfl args) (zw_at hC hF hw3 rfl args) q1 r1 (hF.arr q2) (hF.arr r2) (fun z => hc (Or.inl z)) (fun z => hc (Or.inr (Or.inl z))) (fun z => hc (Or.inr (Or.inr (Or.inl z)))) (by have : ¬ n0 < sp.toNatClampNeg + x.toNatClampNeg := fun z => hc (Or.inr (Or.inr (Or.inr (Or.inl z)))); omega) (by have : ¬ n1 < dp.toNatClampNeg + x.toNatClampNeg := fun z => hc (Or.inr (Or.inr (Or.inr (Or.inr z)))); omega) (Nat.le_trans hfr hF.2.2.2.2.2.2.1) (Nat.le_trans hlo hF.2.2.2.2.2.2.2) hd fun H1 L1 z1 z2 z3 z4 => ?_
      refine kk.2.2 p e R s m args below meth c H1 ls _ cells slots Q hF (hR.set e1 z2 z3 ⟨c1, z1, r2, r3⟩) hL ?_ hcc hss hQ
      intro q hq
      rcases List.mem_append.mp hq with h | h
      · exact hl q h
      · rw [z4 q h]; exact hba
  next => cases h
end ZN
