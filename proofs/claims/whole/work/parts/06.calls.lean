/-! calls: a method's contract over the one memory, and the rows that use it -/
def zRoom (t : zM) (M M2 : zMe) : Room := { frames := t.2.2.2.2.2.1, cells := M2.2.1 - M.2.1, slots := M2.2.2 - M.2.2, locals := t.2.2.2.2.2.2 }
def zPc (g : zG) (av : List Value) (M : zMe) : Array Value → State → Prop := fun v U => v = av.toArray ∧ zR g M U.heap ∧ g.2.1.WarmedH U.vm
def zQc (g : zG) (rv : Option Value) (M2 : zMe) : Array Value → State → Outcome → State → Prop := fun _ _ o T => o = .returned rv ∧ zR g M2 T.heap
def zMet (g : zG) (y : MethodName) (t : zM) (av : List Value) (M : zMe) (rv : Option Value) (M2 : zMe) : Prop := M.2.1 ≤ M2.2.1 ∧ M.2.2 ≤ M2.2.2 ∧ Met g.1 y [.code y t.2.1 t.2.2.1 t.2.2.2.1] (zRoom t M M2) (zPc g av M) (zQc g rv M2) (M2.2.1 - M.2.1) (M2.2.2 - M.2.2) (fun q => g.2.1.heap.size ≤ q)
theorem z_entry {g : zG} {y : MethodName} {t : zM} {av : List Value} {M : zMe} {rv : Option Value} {M2 : zMe} (hy : plainName y.cls = true) (hown : t.1 = y.cls) (hnm : t.2.2.2.2.1 = y.name) (hn : (zE av).length ≤ t.2.2.1) (h : zW g t 0 (zEn0 t.2.2.1 av) [] M rv M2) : zMet g y t av M rv M2 := by
  refine ⟨h.1, h.2.1, ?_⟩
  refine Met.ofW (cc := t.2.1) (maxL := t.2.2.1) (ret := t.2.2.2.1) hy rfl ?_
  intro p e s m args below meth c s₁ B hml hv
  obtain ⟨rfl, hR, hW⟩ := hv
  have hlocks := B.notSynchronized
  have hret := B.returns
  rw [lg_entry_eq]
  refine h.2.2 p e _ s m _ below meth c s.heap _ [] 0 0 _ ⟨B.exec, B.bytes, hml, by rw [hown]; exact findClass_of_methodNamed B.named, by rw [hnm]; exact (name_of_methodNamed B.named B.method).1, hW, Nat.le_refl _, Nat.le_refl _⟩ hR (zL.entry hn) (fun q h => by cases h) (by show 0 + (M2.2.1 - M.2.1) ≤ M2.2.1 - M.2.1; omega) (by show 0 + (M2.2.2 - M.2.2) ≤ M2.2.2 - M.2.2; omega) ?_
  intro pc1 ls1 H1 locs1 cells1 slots1 hR1 hl1 hc1 hs1 hz hr
  refine W.widen (k := M2.2.1 - M.2.1) (n := M2.2.2 - M.2.2) hc1 hs1 ?_
  cases rv with
  | none => exact W.vret B.exec B.bytes (by rw [hret]; exact hr) (fun T ht hW2 => ⟨rfl, by rw [ht]; exact hR1⟩) hl1 hz
  | some v =>
    cases v with
    | int x =>
      obtain ⟨a, ha, hna⟩ := hr
      exact W.zret B.exec B.bytes (by rw [hret]; exact ha) hna (fun T ht hW2 => ⟨rfl, by rw [ht]; exact hR1⟩) hl1 hz
    | long x => exact W.lret B.exec B.bytes (by rw [hret]; exact hr) (fun T ht hW2 => ⟨rfl, by rw [ht]; exact hR1⟩) hl1 hz
    | ref x =>
      obtain ⟨a, ha, hna⟩ := hr
      exact W.aret B.exec B.bytes (by rw [hret]; exact ha) hna (Or.inr ⟨x, rfl⟩) (fun T ht hW2 => ⟨rfl, by rw [ht]; exact hR1⟩) hl1 hz
    | null =>
      obtain ⟨a, ha, hna⟩ := hr
      exact W.aret B.exec B.bytes (by rw [hret]; exact ha) hna (Or.inl rfl) (fun T ht hW2 => ⟨rfl, by rw [ht]; exact hR1⟩) hl1 hz
    | float x => exact hr.elim
    | double x => exact hr.elim
    | retAddr x => exact hr.elim
section ZC
variable {g : zG} {t t2 : zM} {pc n : Nat} {L rest av : List Value} {M M1 M2 : zMe} {rv r1 : Option Value} {y x : MethodName}
theorem zblind (g : zG) (av : List Value) (M : zMe) : FrameBlind (zPc g av M) := fun a U f mk q => ⟨q.1, q.2.1, q.2.2⟩
/-- what a call asks of the tables beside its link: code, class ready, number of arguments -/
def zCd (y : MethodName) (t : zM) (n : Nat) : Prop := Cond.code y t.2.1 t.2.2.1 t.2.2.2.1 ∈ lw_tbl ∧ Cond.initialized y.cls ∈ lw_tbl ∧ (y.cls ≠ "java/lang/invoke/MethodHandle" ∧ y.cls ≠ "java/lang/invoke/VarHandle") ∧ (parseMethodDescriptor y.desc).map (fun d => d.parameters.length) = some n
/-- rooms: frames and locals of the callee in the caller's; what stays on the stack -/
def zFit (t t2 : zM) (rest : List Value) : Prop := t2.2.2.2.2.2.1 + 1 ≤ t.2.2.2.2.2.1 ∧ 8 + (t2.2.2.1 + 11) + t2.2.2.2.2.2.2 ≤ t.2.2.2.2.2.2 ∧ (rest.map fun v => v.category).sum ≤ 8
theorem zcallW {p : Program} {l : Launch} {e : Env} {R : Room} {s : State} {m : MethodId} {args : Array Value} {below : List Frame} {meth : Method} {c : Code} {H : Heap} {locs : List Loc} {cells slots mc ms : Nat} {Q : State → Prop} {g0 : JFrame} {Qa : State → Outcome → State → Prop} {free : Addr → Prop}
    (hr : CallRun p l e R s m args below meth c H locs cells slots mc ms g0 rest Qa free) (kk : ∀ (v : Option Value) (st0 T1 : State) (L1 : List Loc), (∀ q ∈ L1, free q.base) → Qa st0 (.returned v) T1 → W p l e R s m args below meth c T1.heap (locs ++ L1) (cells + mc) (slots + ms) Q { g0 with pc := g0.pc + 3, stack := v.toList ++ rest }) : W p l e R s m args below meth c H locs cells slots Q g0 := by
  intro T hT X
  obtain ⟨v, st0, T1, T2, L1, h0, X1, hL, e1, hq, st⟩ := hr T hT X
  obtain ⟨t2, a1, b1⟩ := kk v st0 T1 L1 hL hq T2 e1 X1
  exact ⟨t2, st t2 a1, b1⟩
theorem zB_of {p : Program} {R : Room} {s : State} {m : MethodId} {meth : Method} {c : Code} (hC : zC g) (hF : zF g t p R s m meth c) (args : Array Value) {k : Nat} (hcd : zCd y t2 k) (hfit : zFit t t2 rest) (hl : Cond.methodLink t.1 n y ∈ lw_tbl) : CallB R s args t.1 n y t2.2.1 t2.2.2.1 t2.2.2.2.1 [.code y t2.2.1 t2.2.2.1 t2.2.2.2.1] (zRoom t2 M M1) (M1.2.1 - M.2.1) (M1.2.2 - M.2.2) k := by
  obtain ⟨h1, h2, h3, h4⟩ := hcd
  refine ⟨rfl, rfl, Nat.le_trans hfit.1 hF.2.2.2.2.2.2.1, Nat.le_trans hfit.2.1 hF.2.2.2.2.2.2.2, fun w hw a' U hW => ?_, List.mem_singleton.mpr rfl, zw_at hC hF h1 rfl args, zw_at hC hF h2 rfl args, h3, fun sig h => ?_, zw_at hC hF hl rfl args⟩
  · rw [List.mem_singleton.mp hw]
    exact word_at hW (Or.inl rfl) (zw_at hC hF h1 rfl args)
  · rw [h] at h4
    exact (Option.some.inj h4).symm
theorem zN_of {p : Program} {R : Room} {s : State} {m : MethodId} {meth : Method} {c : Code} (hC : zC g) (hF : zF g t p R s m meth c) (args : Array Value) {k : Nat} {host : String} (hcd : zCd y t2 k) (hfit : zFit t t2 rest) (hl : Cond.methodLinkNest t.1 n y host ∈ lw_tbl) : va_CN R s args t.1 n y host t2.2.1 t2.2.2.1 t2.2.2.2.1 [.code y t2.2.1 t2.2.2.1 t2.2.2.2.1] (zRoom t2 M M1) (M1.2.1 - M.2.1) (M1.2.2 - M.2.2) k := by
  obtain ⟨h1, h2, h3, h4⟩ := hcd
  refine ⟨⟨rfl, rfl, Nat.le_trans hfit.1 hF.2.2.2.2.2.2.1, Nat.le_trans hfit.2.1 hF.2.2.2.2.2.2.2, fun w hw a' U hW => ?_, List.mem_singleton.mpr rfl⟩, zw_at hC hF h1 rfl args, zw_at hC hF h2 rfl args, h3, fun sig h => ?_, va_Nw.use rfl (va_Nw.warmM hF.2.2.2.2.2.1 (va_Nw.of rfl (hC.1 _ hl)))⟩
  · rw [List.mem_singleton.mp hw]
    exact word_at hW (Or.inl rfl) (zw_at hC hF h1 rfl args)
  · rw [h] at h4
    exact (Option.some.inj h4).symm
theorem zS_of {p : Program} {R : Room} {s : State} {m : MethodId} {meth : Method} {c : Code} {H : Heap} (hF : zF g t p R s m meth c) (hR : zR g M H) : PreS s H (zPc g av M) av := ⟨zblind g av M, fun U hU hW => ⟨rfl, by rw [hU]; exact hR, State.WarmedH.trans hF.2.2.2.2.2.1 hW⟩⟩
theorem zV_of {p : Program} {R : Room} {s : State} {m : MethodId} {meth : Method} {c : Code} {H : Heap} (hC : zC g) (hF : zF g t p R s m meth c) (hR : zR g M H) {b ci N : Nat} {C : String} {T : u_T} {ty : Nat → FieldType} {fs : List Value} (hc : zCl ci C T N ty) (hM : M.1 b = some (.inr (ci, fs))) : PreV s H C b (zPc g (.ref b :: av) M) av := by
  refine ⟨zblind g _ M, ?_, fun U hU hW => ⟨rfl, by rw [hU]; exact hR, State.WarmedH.trans hF.2.2.2.2.2.1 hW⟩⟩
  obtain ⟨-, q0, g0, g00, cellV, g1, g2, g3, -⟩ := hR.2.2.2 b _ hM
  exact ⟨cellV, g1, by rw [g3]; rfl, by rw [g2]; exact ((hF.K hC).1 ci _ hc.1).2.1⟩
/-- behind any call -/
theorem zback {stk : List Value} (hM : zMet g y t2 av M r1 M1) (kk : zW g t (pc + 3) L (r1.toList ++ rest) M1 rv M2)
    (hrun : ∀ (p : Program) (e : Env) (R : Room) (s : State) (m : MethodId) (args : Array Value) (below : List Frame) (meth : Method) (c : Code) (H : Heap) (ls : Array Slot) (locs : List Loc) (cells slots : Nat), zF g t p R s m meth c → zR g M H → zL t.2.2.1 L ls → cells + (M1.2.1 - M.2.1) ≤ R.cells → slots + (M1.2.2 - M.2.2) ≤ R.slots → CallRun p g.1 e R s m args below meth c H locs cells slots (M1.2.1 - M.2.1) (M1.2.2 - M.2.2) (F0 m pc ls stk) rest (zQc g r1 M1 av.toArray) (fun q => g.2.1.heap.size ≤ q)) : zW g t pc L stk M rv M2 := by
  have h1 := hM.1
  have h2 := hM.2.1
  have h3 := kk.1
  have h4 := kk.2.1
  refine ⟨Nat.le_trans h1 h3, Nat.le_trans h2 h4, fun p e R s m args below meth c H ls locs cells slots Q hF hR hL hl hcc hss hQ => ?_⟩
  refine zcallW (hrun p e R s m args below meth c H ls locs cells slots hF hR hL (by omega) (by omega)) (fun v st0 T1 L1 hL1 hq => ?_)
  obtain ⟨hv, hR1⟩ := hq
  cases hv
  refine kk.2.2 p e R s m args below meth c T1.heap ls (locs ++ L1) _ _ Q hF hR1 hL (fun q hq => ?_) (by omega) (by omega) hQ
  rcases List.mem_append.mp hq with h | h
  · exact hl q h
  · exact hL1 q h
theorem z_callS (hC : zC g) (hM : zMet g y t2 av M r1 M1) (hl : Cond.methodLink t.1 n y ∈ lw_tbl) (hs : Cond.static y ∈ lw_tbl) (hcd : zCd y t2 av.length) (hfit : zFit t t2 rest) (hd : decode t.2.1 pc = .ok (.invokestatic n, 3)) (kk : zW g t (pc + 3) L (r1.toList ++ rest) M1 rv M2) : zW g t pc L (av.reverse ++ rest) M rv M2 :=
  zback hM kk (fun p e R s m args below meth c H ls locs cells slots hF hR hL hc1 hc2 => W.runS (Ts := []) ⟨hF.1, hF.2.1, hF.2.2.1, hF.2.2.2.1, fun _ h => by cases h⟩ hM.2.2 ⟨zB_of (rest := rest) hC hF args hcd hfit hl, zw_at hC hF hs rfl args⟩ (zS_of hF hR) rfl rfl hL.1 rfl (lv_room hfit.2.2) hd ⟨hc1, hc2⟩)
theorem z_callSN (hC : zC g) {host : String} (hM : zMet g y t2 av M r1 M1) (hl : Cond.methodLinkNest t.1 n y host ∈ lw_tbl) (hs : Cond.static y ∈ lw_tbl) (hcd : zCd y t2 av.length) (hfit : zFit t t2 rest) (hd : decode t.2.1 pc = .ok (.invokestatic n, 3)) (kk : zW g t (pc + 3) L (r1.toList ++ rest) M1 rv M2) : zW g t pc L (av.reverse ++ rest) M rv M2 :=
  zback hM kk (fun p e R s m args below meth c H ls locs cells slots hF hR hL hc1 hc2 => (va_runSN (Ts := []) ⟨hF.1, hF.2.1, hF.2.2.1, hF.2.2.2.1, fun _ h => by cases h⟩ hM.2.2 ⟨zN_of (rest := rest) hC hF args hcd hfit hl, zw_at hC hF hs rfl args, trivial⟩ (zS_of hF hR) rfl rfl hL.1 rfl (lv_room hfit.2.2) hd ⟨hc1, hc2⟩).run)
theorem z_callI (hC : zC g) {b : Nat} (hM : zMet g y t2 (.ref b :: av) M r1 M1) (hl : Cond.methodLink t.1 n y ∈ lw_tbl) (hi : Cond.instanceMethod y ∈ lw_tbl) (hy : y.name = "<init>") (hret : t2.2.2.2.1 = none) (hcd : zCd y t2 av.length) (hfit : zFit t t2 rest) (hd : decode t.2.1 pc = .ok (.invokespecial n, 3)) (kk : zW g t (pc + 3) L (r1.toList ++ rest) M1 rv M2) : zW g t pc L (av.reverse ++ .ref b :: rest) M rv M2 :=
  zback hM kk (fun p e R s m args below meth c H ls locs cells slots hF hR hL hc1 hc2 => by
    have hMM := hM.2.2
    have hB := zB_of (M := M) (M1 := M1) (rest := rest) hC hF args hcd hfit hl
    rw [hret] at hMM hB
    exact W.runI (Ts := []) ⟨hF.1, hF.2.1, hF.2.2.1, hF.2.2.2.1, fun _ h => by cases h⟩ hMM ⟨hB, hy, zw_at hC hF hi rfl args⟩ (zS_of hF hR) rfl rfl hL.1 rfl (lv_room hfit.2.2) hd ⟨hc1, hc2⟩)
theorem z_callIN (hC : zC g) {b : Nat} {host : String} (hM : zMet g y t2 (.ref b :: av) M r1 M1) (hl : Cond.methodLinkNest t.1 n y host ∈ lw_tbl) (hi : Cond.instanceMethod y ∈ lw_tbl) (hy : y.name = "<init>") (hret : t2.2.2.2.1 = none) (hcd : zCd y t2 av.length) (hfit : zFit t t2 rest) (hd : decode t.2.1 pc = .ok (.invokespecial n, 3)) (kk : zW g t (pc + 3) L (r1.toList ++ rest) M1 rv M2) : zW g t pc L (av.reverse ++ .ref b :: rest) M rv M2 :=
  zback hM kk (fun p e R s m args below meth c H ls locs cells slots hF hR hL hc1 hc2 => by
    have hMM := hM.2.2
    have hB := zN_of (M := M) (M1 := M1) (rest := rest) hC hF args hcd hfit hl
    rw [hret] at hMM hB
    exact (va_runIN (Ts := []) ⟨hF.1, hF.2.1, hF.2.2.1, hF.2.2.2.1, fun _ h => by cases h⟩ hMM ⟨hB, hy, zw_at hC hF hi rfl args⟩ (zS_of hF hR) rfl rfl hL.1 rfl (lv_room hfit.2.2) hd ⟨hc1, hc2⟩).run)
theorem z_callV (hC : zC g) {b ci N : Nat} {C : String} {T : u_T} {ty : Nat → FieldType} {fs : List Value} (hc : zCl ci C T N ty) (hb : M.1 b = some (.inr (ci, fs))) (hM : zMet g y t2 (.ref b :: av) M r1 M1) (hl : Cond.methodLink t.1 n y ∈ lw_tbl) (hi : Cond.instanceMethod y ∈ lw_tbl) (hsel : Cond.selects C y y ∈ lw_tbl) (hcd : zCd y t2 av.length) (hfit : zFit t t2 rest) (hd : decode t.2.1 pc = .ok (.invokevirtual n, 3)) (kk : zW g t (pc + 3) L (r1.toList ++ rest) M1 rv M2) : zW g t pc L (av.reverse ++ .ref b :: rest) M rv M2 :=
  zback hM kk (fun p e R s m args below meth c H ls locs cells slots hF hR hL hc1 hc2 => W.runV (Ts := []) ⟨hF.1, hF.2.1, hF.2.2.1, hF.2.2.2.1, fun _ h => by cases h⟩ hM.2.2 ⟨zB_of (rest := rest) hC hF args hcd hfit hl, zw_at hC hF hi rfl args, zw_at hC hF hsel rfl args⟩ (zV_of hC hF hR hc hb) rfl rfl hL.1 rfl (lv_room hfit.2.2) hd ⟨hc1, hc2⟩)
theorem z_callVN (hC : zC g) {b ci N : Nat} {C host : String} {T : u_T} {ty : Nat → FieldType} {fs : List Value} (hc : zCl ci C T N ty) (hb : M.1 b = some (.inr (ci, fs))) (hM : zMet g y t2 (.ref b :: av) M r1 M1) (hl : Cond.methodLinkNest t.1 n y host ∈ lw_tbl) (hi : Cond.instanceMethod y ∈ lw_tbl) (hsel : Cond.selects C y y ∈ lw_tbl) (hcd : zCd y t2 av.length) (hfit : zFit t t2 rest) (hd : decode t.2.1 pc = .ok (.invokevirtual n, 3)) (kk : zW g t (pc + 3) L (r1.toList ++ rest) M1 rv M2) : zW g t pc L (av.reverse ++ .ref b :: rest) M rv M2 :=
  zback hM kk (fun p e R s m args below meth c H ls locs cells slots hF hR hL hc1 hc2 => (va_runVN (Ts := []) ⟨hF.1, hF.2.1, hF.2.2.1, hF.2.2.2.1, fun _ h => by cases h⟩ hM.2.2 ⟨zN_of (rest := rest) hC hF args hcd hfit hl, zw_at hC hF hi rfl args, zw_at hC hF hsel rfl args⟩ (zV_of hC hF hR hc hb) rfl rfl hL.1 rfl (lv_room hfit.2.2) hd ⟨hc1, hc2⟩).run)
/-- the method that the reference names (x, declared in owner) and the one that the receiver's class selects (y) -/
def zUp (own : String) (n : Nat) (C owner : String) (x y : MethodName) : Prop := Cond.methodLink own n x ∈ lw_tbl ∧ Cond.sameMethod x.cls owner x.name x.desc ∈ lw_tbl ∧ (Cond.declares ⟨owner, x.name, x.desc⟩ ∈ lw_tbl ∨ (Cond.instanceMethod ⟨owner, x.name, x.desc⟩ ∈ lw_tbl ∧ ∃ b0 m0 r0, Cond.code ⟨owner, x.name, x.desc⟩ b0 m0 r0 ∈ lw_tbl)) ∧ Cond.selects C x y ∈ lw_tbl ∧ Cond.instanceMethod y ∈ lw_tbl ∧ (owner ≠ "java/lang/invoke/MethodHandle" ∧ owner ≠ "java/lang/invoke/VarHandle") ∧ x.desc = y.desc
theorem z_callU (hC : zC g) {b ci N : Nat} {C owner : String} {T : u_T} {ty : Nat → FieldType} {fs : List Value} (hc : zCl ci C T N ty) (hb : M.1 b = some (.inr (ci, fs))) (hM : zMet g y t2 (.ref b :: av) M r1 M1) (hu : zUp t.1 n C owner x y) (hcd : zCd y t2 av.length) (hfit : zFit t t2 rest) (hd : decode t.2.1 pc = .ok (.invokevirtual n, 3)) (kk : zW g t (pc + 3) L (r1.toList ++ rest) M1 rv M2) : zW g t pc L (av.reverse ++ .ref b :: rest) M rv M2 :=
  zback hM kk (fun p e R s m args below meth c H ls locs cells slots hF hR hL hc1 hc2 => by
    obtain ⟨u1, u2, u3, u4, u5, u6, u7⟩ := hu
    obtain ⟨h1, h2, h3, h4⟩ := hcd
    have hdec : va_Decl s ⟨owner, x.name, x.desc⟩ := by
      rcases u3 with h | ⟨h, b0, m0, r0, h'⟩
      · exact va_Decl.abs (va_Nw.warmD hF.2.2.2.2.2.1 (va_Nw.of rfl (hC.1 _ h)))
      · exact va_Decl.of (zw_at hC hF h rfl args) (zw_at hC hF h' rfl args)
    refine (va_runU (Ts := []) (C := C) (owner := owner) (x := x) (n := av.length) (bytes := t2.2.1) (maxL := t2.2.2.1) (ret := t2.2.2.2.1) ⟨hF.1, hF.2.1, hF.2.2.1, hF.2.2.2.1, fun _ h => by cases h⟩ hM.2.2 ⟨⟨rfl, rfl, Nat.le_trans hfit.1 hF.2.2.2.2.2.2.1, Nat.le_trans hfit.2.1 hF.2.2.2.2.2.2.2, fun w hw a' U hW => ?_, List.mem_singleton.mpr rfl⟩, zw_at hC hF h1 rfl args, zw_at hC hF h2 rfl args, u6, fun sig h => ?_, zw_at hC hF u1 rfl args, zw_at hC hF u2 rfl args, hdec, zw_at hC hF u4 rfl args, zw_at hC hF u5 rfl args⟩ (zV_of hC hF hR hc hb) rfl rfl hL.1 rfl (lv_room hfit.2.2) hd ⟨hc1, hc2⟩).run
    · rw [List.mem_singleton.mp hw]
      exact word_at hW (Or.inl rfl) (zw_at hC hF h1 rfl args)
    · rw [u7] at h
      rw [h] at h4
      exact (Option.some.inj h4).symm)
end ZC
