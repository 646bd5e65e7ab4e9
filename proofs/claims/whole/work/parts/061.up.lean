/-! a static call whose reference names a class below the one in which the method stands -/
section ZSU
variable {p : Program} {l : Launch} {e : Env} {R : Room} {s : State} {m : MethodId} {args : Array Value} {below : List Frame} {meth : Method} {c : Code} {T : State} {locs : List Loc} {cells slots : Nat}
theorem zu_go (X : Stand p l e R s m args below meth c T locs cells slots) (hx : p.tables.exec = Jvm.exec) {own sub : String} {index : Nat} {y : MethodName} (ho : s.vm.findClass own = some m.cls) (hl : (Cond.methodLink own index ⟨sub, y.name, y.desc⟩).before args s = true) (hs : (Cond.sameMethod sub y.cls y.name y.desc).before args s = true) (hy : y.cls ≠ "java/lang/invoke/MethodHandle" ∧ y.cls ≠ "java/lang/invoke/VarHandle") {mk : MethodId} {mm : Method} {kk : Class} (hn : s.methodNamed? y = some mk) (hm : s.vm.method? mk = some mm) (hst : mm.isStatic = true) (hk : s.vm.classes[mk.cls]? = some kk) (hi : kk.init = .initialized) {g : JFrame} (hg : g.method = m) {As rest : List Value} (hlen : As.length = mm.sig.parameters.length) (hstk : g.stack = As.reverse ++ rest) (hd : decode c.code g.pc = .ok (.invokestatic index, 3)) : ∃ vm', Stand p l e R s m args below meth c (T.setVm vm') locs cells slots ∧ ∀ target, (∀ acts, Steps p.tables e below (doInvoke e ((T.setVm vm').setTop { g with stack := rest }) acts mk As.toArray).1 target) → Steps p.tables e below (T.setTop g) target := by
  subst hg
  have top := X.here.top
  obtain ⟨sc, sk, r1, f1, f2, f3, f4, f5⟩ := Cond.sameMethod_found hs
  have e1 : r1 = mk := Option.some.inj (f5.symm.trans hn)
  subst e1
  obtain ⟨ci, L1, L2⟩ := Cond.methodLink_specUp ho f1 f2 f3 f4 hl e.platform (by rw [X.admits.platform]) (by rw [X.admits.platform])
  have E : s.MethodEntryUp e T.vm g.method.cls index sc r1 ci := State.methodEntryUp X.warmed L1 L2
  obtain ⟨dk, cf, nt, nm, ds, sk', _, _, d1, d2, d3, d4, -, -, d5, -, d6, -⟩ := L1.here
  have e2 : sk = sk' := Option.some.inj (f2.symm.trans d5)
  subst e2
  obtain ⟨kx, x1, x2⟩ := className_of_methodNamed hn
  have e3 : kx = kk := Option.some.inj (x1.symm.trans hk)
  subst e3
  have al := E.warmed.alike
  obtain ⟨c1, c2, c3, c4⟩ := E.classFirst
  obtain ⟨dk0, a1, a2⟩ := X.warmed.alike.2.2 _ _ d1
  obtain ⟨dk2, b1, b2⟩ := al.2.2 _ _ d1
  obtain ⟨sk1, g1, g2⟩ := c3.alike.2.2 _ _ f2
  obtain ⟨sk2, h1, h2⟩ := al.2.2 _ _ f2
  obtain ⟨kk2, i1, i2⟩ := al.2.2 _ _ hk
  have q0 : (sk.methods.any fun z => z.name == nm && !z.isStatic && signaturePolymorphic sk z) = false := by simp [d6]
  have q1 : (sk1.methods.any fun z => z.name == nm && !z.isStatic && signaturePolymorphic sk1 z) = false := by rw [g2]; exact q0
  have q2 : (sk2.methods.any fun z => z.name == nm && !z.isStatic && signaturePolymorphic sk2 z) = false := by rw [h2]; exact q0
  have d3' : cf.constantPool[index]? = some (if false then .interfaceMethodref ci nt else .methodref ci nt) := d3
  have ask0 := memberRef_ask_via (e := e) a1 (by rw [a2]; exact d2) d3' d4
  have ask2 := memberRef_ask_via (e := e) b1 (by rw [b2]; exact d2) d3' d4
  have t1 : (T.setVm (T.vm.noted g.method.cls ci (.cls sc))).topJava?.isSome := top
  have t2 : (T.setVm (T.vm.calledUp g.method.cls ci index sc r1)).topJava?.isSome := top
  refine ⟨T.vm.calledUp g.method.cls ci index sc r1, X.noted E.warmed, fun target hrest => ?_⟩
  have cold : ∀ {Q : Unit → Pre} {E' : CtlPost} {dd : Bool} {acts : List Action}, wp (invokestatic.sem index) Q E' e dd acts (T.setTop g) ↔ wp (invokestatic.sem index) Q E' e dd acts ((T.setVm (T.vm.calledUp g.method.cls ci index sc r1)).setTop g) := by
    intro Q E' dd acts
    have w1 : ∀ {Q' : ClassId → Pre} {d' : Bool} {acts' : List Action}, wp (Jvm.resolveClassAt ci) Q' E' e d' acts' (T.setTop g) ↔ Q' sc d' acts' ((T.setVm (T.vm.noted g.method.cls ci (.cls sc))).setTop g) := W.resolveClassAt_links (t := T.setTop g) (State.method?_setTop g top) c1
    have w2 : ∀ {Q' : MethodId → Pre} {d' : Bool} {acts' : List Action}, wp (Jvm.resolveMethodAt index) Q' E' e d' acts' ((T.setVm (T.vm.noted g.method.cls ci (.cls sc))).setTop g) ↔ Q' r1 d' acts' ((T.setVm (T.vm.calledUp g.method.cls ci index sc r1)).setTop g) := W.resolveMethodAt_links (t := (T.setVm (T.vm.noted g.method.cls ci (.cls sc))).setTop g) (State.method?_setTop g t1) c4
    have w3 := fun {Q' : ClassId → Pre} {d' : Bool} {acts' : List Action} => W.resolveClassAt_ready (e := e) (E := E') (Q := Q') (d := d') (acts := acts') (s := (T.setVm (T.vm.calledUp g.method.cls ci index sc r1)).setTop g) (State.method?_setTop g t2) E.classReady
    have w4 := fun {Q' : MethodId → Pre} {d' : Bool} {acts' : List Action} => W.resolveMethodAt_ready (e := e) (E := E') (Q := Q') (d := d') (acts := acts') (s := (T.setVm (T.vm.calledUp g.method.cls ci index sc r1)).setTop g) (State.method?_setTop g t2) E.ready
    have pv : e.platform.polymorphicOnlyByInvokevirtual = true := by rw [X.admits.platform]
    simp [invokestatic.sem, pv, Seam.memberRefOf, State.method?_setTop g top, State.method?_setTop g t2, ask0, ask2, w1, w2, w3, w4, g1, h1, q1, q2, -Array.any_eq_true]
  have mr : (T.vm.calledUp g.method.cls ci index sc r1).method? r1 = some mm := by rw [al.method?]; exact hm
  have sp : signaturePolymorphic kk2 mm = false := by rw [i2]; show signaturePolymorphic kx mm = false; simp [signaturePolymorphic, x2, hy.1, hy.2]
  jvm_step X.here [hx, hd, cold, invokestatic.wp_ready (e := e) (s := T.setVm (T.vm.calledUp g.method.cls ci index sc r1)) (k := kk2) (meth := mm) (m := r1) (args := As) (rest := rest) (f := g) top ⟨ci, nm, ds, false, sc, sk2, ask2, E.classReady, h1, q2⟩ E.ready i1 mr sp hst (by rw [i2]; exact hi) hlen hstk]
  exact fun acts => hrest _
end ZSU
section ZSV
variable {g : zG} {t t2 : zM} {pc n : Nat} {L rest av : List Value} {M M1 M2 : zMe} {rv r1 : Option Value} {y : MethodName}
theorem z_callSU (hC : zC g) {sub : String} (hM : zMet g y t2 av M r1 M1) (hl : Cond.methodLink t.1 n ⟨sub, y.name, y.desc⟩ ∈ lw_tbl) (hsm : Cond.sameMethod sub y.cls y.name y.desc ∈ lw_tbl) (hs : Cond.static y ∈ lw_tbl) (hcd : zCd y t2 av.length) (hfit : zFit t t2 rest) (hd : decode t.2.1 pc = .ok (.invokestatic n, 3)) (kk : zW g t (pc + 3) L (r1.toList ++ rest) M1 rv M2) : zW g t pc L (av.reverse ++ rest) M rv M2 :=
  zback hM kk (fun p e R s m args below meth c H ls locs cells slots hF hR hL hc1 hc2 => by
    obtain ⟨h1, h2, h3, h4⟩ := hcd
    have hcode := zw_at hC hF h1 rfl args
    have hini := zw_at hC hF h2 rfl args
    have hst := zw_at hC hF hs rfl args
    have hp := zS_of (av := av) hF hR
    have hK : Back g.1 R p e below s args y 3 8 (PreOf R (M1.2.1 - M.2.1) (M1.2.2 - M.2.2) (zPc g av M)) (PostOf (zQc g r1 M1) (M1.2.1 - M.2.1) (M1.2.2 - M.2.2) (fun q => g.2.1.heap.size ≤ q)) := back_of (bytes := t2.2.1) (maxL := t2.2.2.1) (ret := t2.2.2.2.1) hM.2.2 hp.1 rfl rfl (Nat.le_trans hfit.1 hF.2.2.2.2.2.2.1) (Nat.le_trans hfit.2.1 hF.2.2.2.2.2.2.2) (fun w hw a' U hW => by rw [List.mem_singleton.mp hw]; exact word_at hW (Or.inl rfl) hcode) (List.mem_singleton.mpr rfl) (fun a' U hW => word_at hW (Or.inl (by first | rfl | simp [Cond.onTables, Cond.keeps, Cond.steady])) hini)
    obtain ⟨mk, hnm⟩ := Cond.code_named hcode
    obtain ⟨mm, cM, hmm, -, -, -, -, -, -, hsig⟩ := Cond.code_spec hnm hcode
    have hst2 : mm.isStatic = true := Cond.static_spec hnm hmm hst
    obtain ⟨kP, hkP, -⟩ := className_of_methodNamed hnm
    have hin2 : kP.init = .initialized := Cond.initialized_spec (findClass_of_methodNamed hnm) hkP hini
    have hln : av.length = mm.sig.parameters.length := by
      rw [hsig] at h4
      exact (Option.some.inj h4).symm
    intro T hT X
    obtain ⟨vm1, X1, st1⟩ := zu_go X hF.1 hF.2.2.2.1 (zw_at hC hF hl rfl args) (zw_at hC hF hsm rfl args) h3 hnm hmm hst2 hkP hin2 (g := F0 m pc ls (av.reverse ++ rest)) rfl (As := av) (rest := rest) hln rfl (by rw [hF.2.1]; exact hd)
    obtain ⟨v, ⟨U', l2, c2, s2⟩, X', ⟨g', mk', tt, L', e1, e2, hq, q1, hLq, q2, q3⟩, hsteps⟩ := hK m meth c ⟨T.setVm vm1, locs, cells, slots⟩ { F0 m pc ls (av.reverse ++ rest) with stack := rest } (.invokestatic n) mk av.toArray X1 rfl (by rw [hF.2.2.1]; exact hL.1) (by rw [hF.2.1]; exact hd) (lv_room hfit.2.2) (X1.named hnm) ⟨hc1, hc2, hp.2 (T.setVm vm1) hT X1.warmed⟩
    dsimp only [Pt.U, Pt.locs, Pt.cells, Pt.slots] at X' e1 e2 q1 q2 q3 hsteps
    subst q1; subst q2; subst q3
    exact ⟨v, (T.setVm vm1).calling g' mk' av.toArray, tt, U', L', hT, X', hLq, e1, hq, fun target h => st1 _ fun acts => by rw [doInvoke_state]; exact hsteps.trans h⟩)
end ZSV
