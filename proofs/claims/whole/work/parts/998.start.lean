/-! THE CLAIM OUT OF ONE WALK OF THE LAW'S BODY. Your part is whole_start (and what it stands on); all else here is the same for every law, but numbers. -/
def R_law : String := "OneWhistleLaw"
def lw_P (b : Addr) (xs : List Int32) (args : Array Value) (s : State) : Prop := args = #[.ref b] ∧ s.IntsAt b xs ∧ xs.length ≤ 448 ∧ (Jvm.Cond.and given_1 narrow_1).before args s = true
def lw_Q (_ : Array Value) (s : State) (o : Outcome) (t : State) : Prop := o = .returned (some (.int 1)) ∧ Framed s o t [] 600000 7302250
def lw_Z (below : List Frame) (a : Array Value) (s : State) : State → Prop := fun t => ∃ o, t.status = .running ∧ Ended t below o ∧ lw_Q a s o t
/-- the law's own end, with 1 on the stack, nothing written that was there before, its room as the claim has it -/
theorem lw_ret {p : Program} {l : Launch} {e : Env} {s : State} {m : MethodId} {below : List Frame} {meth : Method} {c : Code} {b : Nat} (hx : p.tables.exec = Jvm.exec) (hb : c.code = code) (hr : meth.sig.returnType = ret) (hlocks : meth.locks = false) {pc : Nat} {H : Heap} {ls : Array Slot} (hdg : decode code pc = .ok (.ireturn, 1)) : W p l e room_1 s m #[Value.ref b] below meth c H [] 600000 7302250 (lw_Z below #[Value.ref b] s) (F0 m pc ls [.int 1]) := by
  intro T hT X
  obtain ⟨fs, hret, hrun, hended, hW, hframe⟩ := X.leave (v := some (.int 1)) (hlocks := hlocks) (fun h => by rw [hr] at h; cases h)
  have hmeth' : T.vm.method? m = some meth := X.method'
  refine ⟨T.setFrames fs, ?_, .returned (some (.int 1)), hrun, hended, rfl, ⟨_, rfl⟩, hW, hframe⟩
  jvm_step X.here [X.here.top, hx, hb, hdg, hmeth', hr, ret, narrow_b1]
  (try refine ⟨rfl, ?_⟩); (try refine ⟨rfl, ?_⟩)
  first | (intro acts; rw [hret _ acts rfl rfl rfl]) | rw [hret _ _ rfl rfl rfl]
  exact Steps.refl _
/-- what holds at the law's entry: the machine, the code, the tables' words (any of lw_tbl by 'hts w (by decide +kernel)'), the script of L ints xs at the cell b, what the Statement gives of the start (any of its parts by flat_of_before) -/
def lw_At (p : Program) (s : State) (m : MethodId) (meth : Method) (c : Code) (b L : Nat) (xs : Nat → Int32) : Prop :=
  p.tables.exec = Jvm.exec ∧ c.code = code ∧ meth.sig.returnType = ret ∧ c.maxLocals = 4 ∧ s.vm.findClass R_law = some m.cls ∧ (∀ w ∈ lw_tbl, w.before #[Value.ref b] s = true) ∧ va_X b L xs s s.heap ∧ b < s.heap.size ∧ meth.locks = false ∧ (Jvm.Cond.and given_1 narrow_1).before #[Value.ref b] s = true
/-- the memory at the law's start -/
def zM0 (n : Nat) : zMe := (fun _ => none, n, 0)
/-- what is left to be shown, without a machine: the law's function answers 1, within the room -/
def zPure (N : Nat) : Prop := ∀ (base sn : Nat) (sa : Nat → Nat) (xs : Nat → Int32), sn ≤ N → ZS sa → ∃ M2 : zMe, f_L_law sa sn xs (zM0 base) = some (1, M2) ∧ M2.2.1 ≤ base + 600000 ∧ M2.2.2 ≤ 7302250
theorem pure_448 : zPure 448 := fun base _ _ xs hn hZ => law_all hZ hn xs base
theorem zs_of {sa : Nat → Nat} (hi : ∀ i j, i < 6 → j < 6 → sa i = sa j → i = j) : ZS sa := fun k hk => by
  have hl : ∀ k, k < 6 → zwl.getD k 0 = wl k := by decide +kernel
  have hc : ∀ k, k < 6 → ∀ j, j < wl k → (zwb.getD k []).getD j 0 = nI (wc k j) := by decide +kernel
  have h7 := wl_7 k hk
  refine ⟨?_, fun i hi2 => ?_⟩
  · rw [zsL, zsK_at hi hk, Option.bind_some, hl k hk]
  · rw [zsC, zsK_at hi hk, Option.bind_some, nI_clamp (by omega), hl k hk, if_neg (fun o => o.elim (nI_pos (by omega)) (by omega)), hc k hk i hi2]
def ztm (k : Nat) : Term := .string "OneWhistle$Reader" (zsi k)
theorem zf_ex : ∀ k, k < 6 → Cond.exactly (ztm k) "java/lang/String" ∈ flatC (Jvm.Cond.and given_1 narrow_1) := by decide +kernel
theorem zf_co : ∀ k, k < 6 → Cond.eq (.field (ztm k) "java/lang/String" "coder" "B") (.int 0) ∈ flatC (Jvm.Cond.and given_1 narrow_1) := by decide +kernel
theorem zf_ar : ∀ k, k < 6 → Cond.arrayOf (.field (ztm k) "java/lang/String" "value" "[B") .byte ∈ flatC (Jvm.Cond.and given_1 narrow_1) := by decide +kernel
theorem zf_le : ∀ k, k < 6 → Cond.eq (.length (.field (ztm k) "java/lang/String" "value" "[B")) (.int (Int32.ofNat (zwl.getD k 0))) ∈ flatC (Jvm.Cond.and given_1 narrow_1) := by decide +kernel
theorem zf_el : ∀ k, k < 6 → ∀ j, j < zwl.getD k 0 → Cond.eq (.elem (.field (ztm k) "java/lang/String" "value" "[B") (.int (Int32.ofNat j))) (.int ((zwb.getD k []).getD j 0)) ∈ flatC (Jvm.Cond.and given_1 narrow_1) := by decide +kernel
theorem zf_ne : ∀ i, i < 6 → ∀ j, j < 6 → i ≠ j → (Cond.not (Cond.eq (ztm i) (ztm j)) ∈ flatC (Jvm.Cond.and given_1 narrow_1) ∨ Cond.not (Cond.eq (ztm j) (ztm i)) ∈ flatC (Jvm.Cond.and given_1 narrow_1)) := by decide +kernel
theorem zf_sr : ∀ k, k < 6 → Cond.stringRef "OneWhistle$Reader" (zsi k) (zst k) ∈ lw_tbl := by decide +kernel
theorem zstr_of {args : Array Value} {s : State} (l : Launch) (dC : Nat → ClassId) (dI : Nat → Nat → Nat) (hgv : (Jvm.Cond.and given_1 narrow_1).before args s = true) (hts : ∀ w ∈ lw_tbl, w.before args s = true) : ∃ sa : Nat → Nat, zCs (l, s, args, dC, dI) sa ∧ ∀ i j, i < 6 → j < 6 → sa i = sa j → i = j := by
  have hs := flat_of_before _ hgv
  have hA : ∀ a : Nat, a < s.heap.size → ¬ zA0 (l, s, args, dC, dI) a := fun a h z => Nat.not_le.mpr h z
  obtain ⟨sa, sv, hS, he⟩ := vk_Sof (args := args) (s := s) (N := 6) (tm := ztm) (len := zwl) (byt := zwb) (A := zA0 (l, s, args, dC, dI)) (fun i hi => Nat.lt_of_le_of_lt (zwl_8 i hi) (by decide)) (fun i hi => hs _ (zf_ex i hi)) (fun i hi => hs _ (zf_co i hi)) (fun i hi => hs _ (zf_ar i hi)) (fun i hi => hs _ (zf_le i hi)) (fun i hi j hj => hs _ (zf_el i hi j hj)) (fun i j hi hj hn => (zf_ne i hi j hj hn).elim (fun h => Or.inl (hs _ h)) (fun h => Or.inr (hs _ h))) hA
  refine ⟨sa, ⟨fun k hk => vk_R.of (hts _ (zf_sr k hk)) (he k hk), sv, hS, ?_, ?_⟩, hS.2⟩
  · exact va_Zof (hts _ (by decide +kernel)) (hts _ (by decide +kernel)) (va_eqi (hs _ (by decide +kernel))) hA
  · exact va_Zqof (hts _ (by decide +kernel)) (hts _ (by decide +kernel)) (hs _ (by decide +kernel)) hA
set_option maxHeartbeats 4000000 in
set_option maxRecDepth 100000 in
theorem start_of {N : Nat} (hpure : zPure N) {p : Program} {e : Env} {s : State} {m : MethodId} {below : List Frame} {meth : Method} {c : Code} (l : Launch) {b L : Nat} {xs : Nat → Int32} (hL : L ≤ N) (C0 : lw_At p s m meth c b L xs) (hnm : meth.name = "law") : W p l e room_1 s m #[Value.ref b] below meth c s.heap [] 0 0 (lw_Z below #[Value.ref b] s) (entryFrame m ([Value.ref b] : List Value).toArray 4) := by
  obtain ⟨hx, hb, hr, hml, hown, hts, hX, hbl, hlocks, hgv⟩ := id C0
  obtain ⟨c0, iS0, hKn0⟩ := u_known (C := RX0) (T := TX0) (N := 11) (n := 11) hts zcl_0.2.1 (hts (.instantiable RX0 11) ins_0)
  obtain ⟨c1, iS1, hKn1⟩ := u_known (C := RX1) (T := TX1) (N := 3) (n := 3) hts zcl_1.2.1 (hts (.instantiable RX1 3) ins_1)
  obtain ⟨c2, iS2, hKn2⟩ := u_known (C := RX2) (T := TX2) (N := 8) (n := 8) hts zcl_2.2.1 (hts (.instantiable RX2 8) ins_2)
  obtain ⟨c3, iS3, hKn3⟩ := u_known (C := RX3) (T := TX3) (N := 6) (n := 6) hts zcl_3.2.1 (hts (.instantiable RX3 6) ins_3)
  obtain ⟨c4, iS4, hKn4⟩ := u_known (C := RX4) (T := TX4) (N := 4) (n := 4) hts zcl_4.2.1 (hts (.instantiable RX4 4) ins_4)
  obtain ⟨c5, iS5, hKn5⟩ := u_known (C := RX5) (T := TX5) (N := 3) (n := 3) hts zcl_5.2.1 (hts (.instantiable RX5 3) ins_5)
  obtain ⟨c6, iS6, hKn6⟩ := u_known (C := RX6) (T := TX6) (N := 6) (n := 6) hts zcl_6.2.1 (hts (.instantiable RX6 6) ins_6)
  obtain ⟨c7, iS7, hKn7⟩ := u_known (C := RX7) (T := TX7) (N := 7) (n := 7) hts zcl_7.2.1 (hts (.instantiable RX7 7) ins_7)
  obtain ⟨c8, iS8, hKn8⟩ := u_known (C := RX8) (T := TX8) (N := 3) (n := 3) hts zcl_8.2.1 (hts (.instantiable RX8 3) ins_8)
  obtain ⟨c9, iS9, hKn9⟩ := u_known (C := RX9) (T := TX9) (N := 3) (n := 3) hts zcl_9.2.1 (hts (.instantiable RX9 3) ins_9)
  obtain ⟨c10, iS10, hKn10⟩ := u_known (C := RX10) (T := TX10) (N := 2) (n := 2) hts zcl_10.2.1 (hts (.instantiable RX10 2) ins_10)
  obtain ⟨c11, iS11, hKn11⟩ := u_known (C := RX11) (T := TX11) (N := 14) (n := 14) hts zcl_11.2.1 (hts (.instantiable RX11 14) ins_11)
  obtain ⟨c12, iS12, hKn12⟩ := u_known (C := RX12) (T := TX12) (N := 21) (n := 21) hts zcl_12.2.1 (hts (.instantiable RX12 21) ins_12)
  obtain ⟨dC, dI, hKc⟩ : ∃ (dC : Nat → ClassId) (dI : Nat → Nat → Nat), ∀ (k : Nat) (q : vw_C), vwCl[k]? = some q → u_Kn s q.1 q.2.1 q.2.2 (dC k) (dI k) := by
    refine ⟨fun k => if k = 0 then c0 else if k = 1 then c1 else if k = 2 then c2 else if k = 3 then c3 else if k = 4 then c4 else if k = 5 then c5 else if k = 6 then c6 else if k = 7 then c7 else if k = 8 then c8 else if k = 9 then c9 else if k = 10 then c10 else if k = 11 then c11 else c12, fun k => if k = 0 then iS0 else if k = 1 then iS1 else if k = 2 then iS2 else if k = 3 then iS3 else if k = 4 then iS4 else if k = 5 then iS5 else if k = 6 then iS6 else if k = 7 then iS7 else if k = 8 then iS8 else if k = 9 then iS9 else if k = 10 then iS10 else if k = 11 then iS11 else iS12, ?_⟩
    intro k q hq
    match k, hq with
    | 0, hq => cases hq; exact hKn0
    | 1, hq => cases hq; exact hKn1
    | 2, hq => cases hq; exact hKn2
    | 3, hq => cases hq; exact hKn3
    | 4, hq => cases hq; exact hKn4
    | 5, hq => cases hq; exact hKn5
    | 6, hq => cases hq; exact hKn6
    | 7, hq => cases hq; exact hKn7
    | 8, hq => cases hq; exact hKn8
    | 9, hq => cases hq; exact hKn9
    | 10, hq => cases hq; exact hKn10
    | 11, hq => cases hq; exact hKn11
    | 12, hq => cases hq; exact hKn12
    | k + 13, hq => simp [vwCl] at hq
  obtain ⟨sa, hsa, hinj⟩ := zstr_of l dC dI hgv hts
  have hC : zC (l, s, #[Value.ref b], dC, dI) := ⟨hts, hKc, fun k q h => by simp at h⟩
  obtain ⟨M2, hf, hm1, hm2⟩ := hpure s.heap.size L sa xs hL (zs_of hinj)
  have hW := s_L_law (g := (l, s, #[Value.ref b], dC, dI)) hC (sa := sa) hsa (b0 := b) hX hbl hf
  have hl := zL.entry (n := 4) (vs := [Value.ref b]) (Nat.le_of_ble_eq_true rfl)
  rw [lg_entry_eq]
  refine hW.2.2 p e room_1 s m #[Value.ref b] below meth c s.heap _ [] 0 0 _ ⟨hx, hb, hml, hown, hnm, State.WarmedH.refl s, Nat.le_of_ble_eq_true rfl, Nat.le_of_ble_eq_true rfl⟩ ⟨rfl, Nat.le_refl _, fun _ _ => rfl, fun q e h => by cases h⟩ hl (fun q h => by cases h) ?_ ?_ ?_
  · show 0 + (M2.2.1 - s.heap.size) ≤ 600000
    omega
  · show 0 + (M2.2.2 - 0) ≤ 7302250
    omega
  · intro pc1 ls1 H1 locs1 cells1 slots1 hR1 hl1 hc1 hs1 hz hrk
    refine va_forget hl1 ?_
    refine W.widen (k := 600000) (n := 7302250) hc1 hs1 ?_
    exact lw_ret hx hb hr hlocks hz
