/-! THE LAW'S START: behind the last cell there is none -/
def Wf (M : zMe) : Prop := ∀ q, M.2.1 ≤ q → M.1 q = none
def WfO (o : Option zMe) : Prop := ∀ M2, o = some M2 → Wf M2
section WF
variable {M : zMe} {a k : Nat} {cs : List Nat}
theorem Wf.set (h : Wf M) {e0 : zEn} (he : M.1 a = some e0) (e : zEn) : Wf (zSet M a e) := fun q hq => by
  have hq' : M.2.1 ≤ q := hq
  have : q ≠ a := fun z => by rw [← z, h q hq'] at he; cases he
  rw [zS_n _ _ this]; exact h q hq'
theorem Wf.add (h : Wf M) (e : zEn) (n : Nat) : Wf (zAdd M e n) := fun q hq => by
  have hq' : M.2.1 + 1 ≤ q := hq
  rw [zA_n _ _ _ (by omega)]; exact h q (by omega)
theorem WfO.b {o : Option zMe} {k : zMe → Option zMe} (h : WfO o) (hk : ∀ M, Wf M → WfO (k M)) : WfO (o.bind k) := fun M2 e => by
  cases o with
  | none => cases e
  | some M1 => exact hk M1 (h M1 rfl) M2 e
theorem WfO.n {o : Option Nat} {k : Nat → Option zMe} (hk : ∀ a, WfO (k a)) : WfO (o.bind k) := fun M2 e => by
  cases o with
  | none => cases e
  | some M1 => exact hk M1 M2 e
theorem WfO.s (h : Wf M) : WfO (some M) := fun M2 e => by cases e; exact h
theorem WfO.l {e : zEn} {n : Nat} {k : zMe → Option zMe} (h : Wf M) (hk : ∀ M, Wf M → WfO (k M)) : WfO (zlet (zAdd M e n) k) := hk _ (h.add _ _)
theorem zp_wf (h : Wf M) {v : Value} : WfO (zp M a cs k v) := fun M2 e => by
  obtain ⟨ci, fs, h1, h2, h3⟩ := zp_some e
  subst h3
  exact h.set h2 _
theorem zpI_wf (h : Wf M) {v : Int32} : WfO (zpI M a cs k v) := zp_wf h
theorem zpL_wf (h : Wf M) {v : Int64} : WfO (zpL M a cs k v) := zp_wf h
theorem zpR_wf (h : Wf M) {v : Option Nat} : WfO (zpR M a cs k v) := zp_wf h
theorem zpZ_wf (h : Wf M) {v : Int32} : WfO (zpZ M a cs k v) := fun M2 e => zp_wf h M2 (zifs e).2
theorem znI_wf (h : Wf M) {ty : FieldType} {v : Int32} : WfO (znI M ty v) := fun M2 e => by
  unfold znI at e
  split at e
  · cases e
  · cases e; exact h.add _ _
theorem znL_wf (h : Wf M) {v : Int32} : WfO (znL M v) := fun M2 e => by
  unfold znL at e
  split at e
  · cases e
  · cases e; exact h.add _ _
theorem znR_wf (h : Wf M) {E : String} {v : Int32} : WfO (znR M E v) := fun M2 e => by
  unfold znR at e
  split at e
  · cases e
  · cases e; exact h.add _ _
theorem zwI_wf (h : Wf M) {i v : Int32} : WfO (zwI M a i v) := fun M2 e => by
  unfold zwI at e
  split at e
  next e0 =>
    split at e
    · cases e
    · cases e; exact h.set e0 _
  next => cases e
theorem zwR_wf (h : Wf M) {i : Int32} {v : Option Nat} {E : String} : WfO (zwR M a i v E cs) := fun M2 e => by
  obtain ⟨e0, e1, n, e2⟩ : ∃ e0 e1, M.1 a = some e0 ∧ M2 = zSet M a e1 := by
    unfold zwR at e
    repeat' split at e
    all_goals first | (cases e; done) | skip
    all_goals (cases e; exact ⟨_, _, by assumption, rfl⟩)
  subst e2
  exact h.set n _
theorem w_x2 (h : Wf M) {x : Nat} : WfO (f_X2_init x M) := by
  unfold f_X2_init
  repeat first | exact WfO.s (by assumption) | refine WfO.b (zpI_wf (by assumption)) (fun _ _ => ?_) | refine WfO.b (zpR_wf (by assumption)) (fun _ _ => ?_) | refine WfO.b (znR_wf (by assumption)) (fun _ _ => ?_)
theorem w_x4 (h : Wf M) {x : Nat} : WfO (f_X4_init x M) := by
  unfold f_X4_init
  repeat first | exact WfO.s (by assumption) | refine WfO.b (zpI_wf (by assumption)) (fun _ _ => ?_) | refine WfO.b (zpR_wf (by assumption)) (fun _ _ => ?_) | refine WfO.b (znI_wf (by assumption)) (fun _ _ => ?_)
theorem w_x8 (h : Wf M) {x : Nat} : WfO (f_X8_init x M) := by
  unfold f_X8_init
  repeat first | exact WfO.s (by assumption) | refine WfO.b (zpI_wf (by assumption)) (fun _ _ => ?_) | refine WfO.b (zpR_wf (by assumption)) (fun _ _ => ?_) | refine WfO.b (zpL_wf (by assumption)) (fun _ _ => ?_) | refine WfO.b (znL_wf (by assumption)) (fun _ _ => ?_)
theorem w_x10 (h : Wf M) {x : Nat} : WfO (f_X10_init x M) := by
  unfold f_X10_init
  repeat first | exact WfO.s (by assumption) | refine WfO.b (zpI_wf (by assumption)) (fun _ _ => ?_) | refine WfO.b (zpR_wf (by assumption)) (fun _ _ => ?_) | refine WfO.b (znI_wf (by assumption)) (fun _ _ => ?_)
theorem w_x0 (h : Wf M) {x : Nat} : WfO (f_X0_init x M) := by
  unfold f_X0_init
  repeat first | exact WfO.s (by assumption) | refine WfO.l (by assumption) (fun _ _ => ?_) | refine WfO.b (w_x4 (by assumption)) (fun _ _ => ?_) | refine WfO.b (w_x8 (by assumption)) (fun _ _ => ?_) | refine WfO.b (zpI_wf (by assumption)) (fun _ _ => ?_) | refine WfO.b (zpR_wf (by assumption)) (fun _ _ => ?_) | refine WfO.b (zpZ_wf (by assumption)) (fun _ _ => ?_) | refine WfO.b (znL_wf (by assumption)) (fun _ _ => ?_) | refine WfO.b (znR_wf (by assumption)) (fun _ _ => ?_) | refine WfO.b (zwR_wf (by assumption)) (fun _ _ => ?_)
theorem w_x11 (h : Wf M) {x : Nat} : WfO (f_X11_init x M) := by
  unfold f_X11_init
  repeat first | exact WfO.s (by assumption) | refine WfO.l (by assumption) (fun _ _ => ?_) | refine WfO.b (w_x2 (by assumption)) (fun _ _ => ?_) | refine WfO.b (w_x0 (by assumption)) (fun _ _ => ?_) | refine WfO.b (w_x4 (by assumption)) (fun _ _ => ?_) | refine WfO.b (w_x10 (by assumption)) (fun _ _ => ?_) | refine WfO.b (zpI_wf (by assumption)) (fun _ _ => ?_) | refine WfO.b (zpR_wf (by assumption)) (fun _ _ => ?_) | refine WfO.b (zpL_wf (by assumption)) (fun _ _ => ?_) | refine WfO.b (znL_wf (by assumption)) (fun _ _ => ?_) | refine WfO.b (znR_wf (by assumption)) (fun _ _ => ?_) | refine WfO.b (znI_wf (by assumption)) (fun _ _ => ?_)
theorem w_x12 (h : Wf M) {x : Nat} : WfO (f_X12_init x M) := by
  unfold f_X12_init
  repeat first | exact WfO.s (by assumption) | refine WfO.n (fun _ => ?_) | refine WfO.b (zpR_wf (by assumption)) (fun _ _ => ?_) | refine WfO.b (zpL_wf (by assumption)) (fun _ _ => ?_) | refine WfO.b (znL_wf (by assumption)) (fun _ _ => ?_) | refine WfO.b (znI_wf (by assumption)) (fun _ _ => ?_) | refine WfO.b (zwI_wf (by assumption)) (fun _ _ => ?_)
end WF
/-! both objects, new, are as the law's loop wants them -/
def P0 : PS := (B00, 0, (0, 1), fun _ => 0, fun _ => 0, fun _ => false, fun _ _ => 0)
theorem Ln0.lnr {M : zMe} {a : Nat} (h : Ln0 M a) : LnR M a := ⟨0, fun _ => 0, fun _ => 0, fun _ => 0, h.1, h.2.1, h.2.2.1, h.2.2.2, fun _ _ => rfl⟩
theorem bk0_bk : Bk bk0 B00 := by
  have h : ∀ k, k < 25 → bk0 k = nI (B00 k) := by decide +kernel
  exact h
theorem ML0 : ML P0 (fun _ => 0) lg0 ar0 := ⟨bk0_bk, B00_wb, rfl, Nat.zero_le _, rfl, rfl, rfl, fun _ _ => rfl, fun _ _ => rfl, fun i _ z => (by cases z), ⟨fun _ _ => rfl, rfl⟩, ⟨fun _ _ => rfl, rfl⟩⟩
def A00 (x : Nat) : Nat → Nat := fun i => if i = 0 then x + 20 else if i = 1 then x + 21 else x + 22
def Z00 : Nat → Nat := fun i => if i = 0 then 64 else 32
theorem CF.ci {M : zMe} {x : Nat} (h : CF M x) (hm : x + 44 ≤ M.2.1) (hw : Wf M) : CI M x P0 (A00 x) Z00 0 := by
  obtain ⟨h0, h1, h2, h3, h4, h5, h6, l1, l2, l3, h7, h8, h9, h10, l4, h11, h12, h13, h14⟩ := h
  have hKR : KR M (x + 5) (upN (fun _ => 0) 3 1) (A00 x) Z00 0 := by
    refine ⟨upN (fun _ => 0) 1 1048576, fun _ => 0, fun _ => 0, fun _ => 0, fun _ => 0, h5, h9, h10, h7, h8, fun i _ => ⟨rfl, by show 0 / 16777216 ≤ 0; omega⟩, fun i hi => ?_, (by decide), (by decide), ⟨?_, ?_, ?_⟩, fun i hi => ?_, by omega⟩
    · rcases (show i = 0 ∨ i = 1 ∨ i = 2 by omega) with rfl | rfl | rfl
      · exact ⟨6, rfl, by omega, by omega⟩
      · exact ⟨5, rfl, by omega, by omega⟩
      · exact ⟨5, rfl, by omega, by omega⟩
    · show x + 20 ≠ x + 21; omega
    · show x + 20 ≠ x + 22; omega
    · show x + 21 ≠ x + 22; omega
    · rcases (show i = 0 ∨ i = 1 ∨ i = 2 by omega) with rfl | rfl | rfl
      · show (x + 20 < x + 5 ∨ x + 5 + 14 < x + 20) ∧ x + 20 < M.2.1; omega
      · show (x + 21 < x + 5 ∨ x + 5 + 14 < x + 21) ∧ x + 21 < M.2.1; omega
      · show (x + 22 < x + 5 ∨ x + 5 + 14 < x + 22) ∧ x + 22 < M.2.1; omega
  have hLR : LRs M (x + 5) := by
    refine ⟨⟨_, h6, fun i hi => ?_⟩, fun i hi => ?_⟩
    · rcases (show i = 0 ∨ i = 1 ∨ i = 2 by omega) with rfl | rfl | rfl
      · rw [va_up_ne _ _ (by decide), va_up_ne _ _ (by decide), va_up_self]
      · rw [va_up_ne _ _ (by decide), va_up_self]
      · rw [va_up_self]
    · rcases (show i = 0 ∨ i = 1 ∨ i = 2 by omega) with rfl | rfl | rfl
      · exact l1.lnr
      · exact l2.lnr
      · exact l3.lnr
  refine ⟨x + 1, x + 2, fun _ => none, fun _ => 0, fun _ => none, h0, ⟨h1, B00_wb, h2, fun k hk => absurd hk (by show ¬ k < 0; omega), fun k _ a ha => (by cases ha), Or.inl rfl, Or.inl rfl, by omega, by omega⟩, h3, fun i hi => Or.inl ⟨rfl, rfl⟩, h4, fun k _ => (by decide : (0 : Int32) &&& 255 = 0), Nat.zero_le _, ⟨⟨_, hKR⟩, hLR, l4.lnr, ⟨0, h11⟩, ⟨_, h12⟩, ⟨_, h13⟩, ⟨_, h14⟩, fun i hi => ?_⟩, hm, hw⟩
  rcases (show i = 0 ∨ i = 1 ∨ i = 2 by omega) with rfl | rfl | rfl
  · show (x + 20 ≤ x + 20 ∧ x + 20 ≤ x + 22) ∨ x + 44 ≤ x + 20; omega
  · show (x + 20 ≤ x + 21 ∧ x + 21 ≤ x + 22) ∨ x + 44 ≤ x + 21; omega
  · show (x + 20 ≤ x + 22 ∧ x + 22 ≤ x + 22) ∨ x + 44 ≤ x + 22; omega
theorem law_all {sa : Nat → Nat} (hZ : ZS sa) {sn : Nat} (hsn : sn ≤ 448) (xs : Nat → Int32) (base : Nat) : ∃ M2 : zMe, f_L_law sa sn xs ((fun _ => none, base, 0) : zMe) = some (1, M2) ∧ M2.2.1 ≤ base + 600000 ∧ M2.2.2 ≤ 7302250 := by
  obtain ⟨M0, hM0⟩ : ∃ M0 : zMe, M0 = (fun _ => none, base, 0) := ⟨_, rfl⟩
  have w0 : Wf M0 := fun q _ => by rw [hM0]
  have m0 : M0.2 = (base, 0) := by rw [hM0]
  have m01 : M0.2.1 = base := by rw [m0]
  obtain ⟨M1, e1, e2, e3, e4⟩ := t_x11 base 0 M0 m0
  have w1 : Wf M1 := w_x11 (w0.add _ _) M1 e1
  have m11 : M1.2.1 = base + 31 := by rw [e3]
  obtain ⟨M2, g1, g2, g3, g4⟩ := t_x12 (base + 31) (0 + 4676) M1 e3
  have w2 : Wf M2 := w_x12 (w1.add _ _) M2 g1
  have m21 : M2.2.1 = base + 44 := by rw [g3]
  have m22 : M2.2.2 = 136499 := by rw [g3]
  have hCF : CF M2 base := e2.kept (fun q a b => g4 q (by omega))
  have hJ : LJ M2 base Z00 0 := ⟨P0, A00 base, _, _, _, _, hCF.ci (by omega) w2, g2, ML0⟩
  rw [← hM0, f_L_law, zlet, m01, e1, Option.bind_some, zlet, m11, g1, Option.bind_some]
  exact law_loop hZ hsn 64 zfu 0 M2 Z00 0 (by omega) (by unfold zfu; omega) (by omega) hJ (by omega) (by omega) (by omega)
