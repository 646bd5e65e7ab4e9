/-! ONE CALL OF BOTH -/
/-- what the reference holds -/
def ML (P : PS) (sc : Nat → Int32) (lg : Nat → Int64) (ar : Nat → Nat → Int32) : Prop := Bk (ar 0) P.1 ∧ WB P.1 ∧ sc 0 = nI P.2.1 ∧ P.2.1 ≤ 200 ∧ lg 0 = P.2.2.1.1 ∧ lg 1 = P.2.2.1.2 ∧ ar 5 = P.2.2.2.1 ∧ (∀ k, k < 200 → ar 4 k = P.2.2.2.2.1 k) ∧ (∀ i, i < 2 → ar 3 i = if P.2.2.2.2.2.1 i then 1 else 0) ∧ (∀ i, i < 2 → P.2.2.2.2.2.1 i = true → Bk (fun k => ar 2 (25 * i + k)) (P.2.2.2.2.2.2 i)) ∧ Emp 0 (ar 6) (ar 8) ∧ Emp 1 (ar 6) (ar 8)
def RmK (M M' : zMe) (Z Z' : Nat → Nat) (sr sr' : Nat) : Prop := M'.2.1 + (Z 0 + Z 1 + Z 2) ≤ M.2.1 + (Z' 0 + Z' 1 + Z' 2) + 16 ∧ M'.2.2 + 2 * (Z 0 + Z 1 + Z 2) ≤ M.2.2 + 2 * (Z' 0 + Z' 1 + Z' 2) + 64 ∧ sr' ≤ sr + 200
def St {R : Type} (M : zMe) (x : Nat) (P : PS) (A Z : Nat → Nat) (sr : Nat) (F G : zMe → Option (R × zMe)) : Prop := ∃ r M1 P' A' Z' sr', F M = some (r, M1) ∧ CI M1 x P' A' Z' sr' ∧ Mk M M1 x ∧ RmK M M1 Z Z' sr sr' ∧ ∀ N sc lg ar en, ML P sc lg ar → ∃ sc' lg' ar' en', G (mmk N (x + 31) sc lg ar en) = some (r, mmk N (x + 31) sc' lg' ar' en') ∧ ML P' sc' lg' ar'
def Pref (P : PS) (k : Nat) : PS := (P.1, P.2.1, P.2.2.1, upd P.2.2.2.1 k (P.2.2.2.1 k + 1), P.2.2.2.2)
theorem ML.ref {P : PS} {sc : Nat → Int32} {lg : Nat → Int64} {ar : Nat → Nat → Int32} (h : ML P sc lg ar) (k : Nat) : ML (Pref P k) sc lg (mref ar k) := by
  obtain ⟨h1, h2, h3, h4, h5, h6, h7, h8, h9, h10, h11, h12⟩ := h
  refine ⟨by rw [mref, updA_n _ _ (by decide)]; exact h1, h2, h3, h4, h5, h6, ?_, by rw [mref, updA_n _ _ (by decide)]; exact h8, by rw [mref, updA_n _ _ (by decide)]; exact h9, by rw [mref, updA_n _ _ (by decide)]; exact h10, ?_, ?_⟩
  · rw [mref, updA_s, h7]
    rfl
  · rw [mref, updA_n _ _ (by decide), updA_n _ _ (by decide)]; exact h11
  · rw [mref, updA_n _ _ (by decide), updA_n _ _ (by decide)]; exact h12
theorem RmK.refl (M : zMe) (Z : Nat → Nat) (sr : Nat) : RmK M M Z Z sr sr := ⟨by omega, by omega, by omega⟩
section ST
variable {M : zMe} {x : Nat} {A Z : Nat → Nat} {sr h d : Nat} {P : PS} {f : Nat → Option Nat} {tx : Nat → Int32} {fi : Nat → Option Nat}
/-- nothing changes -/
theorem St.same {R : Type} {F G : zMe → Option (R × zMe)} (hc : CJ M x P A Z sr h d f tx fi) {r : R} (hF : F M = some (r, M)) (hG : ∀ N sc lg ar en, ML P sc lg ar → G (mmk N (x + 31) sc lg ar en) = some (r, mmk N (x + 31) sc lg ar en)) : St M x P A Z sr F G := ⟨r, M, P, A, Z, sr, hF, hc.ci, fun _ _ _ => rfl, RmK.refl _ _ _, fun N sc lg ar en hm => ⟨sc, lg, ar, en, hG N sc lg ar en hm, hm⟩⟩
theorem St.bad {R : Type} {F G : zMe → Option (R × zMe)} (hc : CJ M x P A Z sr h d f tx fi) {r : R} (hF : F M = some (r, zSet M x (.inr (11, xo x h (nI P.2.1) P.2.2.1.1 P.2.2.1.2 (P.2.2.2.1 0 + 1) (P.2.2.2.1 1) (P.2.2.2.1 2))))) (hG : ∀ N sc lg ar en, ML P sc lg ar → G (mmk N (x + 31) sc lg ar en) = some (r, mmk N (x + 31) sc lg (mref ar 0) en)) : St M x P A Z sr F G :=
  ⟨r, _, Pref P 0, A, Z, sr, hF, (hc.setx (hc.2.2.2.2.2.2.1) P.2.2.1 (upd P.2.2.2.1 0 (P.2.2.2.1 0 + 1))).ci, Mk.setx _ _ _, RmK.refl M Z sr, fun N sc lg ar en hm => ⟨sc, lg, mref ar 0, en, hG N sc lg ar en hm, hm.ref 0⟩⟩
theorem St.no {R : Type} {F G : zMe → Option (R × zMe)} (hc : CJ M x P A Z sr h d f tx fi) {r : R} (hF : F M = some (r, zSet M x (.inr (11, xo x h (nI P.2.1) P.2.2.1.1 P.2.2.1.2 (P.2.2.2.1 0) (P.2.2.2.1 1 + 1) (P.2.2.2.1 2))))) (hG : ∀ N sc lg ar en, ML P sc lg ar → G (mmk N (x + 31) sc lg ar en) = some (r, mmk N (x + 31) sc lg (mref ar 1) en)) : St M x P A Z sr F G :=
  ⟨r, _, Pref P 1, A, Z, sr, hF, (hc.setx (hc.2.2.2.2.2.2.1) P.2.2.1 (upd P.2.2.2.1 1 (P.2.2.2.1 1 + 1))).ci, Mk.setx _ _ _, RmK.refl M Z sr, fun N sc lg ar en hm => ⟨sc, lg, mref ar 1, en, hG N sc lg ar en hm, hm.ref 1⟩⟩
theorem St.full {R : Type} {F G : zMe → Option (R × zMe)} (hc : CJ M x P A Z sr h d f tx fi) {r : R} (hF : F M = some (r, zSet M x (.inr (11, xo x h (nI P.2.1) P.2.2.1.1 P.2.2.1.2 (P.2.2.2.1 0) (P.2.2.2.1 1) (P.2.2.2.1 2 + 1))))) (hG : ∀ N sc lg ar en, ML P sc lg ar → G (mmk N (x + 31) sc lg ar en) = some (r, mmk N (x + 31) sc lg (mref ar 2) en)) : St M x P A Z sr F G :=
  ⟨r, _, Pref P 2, A, Z, sr, hF, (hc.setx (hc.2.2.2.2.2.2.1) P.2.2.1 (upd P.2.2.2.1 2 (P.2.2.2.1 2 + 1))).ci, Mk.setx _ _ _, RmK.refl M Z sr, fun N sc lg ar en hm => ⟨sc, lg, mref ar 2, en, hG N sc lg ar en hm, hm.ref 2⟩⟩
/-- the hill's numbers are written -/
theorem CJ.seth (hc : CJ M x P A Z sr h d f tx fi) {B' : Nat → Nat} (hW : WB B') (hB : ∀ k, k < B' 6 → k < P.1 6 ∧ dg B' k = dg P.1 k) : CJ (zSet M h (.inr (2, ho (nB B') d))) x (B', P.2) A Z sr h d f tx fi ∧ Mk M (zSet M h (.inr (2, ho (nB B') d))) x := by
  obtain ⟨c1, c2, c3, c4, c5, c6, c7, c8, c9, c10⟩ := hc
  obtain ⟨l1, l2, l3, l4, l5, l6, l7, l8, l9⟩ := c2
  have hne : d ≠ h := fun z => by rw [z, l1] at l3; simp [dgA] at l3
  have hdn : ∀ a D, Dg M x a D → D 0 ≤ 4 → a ≠ h := fun a D hd h4 z => by
    have := hd.1
    rw [z, l1] at this
    injection this with this
    simp only [dogCell, Sum.inr.injEq, Prod.mk.injEq] at this
    have := dogCl_in h4
    have e := (show (2 : Nat) = dogCl (D 0) by omega)
    rw [← e] at this
    exact absurd this (by decide)
  have kd : ∀ a D, Dg M x a D → D 0 ≤ 4 → Dg (zSet M h (.inr (2, ho (nB B') d))) x a D := fun a D hd h4 => ⟨by rw [zS_n _ _ (hdn a D hd h4)]; exact hd.1, hd.2⟩
  refine ⟨⟨by rw [zS_n _ _ (by omega)]; exact c1, ⟨zS_s _ _ _, hW, by rw [zS_n _ _ hne]; exact l3, fun k hk => ?_, fun k hk a ha => ?_, l6, l7, l8, l9⟩, by rw [zS_n _ _ (by omega)]; exact c3, fun i hi => ?_, by rw [zS_n _ _ (by omega)]; exact c5, c6, c7, c8.kept (fun q a b => zS_n _ _ (by omega)) (fun i hi => zS_n _ _ (Ne.symm (c8.ne l1 (ne_ho _ _) i hi))) (Nat.le_refl _), c9, fun q hq => ?_⟩, fun q q1 q2 => zS_n _ _ (by omega)⟩
  · obtain ⟨k1, k2⟩ := hB k hk
    obtain ⟨a, a1, a2⟩ := l4 k k1
    have k2' : dg B' k = dg P.1 k := k2
    exact ⟨a, a1, by rw [k2']; exact kd a _ a2 (l2.dw k k1).1⟩
  · obtain ⟨D, D1, D2⟩ := l5 k hk a ha
    exact ⟨D, D1, kd a D D2 D1⟩
  · rcases c4 i hi with z | ⟨a, e, g, y1, y2, y3, y4, y5⟩
    · exact Or.inl z
    · refine Or.inr ⟨a, e, g, y1, y2, ?_, y4, y5⟩
      obtain ⟨m1, m2, m3, m4, m5, m6, m7, m8, m9⟩ := y3
      have hne2 : e ≠ h := fun z => by rw [z, l1] at m3; simp [dgA] at m3
      refine ⟨by rw [zS_n _ _ y4]; exact m1, m2, by rw [zS_n _ _ hne2]; exact m3, fun k hk => ?_, fun k hk a ha => ?_, m6, m7, m8, m9⟩
      · obtain ⟨a, a1, a2⟩ := m4 k hk
        exact ⟨a, a1, kd a _ a2 (m2.dw k hk).1⟩
      · obtain ⟨D, D1, D2⟩ := m5 k hk a ha
        exact ⟨D, D1, kd a D D2 D1⟩
  · have hq' : M.2.1 ≤ q := hq
    rw [zS_n _ _ (by omega)]; exact c10 q hq'
theorem ML.book {sc : Nat → Int32} {lg : Nat → Int64} {ar : Nat → Nat → Int32} (hm : ML P sc lg ar) {B' : Nat → Nat} {bk' : Nat → Int32} (hB : Bk bk' B') (hW : WB B') : ML (B', P.2) sc lg (updA ar 0 bk') := by
  obtain ⟨h1, h2, h3, h4, h5, h6, h7, h8, h9, h10, h11, h12⟩ := hm
  refine ⟨by rw [updA_s]; exact hB, hW, h3, h4, h5, h6, by rw [updA_n _ _ (by decide)]; exact h7, by rw [updA_n _ _ (by decide)]; exact h8, by rw [updA_n _ _ (by decide)]; exact h9, by rw [updA_n _ _ (by decide)]; exact h10, ?_, ?_⟩
  · rw [updA_n _ _ (by decide), updA_n _ _ (by decide)]; exact h11
  · rw [updA_n _ _ (by decide), updA_n _ _ (by decide)]; exact h12
theorem dg_up {B : Nat → Nat} {i v : Nat} (hi : i < 7) (e : Nat) : dg (upN B i v) e = dg B e := by funext j; exact upN_n _ _ (by omega)
def Bpl (B : Nat → Nat) (n : Nat) : Nat → Nat := fun k => if k = 0 then n else if k = 4 then B 4 else if k = 5 then B 5 else 0
theorem S_places (hc : CJ M x P A Z sr h d f tx fi) (v : Int32) : St M x P A Z sr (f_X11_places x v) (f_X12_places (x + 31) v) := by
  have hl := hc.hl
  have hW := hl.2.1
  rcases zin_r (a := 2) (b := 5) (by omega) (by omega) v with ⟨z1, z2⟩ | ⟨k, k1, k2, rfl⟩
  · have z1' : zin v 2 5 = 0 := z1
    refine St.bad hc (r := -2) ?_ (fun N sc lg ar en hm => ?_)
    · rw [c_places hc.1 hl.1, if_pos]
      rcases z2 with z | z
      · exact Or.inl z
      · exact Or.inr (Int32.not_le.mpr z)
    · rw [m_places, if_pos z1']
  · have hWB : WB (Bpl P.1 k) := ⟨k1, k2, (by show 0 < 2 ^ k; exact Nat.two_pow_pos k), (by show 0 < k; omega), (by show 0 < 2 ^ k; exact Nat.two_pow_pos k), hW.b4, hW.b5, (by show 0 ≤ 3; omega), fun d hd => absurd hd (by show ¬ d < 0; omega)⟩
    obtain ⟨g1, g2⟩ := hc.seth hWB (fun k hk => absurd hk (by show ¬ k < 0; omega))
    have eh : ho (bset (nB P.1) (nI k)) d = ho (nB (Bpl P.1 k)) d := rfl
    refine ⟨nI (P.1 0), _, (Bpl P.1 k, P.2), A, Z, sr, ?_, g1.ci, g2, RmK.refl M Z sr, fun N sc lg ar en hm => ⟨sc, lg, updA ar 0 (bplaces (ar 0) (nI k)), en, ?_, hm.book (fun j hj => ?_) hWB⟩⟩
    · rw [c_places hc.1 hl.1, if_neg, eh]
      · rfl
      · rintro (o | o)
        · exact nI_nlt (a := k) (b := 2) k1 (by omega) o
        · exact o (nI_le (a := k) (b := 5) k2 (by omega))
    · rw [m_places, if_neg (by rw [show zin (nI k) 2 5 = 1 from zin_k (a := 2) (b := 5) (by omega) k1 k2]; decide), hm.1 0 (by omega)]
    · have h4 := hm.1 4 (by omega)
      have h5 := hm.1 5 (by omega)
      unfold bplaces Bpl
      by_cases e5 : j = 5
      · rw [e5, up_s, h5]; rfl
      · rw [up_n _ _ e5]
        by_cases e4 : j = 4
        · rw [e4, up_s, h4]; rfl
        · rw [up_n _ _ e4]
          by_cases e0 : j = 0
          · rw [e0, up_s]; rfl
          · rw [up_n _ _ e0, fil, if_pos (by omega), if_neg e0, if_neg e4, if_neg e5]; rfl
theorem S_shut (hc : CJ M x P A Z sr h d f tx fi) (v : Int32) {is : Int32} (his : is = 0 ∨ is = 1) : St M x P A Z sr (f_X11_shut x v is) (f_X12_shut (x + 31) v is) := by
  have hl := hc.hl
  have hW := hl.2.1
  have hn5 := hW.n5
  have hs32 := hW.sh32
  rcases zin_case (n := P.1 0) (by omega) v with ⟨z1, z2⟩ | ⟨k, k1, rfl⟩
  · refine St.bad hc (r := -2) ?_ (fun N sc lg ar en hm => ?_)
    · rw [c_shut hc.1 hl.1, if_pos]
      unfold cpl
      rcases z2 with z | z
      · rw [if_pos z]
      · show (if v < 0 then 0 else if nI (P.1 0) ≤ v then 0 else 1) = 0
        rw [if_pos z]
        split <;> rfl
    · rw [m_shut, hm.1 0 (by omega), if_pos z1]
  · have ec : chold (nI (P.1 1)) (nI k) = if (P.1 1).testBit k then 1 else 0 := n_hold (by omega) (by omega)
    have em : (if ((nI (P.1 1) >>> (nI k &&& 31)) &&& 1) = 1 then (1 : Int32) else 0) = if (P.1 1).testBit k then 1 else 0 := by
      by_cases hb : (P.1 1).testBit k = true
      · rw [if_pos ((n_bit1 (by omega) (by omega)).mpr hb), if_pos hb]
      · rw [if_neg (fun z => hb ((n_bit1 (by omega) (by omega)).mp z)), if_neg hb]
    have c0 : ¬ cpl (nB P.1 0) (nI k) = 0 := by
      show ¬ cpl (nI (P.1 0)) (nI k) = 0
      rw [cpl_ok k1 (by omega)]; decide
    by_cases hi : (if (P.1 1).testBit k then (1 : Int32) else 0) = is
    · refine St.no hc (r := -3) ?_ (fun N sc lg ar en hm => ?_)
      · rw [c_shut hc.1 hl.1, if_neg c0, if_pos]
        exact ec.trans hi
      · rw [m_shut, hm.1 0 (by omega), hm.1 1 (by omega), if_neg (by rw [zin_n (by omega) k1]; decide), em, if_pos hi]
    · have hx : nI (P.1 1) ^^^ ((1 : Int32) <<< (nI k &&& 31)) = nI (P.1 1 ^^^ 2 ^ k) := by rw [n_sh1 (by omega), n_xor]
      have hWB : WB (upN P.1 1 (P.1 1 ^^^ 2 ^ k)) := ⟨hW.n2, hW.n5, (by show P.1 1 ^^^ 2 ^ k < 2 ^ P.1 0; exact Nat.xor_lt_two_pow hW.sh (Nat.pow_lt_pow_right (by decide) k1)), hW.go, hW.ba, hW.b4, hW.b5, hW.nd, fun e he => by
        rw [dg_up (by omega)]
        exact hW.dw e he⟩
      obtain ⟨g1, g2⟩ := hc.seth hWB (fun k hk => ⟨hk, by funext j; exact upN_n _ _ (by omega)⟩)
      refine ⟨1, _, (upN P.1 1 (P.1 1 ^^^ 2 ^ k), P.2), A, Z, sr, ?_, g1.ci, g2, RmK.refl M Z sr, fun N sc lg ar en hm => ⟨sc, lg, updA ar 0 (upd (ar 0) 1 (nI (P.1 1 ^^^ 2 ^ k))), en, ?_, hm.book (fun j hj => ?_) hWB⟩⟩
      · rw [c_shut hc.1 hl.1, if_neg c0, if_neg]
        · show some (1, zSet M h (.inr (2, ho (upd (nB P.1) 1 (nI (P.1 1) ^^^ ((1 : Int32) <<< (nI k &&& 31)))) d))) = _
          rw [hx]
          rfl
        · intro z
          exact hi (ec.symm.trans z)
      · rw [m_shut, hm.1 0 (by omega), hm.1 1 (by omega), if_neg (by rw [zin_n (by omega) k1]; decide), em, if_neg hi, hx]
      · by_cases e : j = 1
        · rw [e, up_s, upN_s]
        · rw [up_n _ _ e, upN_n _ _ e]; exact hm.1 j hj
theorem S_clear (hc : CJ M x P A Z sr h d f tx fi) : St M x P A Z sr (f_X11_clear x) (f_X12_clear (x + 31)) := by
  have g := hc.setx (L' := 0) (by omega) P.2.2.1 P.2.2.2.1
  refine ⟨nI P.2.1, _, _, A, Z, sr, c_clear hc.1, g.ci, Mk.setx _ _ _, RmK.refl M Z sr, fun N sc lg ar en hm => ⟨upd sc 0 0, lg, ar, en, ?_, ?_⟩⟩
  · rw [m_clear, hm.2.2.1]
  · obtain ⟨h1, h2, h3, h4, h5⟩ := hm
    exact ⟨h1, h2, up_s _ _ _, by show 0 ≤ 200; omega, h5⟩
theorem S_part (hc : CJ M x P A Z sr h d f tx fi) (w : Int32) : St M x P A Z sr (f_X11_part x w) (f_X12_part (x + 31) w) := by
  by_cases h0 : w = 0
  · subst h0
    refine St.same hc (r := P.2.2.1.1) ?_ (fun N sc lg ar en hm => ?_)
    · rw [c_part hc.1, if_neg (by decide), if_pos rfl]
    · rw [m_part, if_pos rfl, hm.2.2.2.2.1]
  · by_cases h1 : w = 1
    · subst h1
      refine St.same hc (r := P.2.2.1.2) ?_ (fun N sc lg ar en hm => ?_)
      · rw [c_part hc.1, if_neg (by decide), if_neg (by decide)]
      · rw [m_part, if_neg (by decide), if_pos rfl, hm.2.2.2.2.2.1]
    · refine St.bad hc (r := -2) ?_ (fun N sc lg ar en hm => ?_)
      · rw [c_part hc.1, if_pos]
        rcases zin_r (a := 0) (b := 1) (by omega) (by omega) w with ⟨-, z⟩ | ⟨k, -, k2, rfl⟩
        · rcases z with z | z
          · exact Or.inl z
          · exact Or.inr (Int32.not_le.mpr z)
        · exfalso
          rcases (show k = 0 ∨ k = 1 by omega) with rfl | rfl
          · exact h0 rfl
          · exact h1 rfl
      · rw [m_part, if_neg h0, if_neg h1]
theorem S_status (hc : CJ M x P A Z sr h d f tx fi) (w : Int32) : St M x P A Z sr (f_X11_status x w) (f_X12_status (x + 31) w) := by
  by_cases hz : zin w 0 2 = 0
  · refine St.bad hc (r := -1) ?_ (fun N sc lg ar en hm => by rw [m_status, if_pos hz])
    rw [c_status hc.1, if_neg (fun e => by subst e; exact absurd hz (by decide)), if_neg (fun e => by subst e; exact absurd hz (by decide)), if_neg (fun e => by subst e; exact absurd hz (by decide))]
  · rcases zin02 hz with rfl | rfl | rfl
    · refine St.same hc (r := P.2.2.2.1 0) (by rw [c_status hc.1, if_pos rfl]) (fun N sc lg ar en hm => by rw [m_status, if_neg hz, hm.2.2.2.2.2.2.1]; rfl)
    · refine St.same hc (r := P.2.2.2.1 1) (by rw [c_status hc.1, if_neg (by decide), if_pos rfl]) (fun N sc lg ar en hm => by rw [m_status, if_neg hz, hm.2.2.2.2.2.2.1]; rfl)
    · refine St.same hc (r := P.2.2.2.1 2) (by rw [c_status hc.1, if_neg (by decide), if_neg (by decide), if_pos rfl]) (fun N sc lg ar en hm => by rw [m_status, if_neg hz, hm.2.2.2.2.2.2.1]; rfl)
theorem S_count (hc : CJ M x P A Z sr h d f tx fi) (w : Int32) : St M x P A Z sr (f_X11_count x w) (f_X12_count (x + 31) w) := by
  have hl := hc.hl
  have hs := hl.2.1.sh32
  by_cases hz : zin w 0 3 = 0
  · exact St.bad hc (r := -2) (by rw [c_count hc.1 hl.1 hs, if_pos hz]) (fun N sc lg ar en hm => by rw [m_count, if_pos hz])
  · exact St.same hc (by rw [c_count hc.1 hl.1 hs, if_neg hz]) (fun N sc lg ar en hm => by rw [m_count, if_neg hz, hm.1 0 (by omega), hm.1 6 (by omega), hm.1 1 (by omega), hm.2.2.1])
theorem CJ.dogs (hc : CJ M x P A Z sr h d f tx fi) : ∀ k, k < P.1 6 → ∃ a, f k = some a ∧ M.1 a = some (dogCell (dg P.1 k)) := fun k hk => by
  obtain ⟨a, a1, a2⟩ := hc.hl.2.2.2.1 k hk
  exact ⟨a, a1, a2.1⟩
theorem S_digest (hc : CJ M x P A Z sr h d f tx fi) : St M x P A Z sr (f_X11_digest x) (f_X12_digest (x + 31)) := by
  have hl := hc.hl
  exact St.same hc (c_digest hc.1 hl.1 hl.2.2.1 hl.2.1 hc.dogs) (fun N sc lg ar en hm => by rw [m_digest hm.1 hm.2.1, hm.2.2.1, hm.2.2.2.2.1, hm.2.2.2.2.2.1])
end ST
