/-! THE LAW'S LOOP -/
theorem MF.mk (N : zMe) (m : Nat) (sc : Nat → Int32) (lg : Nat → Int64) (ar : Nat → Nat → Int32) (en : Nat → Int64) : MF (mmk N m sc lg ar en) m sc lg ar en := ⟨mm_at, mm_at1, mm_at2, mm_at3, mm_at4, mm_at5, mm_at6, mm_at7, mm_at8, mm_at9, mm_at10, mm_at11, mm_at12⟩
theorem MF.kept {M M' : zMe} {m : Nat} {sc : Nat → Int32} {lg : Nat → Int64} {ar : Nat → Nat → Int32} {en : Nat → Int64} (h : MF M m sc lg ar en) (hq : ∀ q, m ≤ q → q ≤ m + 12 → M'.1 q = M.1 q) : MF M' m sc lg ar en := by
  obtain ⟨h0, h1, h2, h3, h4, h5, h6, h7, h8, h9, h10, h11, h12⟩ := h
  have k : ∀ j, j ≤ 12 → M'.1 (m + j) = M.1 (m + j) := fun j hj => hq _ (by omega) (by omega)
  exact ⟨by rw [hq m (by omega) (by omega)]; exact h0, by rw [k 1 (by omega)]; exact h1, by rw [k 2 (by omega)]; exact h2, by rw [k 3 (by omega)]; exact h3, by rw [k 4 (by omega)]; exact h4, by rw [k 5 (by omega)]; exact h5, by rw [k 6 (by omega)]; exact h6, by rw [k 7 (by omega)]; exact h7, by rw [k 8 (by omega)]; exact h8, by rw [k 9 (by omega)]; exact h9, by rw [k 10 (by omega)]; exact h10, by rw [k 11 (by omega)]; exact h11, by rw [k 12 (by omega)]; exact h12⟩
/-- the reference's cells are none of the class's -/
theorem CI.ovl {M M' : zMe} {x : Nat} {P : PS} {A Z : Nat → Nat} {sr : Nat} (h : CI M x P A Z sr) (hq : ∀ q, q < x + 31 ∨ x + 43 < q → M'.1 q = M.1 q) (h2 : M'.2 = M.2) : CI M' x P A Z sr := by
  obtain ⟨hh, d, f, tx, fi, c1, c2, c3, c4, c5, c6, c7, c8, c9, c10⟩ := h
  have m21 : M'.2.1 = M.2.1 := by rw [h2]
  have hk : ∀ {h1 d1 : Nat} {B : Nat → Nat} {f : Nat → Option Nat}, Hl M x h1 d1 B f → Hl M' x h1 d1 B f := fun hl => by
    have := hl.2.2.2.2.2
    exact hl.keep (by omega) (hq _ (by omega)) (hq _ (by omega)) (fun a D hd => hq a (by have := hd.2.1; omega))
  refine ⟨hh, d, f, tx, fi, by rw [hq x (by omega)]; exact c1, hk c2, by rw [hq _ (by omega)]; exact c3, fun i hi => ?_, by rw [hq _ (by omega)]; exact c5, c6, c7, c8.kept (fun q a b => hq q (by omega)) (fun i hi => hq _ (by have := c8.2.2.2.2.2.2.2 i hi; omega)) (by omega), by omega, fun q hq' => ?_⟩
  · rcases c4 i hi with z | ⟨a, e, g, y1, y2, y3, y4⟩
    · exact Or.inl z
    · exact Or.inr ⟨a, e, g, y1, y2, hk y3, y4⟩
  · rw [hq q (by omega)]; exact c10 q (by omega)
/-- both objects, as the law has them -/
def LJ (M : zMe) (x : Nat) (Z : Nat → Nat) (sr : Nat) : Prop := ∃ P A sc lg ar en, CI M x P A Z sr ∧ MF M (x + 31) sc lg ar en ∧ ML P sc lg ar
theorem law_two {R : Type} {F G : zMe → Option (R × zMe)} {M : zMe} {x : Nat} {Z : Nat → Nat} {sr : Nat} (h : LJ M x Z sr) (hS : ∀ {P : PS} {A : Nat → Nat} {h d : Nat} {f : Nat → Option Nat} {tx : Nat → Int32} {fi : Nat → Option Nat}, CJ M x P A Z sr h d f tx fi → St M x P A Z sr F G) : ∃ r M1 M2 Z' sr', F M = some (r, M1) ∧ G M1 = some (r, M2) ∧ zob M x 11 = some () ∧ zob M1 (x + 31) 12 = some () ∧ LJ M2 x Z' sr' ∧ RmK M M2 Z Z' sr sr' := by
  obtain ⟨P, A, sc, lg, ar, en, ⟨hh, d, f, tx, fi, hc⟩, hM, hL⟩ := h
  have hc : CJ M x P A Z sr hh d f tx fi := hc
  obtain ⟨r, M1, P', A', Z', sr', e1, e2, e3, e4, e5⟩ := hS hc
  obtain ⟨sc', lg', ar', en', g1, g2⟩ := e5 M1 sc lg ar en hL
  have hM1 : MF M1 (x + 31) sc lg ar en := hM.kept (fun q a b => e3 q a (by omega))
  rw [mm_self hM1] at g1
  exact ⟨r, M1, mmk M1 (x + 31) sc' lg' ar' en', Z', sr', e1, g1, c_obx hc.1, by simp [zob, hM1.1], ⟨P', A', sc', lg', ar', en', e2.ovl (fun q hq => mm_out (by omega)) rfl, MF.mk _ _ _ _ _ _, g2⟩, e4⟩
theorem LJ.z {M : zMe} {x : Nat} {Z : Nat → Nat} {sr : Nat} (h : LJ M x Z sr) : Z 0 + Z 1 + Z 2 ≤ 393216 := by
  obtain ⟨P, A, sc, lg, ar, en, ⟨hh, d, f, tx, fi, c1, c2, c3, c4, c5, c6, c7, c8, c9, c10⟩, -⟩ := h
  obtain ⟨⟨J, I, fe, fl, fs, v, r0, r1, r2, r3, r4, r5, r6, r7, r8, r9, r10, r11⟩, -⟩ := c8
  have a := (r6 0 (by omega)).lt
  have b := (r6 1 (by omega)).lt
  have c := (r6 2 (by omega)).lt
  omega
theorem zx_at {sn i : Nat} {xs : Nat → Int32} (h : i < sn) (hs : sn < 2 ^ 31) : zxs sn xs (nI i) = some (xs i) := by
  unfold zxs
  rw [nI_clamp (by omega), if_neg (fun o => o.elim (nI_pos (by omega)) (by omega))]
theorem sn7_neg : ∀ n, n < 7 → nI n - 7 < 0 := by decide +kernel
theorem sn7_lt {sn j : Nat} (hs : sn ≤ 448) (h : sn < 7 * j + 7) (hj : j ≤ 64) : (Int32.ofNat sn) - 7 < nI (7 * j) := by
  show nI sn - 7 < nI (7 * j)
  by_cases c : sn < 7
  · exact Int32.lt_of_lt_of_le (sn7_neg sn c) (Int32.not_lt.mp (nI_pos (by omega)))
  · have e : nI sn - 7 = nI (sn - 7) := n_subz (b := 7) (by omega)
    rw [e]
    exact nI_lt (by omega) (by omega)
theorem sn7_nlt {sn j : Nat} (hs : sn ≤ 448) (h : 7 * j + 7 ≤ sn) : ¬ (Int32.ofNat sn) - 7 < nI (7 * j) := by
  show ¬ nI sn - 7 < nI (7 * j)
  have e : nI sn - 7 = nI (sn - 7) := n_subz (b := 7) (by omega)
  rw [e]
  exact nI_nlt (by omega) (by omega)
set_option maxHeartbeats 8000000 in
set_option maxRecDepth 100000 in
theorem law_loop {sa : Nat → Nat} (hZ : ZS sa) {sn : Nat} (hsn : sn ≤ 448) {xs : Nat → Int32} {x base : Nat} : ∀ (n fu j : Nat) (M : zMe) (Z : Nat → Nat) (sr : Nat), 64 - j ≤ n → n < fu → j ≤ 64 → LJ M x Z sr → sr ≤ 200 * j → M.2.1 ≤ base + 44 + 16 * j + (Z 0 + Z 1 + Z 2) → M.2.2 ≤ 140000 + 64 * j + 2 * (Z 0 + Z 1 + Z 2) → ∃ M2, f_L_law_b18 sa sn xs fu x (x + 31) (nI (7 * j)) M = some (1, M2) ∧ M2.2.1 ≤ base + 600000 ∧ M2.2.2 ≤ 7302250
  | n, 0, j, M, Z, sr, h1, h2, _, _, _, _, _ => by omega
  | n, fu + 1, j, M, Z, sr, h1, h2, hj, hJ, hsr, hm1, hm2 => by
    have hz := hJ.z
    rw [f_L_law_b18]
    by_cases hlt : sn < 7 * j + 7
    · rw [if_pos (sn7_lt hsn hlt hj)]
      exact ⟨M, rfl, by omega, by omega⟩
    have hle : 7 * j + 7 ≤ sn := by omega
    have fin : ∀ (M2 : zMe) (Z' : Nat → Nat) (sr' : Nat), LJ M2 x Z' sr' → RmK M M2 Z Z' sr sr' → ∃ M3, f_L_law_b1080 sa sn xs (f_L_law_b18 sa sn xs fu) x (x + 31) (nI (7 * j)) M2 = some (1, M3) ∧ M3.2.1 ≤ base + 600000 ∧ M3.2.2 ≤ 7302250 := fun M2 Z' sr' hL hR => by
      obtain ⟨q1, q2, q3⟩ := hR
      have e7 : nI (7 * j) + 7 = nI (7 * (j + 1)) := by rw [show (7 : Int32) = nI 7 from rfl, nI_add]; rfl
      rw [f_L_law_b1080, e7, zlet]
      exact law_loop hZ hsn (n - 1) fu (j + 1) M2 Z' sr' (by omega) (by omega) (by omega) hL (by omega) (by omega) (by omega)
    have z0 : zxs sn xs (nI (7 * j)) = some (xs (7 * j)) := zx_at (by omega) (by omega)
    have z1 : zxs sn xs (nI (7 * j) + 1) = some (xs (7 * j + 1)) := by rw [show nI (7 * j) + 1 = nI (7 * j + 1) from nI_add _ 1]; exact zx_at (by omega) (by omega)
    have z2 : zxs sn xs (nI (7 * j) + 2) = some (xs (7 * j + 2)) := by rw [show nI (7 * j) + 2 = nI (7 * j + 2) from nI_add _ 2]; exact zx_at (by omega) (by omega)
    have z3 : zxs sn xs (nI (7 * j) + 3) = some (xs (7 * j + 3)) := by rw [show nI (7 * j) + 3 = nI (7 * j + 3) from nI_add _ 3]; exact zx_at (by omega) (by omega)
    have z4 : zxs sn xs (nI (7 * j) + 4) = some (xs (7 * j + 4)) := by rw [show nI (7 * j) + 4 = nI (7 * j + 4) from nI_add _ 4]; exact zx_at (by omega) (by omega)
    have z5 : zxs sn xs (nI (7 * j) + 5) = some (xs (7 * j + 5)) := by rw [show nI (7 * j) + 5 = nI (7 * j + 5) from nI_add _ 5]; exact zx_at (by omega) (by omega)
    have z6 : zxs sn xs (nI (7 * j) + 6) = some (xs (7 * j + 6)) := by rw [show nI (7 * j) + 6 = nI (7 * j + 6) from nI_add _ 6]; exact zx_at (by omega) (by omega)
    rw [if_neg (sn7_nlt hsn hle), z0, Option.bind_some]
    by_cases c0 : (xs (7 * j) &&& 31) = 0
    · obtain ⟨r, M1, M2, Z2, sr2, eF, eG, o1, o2, hL, hR⟩ := law_two hJ (fun hc => S_places hc (xs (7 * j + 1)))
      rw [if_pos c0, z1, Option.bind_some, o1, Option.bind_some, eF, Option.bind_some, Option.bind_some, o2, Option.bind_some, eG, Option.bind_some, if_pos rfl]
      exact fin M2 Z2 sr2 hL hR
    · rw [if_neg c0]
      by_cases c1 : (xs (7 * j) &&& 31) = 1
      · obtain ⟨r, M1, M2, Z2, sr2, eF, eG, o1, o2, hL, hR⟩ := law_two hJ (fun hc => S_dog hc (xs (7 * j + 1)) (xs (7 * j + 2)) (xs (7 * j + 3)))
        rw [if_pos c1, z1, z2, z3, Option.bind_some, Option.bind_some, Option.bind_some, o1, Option.bind_some, eF, Option.bind_some, Option.bind_some, Option.bind_some, Option.bind_some, o2, Option.bind_some, eG, Option.bind_some, if_pos rfl]
        exact fin M2 Z2 sr2 hL hR
      · rw [if_neg c1]
        by_cases c2 : (xs (7 * j) &&& 31) = 2
        · obtain ⟨r, M1, M2, Z2, sr2, eF, eG, o1, o2, hL, hR⟩ := law_two hJ (fun hc => S_pup hc (xs (7 * j + 1)) (xs (7 * j + 2)) (xs (7 * j + 3)) (xs (7 * j + 4)) (xs (7 * j + 5)) (xs (7 * j + 6)))
          rw [if_pos c2, z1, z2, z3, z4, z5, z6, Option.bind_some, Option.bind_some, Option.bind_some, Option.bind_some, Option.bind_some, Option.bind_some, o1, Option.bind_some, eF, Option.bind_some, Option.bind_some, Option.bind_some, Option.bind_some, Option.bind_some, Option.bind_some, Option.bind_some, o2, Option.bind_some, eG, Option.bind_some, if_pos rfl]
          exact fin M2 Z2 sr2 hL hR
        · rw [if_neg c2]
          by_cases c3 : (xs (7 * j) &&& 31) = 3
          · rw [if_pos c3, z1, z2, Option.bind_some, Option.bind_some]
            by_cases q : xs (7 * j + 2) = 0
            · obtain ⟨r, M1, M2, Z2, sr2, eF, eG, o1, o2, hL, hR⟩ := law_two hJ (fun hc => S_shut hc (xs (7 * j + 1)) (is := 0) (Or.inl rfl))
              rw [if_pos q, f_L_law_b312, o1, Option.bind_some, eF, Option.bind_some, z1, z2, Option.bind_some, Option.bind_some, if_pos q, f_L_law_b334, o2, Option.bind_some, eG, Option.bind_some, if_pos rfl]
              exact fin M2 Z2 sr2 hL hR
            · obtain ⟨r, M1, M2, Z2, sr2, eF, eG, o1, o2, hL, hR⟩ := law_two hJ (fun hc => S_shut hc (xs (7 * j + 1)) (is := 1) (Or.inr rfl))
              rw [if_neg q, f_L_law_b312, o1, Option.bind_some, eF, Option.bind_some, z1, z2, Option.bind_some, Option.bind_some, if_neg q, f_L_law_b334, o2, Option.bind_some, eG, Option.bind_some, if_pos rfl]
              exact fin M2 Z2 sr2 hL hR
          · rw [if_neg c3]
            by_cases c4 : (xs (7 * j) &&& 31) = 4
            · obtain ⟨r, M1, M2, Z2, sr2, eF, eG, o1, o2, hL, hR⟩ := law_two hJ (fun hc => S_put hc (xs (7 * j + 1)) (xs (7 * j + 2)))
              rw [if_pos c4, z1, z2, Option.bind_some, Option.bind_some, o1, Option.bind_some, eF, Option.bind_some, Option.bind_some, Option.bind_some, o2, Option.bind_some, eG, Option.bind_some, if_pos rfl]
              exact fin M2 Z2 sr2 hL hR
            · rw [if_neg c4]
              by_cases c5 : (xs (7 * j) &&& 31) = 5
              · obtain ⟨r, M1, M2, Z2, sr2, eF, eG, o1, o2, hL, hR⟩ := law_two hJ (fun hc => S_type hc (((xs (7 * j + 1)).toInt64 <<< ((32 : Int32).toInt64 &&& 63)) ||| ((xs (7 * j + 2)).toInt64 &&& (4294967295 : Int64))) (xs (7 * j + 3)))
                rw [if_pos c5, z1, z2, z3, Option.bind_some, Option.bind_some, Option.bind_some, o1, Option.bind_some, eF, Option.bind_some, Option.bind_some, Option.bind_some, Option.bind_some, o2, Option.bind_some, eG, Option.bind_some, if_pos rfl]
                exact fin M2 Z2 sr2 hL hR
              · rw [if_neg c5]
                by_cases c6 : (xs (7 * j) &&& 31) = 6
                · obtain ⟨r, M1, M2, Z2, sr2, eF, eG, o1, o2, hL, hR⟩ := law_two hJ (fun hc => S_clear hc)
                  rw [if_pos c6, o1, Option.bind_some, eF, Option.bind_some, o2, Option.bind_some, eG, Option.bind_some, if_pos rfl]
                  exact fin M2 Z2 sr2 hL hR
                · rw [if_neg c6]
                  by_cases c7 : (xs (7 * j) &&& 31) = 7
                  · obtain ⟨r, M1, M2, Z2, sr2, eF, eG, o1, o2, hL, hR⟩ := law_two hJ (fun hc => S_read hc hZ)
                    rw [if_pos c7, o1, Option.bind_some, eF, Option.bind_some, o2, Option.bind_some, eG, Option.bind_some, if_pos rfl]
                    exact fin M2 Z2 sr2 hL hR
                  · rw [if_neg c7]
                    by_cases c8 : (xs (7 * j) &&& 31) = 8
                    · obtain ⟨r, M1, M2, Z2, sr2, eF, eG, o1, o2, hL, hR⟩ := law_two hJ (fun hc => S_goes hc (xs (7 * j + 1)) (xs (7 * j + 2)) (xs (7 * j + 3)) (xs (7 * j + 4)))
                      rw [if_pos c8, z1, z2, z3, z4, Option.bind_some, Option.bind_some, Option.bind_some, Option.bind_some, o1, Option.bind_some, eF, Option.bind_some, Option.bind_some, Option.bind_some, Option.bind_some, Option.bind_some, o2, Option.bind_some, eG, Option.bind_some, if_pos rfl]
                      exact fin M2 Z2 sr2 hL hR
                    · rw [if_neg c8]
                      by_cases c9 : (xs (7 * j) &&& 31) = 9
                      · obtain ⟨r, M1, M2, Z2, sr2, eF, eG, o1, o2, hL, hR⟩ := law_two hJ (fun hc => S_run hc (xs (7 * j + 1)) (xs (7 * j + 2)) (xs (7 * j + 3)) (xs (7 * j + 4)))
                        rw [if_pos c9, z1, z2, z3, z4, Option.bind_some, Option.bind_some, Option.bind_some, Option.bind_some, o1, Option.bind_some, eF, Option.bind_some, Option.bind_some, Option.bind_some, Option.bind_some, Option.bind_some, o2, Option.bind_some, eG, Option.bind_some, if_pos rfl]
                        exact fin M2 Z2 sr2 hL hR
                      · rw [if_neg c9]
                        by_cases c10 : (xs (7 * j) &&& 31) = 10
                        · obtain ⟨r, M1, M2, Z2, sr2, eF, eG, o1, o2, hL, hR⟩ := law_two hJ (fun hc => S_meets hc (xs (7 * j + 1)) (xs (7 * j + 2)) (xs (7 * j + 3)))
                          rw [if_pos c10, z1, z2, z3, Option.bind_some, Option.bind_some, Option.bind_some, o1, Option.bind_some, eF, Option.bind_some, Option.bind_some, Option.bind_some, Option.bind_some, o2, Option.bind_some, eG, Option.bind_some, if_pos rfl]
                          exact fin M2 Z2 sr2 hL hR
                        · rw [if_neg c10]
                          by_cases c11 : (xs (7 * j) &&& 31) = 11
                          · obtain ⟨r, M1, M2, Z2, sr2, eF, eG, o1, o2, hL, hR⟩ := law_two hJ (fun hc => S_tame hc (by omega) (xs (7 * j + 1)) (xs (7 * j + 2)))
                            rw [if_pos c11, z1, z2, Option.bind_some, Option.bind_some, o1, Option.bind_some, eF, Option.bind_some, Option.bind_some, Option.bind_some, o2, Option.bind_some, eG, Option.bind_some, if_pos rfl]
                            exact fin M2 Z2 sr2 hL hR
                          · rw [if_neg c11]
                            by_cases c12 : (xs (7 * j) &&& 31) = 12
                            · obtain ⟨r, M1, M2, Z2, sr2, eF, eG, o1, o2, hL, hR⟩ := law_two hJ (fun hc => S_quiet hc (by omega) (xs (7 * j + 1)))
                              rw [if_pos c12, z1, Option.bind_some, o1, Option.bind_some, eF, Option.bind_some, Option.bind_some, o2, Option.bind_some, eG, Option.bind_some, if_pos rfl]
                              exact fin M2 Z2 sr2 hL hR
                            · rw [if_neg c12]
                              by_cases c13 : (xs (7 * j) &&& 31) = 13
                              · obtain ⟨r, M1, M2, Z2, sr2, eF, eG, o1, o2, hL, hR⟩ := law_two hJ (fun hc => S_apart hc (xs (7 * j + 1)))
                                rw [if_pos c13, z1, Option.bind_some, o1, Option.bind_some, eF, Option.bind_some, Option.bind_some, o2, Option.bind_some, eG, Option.bind_some, if_pos rfl]
                                exact fin M2 Z2 sr2 hL hR
                              · rw [if_neg c13]
                                by_cases c14 : (xs (7 * j) &&& 31) = 14
                                · obtain ⟨r, M1, M2, Z2, sr2, eF, eG, o1, o2, hL, hR⟩ := law_two hJ (fun hc => S_shuts hc (by omega) (xs (7 * j + 1)))
                                  rw [if_pos c14, z1, Option.bind_some, o1, Option.bind_some, eF, Option.bind_some, Option.bind_some, o2, Option.bind_some, eG, Option.bind_some, if_pos rfl]
                                  exact fin M2 Z2 sr2 hL hR
                                · rw [if_neg c14]
                                  by_cases c15 : (xs (7 * j) &&& 31) = 15
                                  · obtain ⟨r, M1, M2, Z2, sr2, eF, eG, o1, o2, hL, hR⟩ := law_two hJ (fun hc => S_neighbour hc (by omega) (xs (7 * j + 1)) (xs (7 * j + 2)) (xs (7 * j + 3)) (xs (7 * j + 4)))
                                    rw [if_pos c15, z1, z2, z3, z4, Option.bind_some, Option.bind_some, Option.bind_some, Option.bind_some, o1, Option.bind_some, eF, Option.bind_some, Option.bind_some, Option.bind_some, Option.bind_some, Option.bind_some, o2, Option.bind_some, eG, Option.bind_some, if_pos rfl]
                                    exact fin M2 Z2 sr2 hL hR
                                  · rw [if_neg c15]
                                    by_cases c16 : (xs (7 * j) &&& 31) = 16
                                    · obtain ⟨r, M1, M2, Z2, sr2, eF, eG, o1, o2, hL, hR⟩ := law_two hJ (fun hc => S_tells hc (xs (7 * j + 1)) (xs (7 * j + 2)) (xs (7 * j + 3)))
                                      rw [if_pos c16, z1, z2, z3, Option.bind_some, Option.bind_some, Option.bind_some, o1, Option.bind_some, eF, Option.bind_some, Option.bind_some, Option.bind_some, Option.bind_some, o2, Option.bind_some, eG, Option.bind_some, if_pos rfl]
                                      exact fin M2 Z2 sr2 hL hR
                                    · rw [if_neg c16]
                                      by_cases c17 : (xs (7 * j) &&& 31) = 17
                                      · obtain ⟨r, M1, M2, Z2, sr2, eF, eG, o1, o2, hL, hR⟩ := law_two hJ (fun hc => S_which hc (xs (7 * j + 1)) (xs (7 * j + 2)) (xs (7 * j + 3)))
                                        rw [if_pos c17, z1, z2, z3, Option.bind_some, Option.bind_some, Option.bind_some, o1, Option.bind_some, eF, Option.bind_some, Option.bind_some, Option.bind_some, Option.bind_some, o2, Option.bind_some, eG, Option.bind_some, if_pos rfl]
                                        exact fin M2 Z2 sr2 hL hR
                                      · rw [if_neg c17]
                                        by_cases c18 : (xs (7 * j) &&& 31) = 18
                                        · obtain ⟨r, M1, M2, Z2, sr2, eF, eG, o1, o2, hL, hR⟩ := law_two hJ (fun hc => S_starts hc (xs (7 * j + 1)) (xs (7 * j + 2)) (xs (7 * j + 3)) (xs (7 * j + 4)))
                                          rw [if_pos c18, z1, z2, z3, z4, Option.bind_some, Option.bind_some, Option.bind_some, Option.bind_some, o1, Option.bind_some, eF, Option.bind_some, Option.bind_some, Option.bind_some, Option.bind_some, Option.bind_some, o2, Option.bind_some, eG, Option.bind_some, if_pos rfl]
                                          exact fin M2 Z2 sr2 hL hR
                                        · rw [if_neg c18]
                                          by_cases c19 : (xs (7 * j) &&& 31) = 19
                                          · obtain ⟨r, M1, M2, Z2, sr2, eF, eG, o1, o2, hL, hR⟩ := law_two hJ (fun hc => S_drawn hc (xs (7 * j + 1)) (xs (7 * j + 2)) (xs (7 * j + 3)))
                                            rw [if_pos c19, z1, z2, z3, Option.bind_some, Option.bind_some, Option.bind_some, o1, Option.bind_some, eF, Option.bind_some, Option.bind_some, Option.bind_some, Option.bind_some, o2, Option.bind_some, eG, Option.bind_some, if_pos rfl]
                                            exact fin M2 Z2 sr2 hL hR
                                          · rw [if_neg c19]
                                            by_cases c20 : (xs (7 * j) &&& 31) = 20
                                            · obtain ⟨r, M1, M2, Z2, sr2, eF, eG, o1, o2, hL, hR⟩ := law_two hJ (fun hc => S_part hc (xs (7 * j + 1)))
                                              rw [if_pos c20, z1, Option.bind_some, o1, Option.bind_some, eF, Option.bind_some, Option.bind_some, o2, Option.bind_some, eG, Option.bind_some, if_pos (show lg_cmp r r = 0 by rw [lg_c0])]
                                              exact fin M2 Z2 sr2 hL hR
                                            · rw [if_neg c20]
                                              by_cases c21 : (xs (7 * j) &&& 31) = 21
                                              · obtain ⟨r, M1, M2, Z2, sr2, eF, eG, o1, o2, hL, hR⟩ := law_two hJ (fun hc => S_image hc (xs (7 * j + 1)))
                                                rw [if_pos c21, z1, Option.bind_some, o1, Option.bind_some, eF, Option.bind_some, Option.bind_some, o2, Option.bind_some, eG, Option.bind_some, if_pos rfl]
                                                exact fin M2 Z2 sr2 hL hR
                                              · rw [if_neg c21]
                                                by_cases c22 : (xs (7 * j) &&& 31) = 22
                                                · obtain ⟨r, M1, M2, Z2, sr2, eF, eG, o1, o2, hL, hR⟩ := law_two hJ (fun hc => S_from hc (xs (7 * j + 1)))
                                                  rw [if_pos c22, z1, Option.bind_some, o1, Option.bind_some, eF, Option.bind_some, Option.bind_some, o2, Option.bind_some, eG, Option.bind_some, if_pos rfl]
                                                  exact fin M2 Z2 sr2 hL hR
                                                · rw [if_neg c22]
                                                  by_cases c23 : (xs (7 * j) &&& 31) = 23
                                                  · obtain ⟨r, M1, M2, Z2, sr2, eF, eG, o1, o2, hL, hR⟩ := law_two hJ (fun hc => S_status hc (xs (7 * j + 1)))
                                                    rw [if_pos c23, z1, Option.bind_some, o1, Option.bind_some, eF, Option.bind_some, Option.bind_some, o2, Option.bind_some, eG, Option.bind_some, if_pos rfl]
                                                    exact fin M2 Z2 sr2 hL hR
                                                  · rw [if_neg c23]
                                                    by_cases c24 : (xs (7 * j) &&& 31) = 24
                                                    · obtain ⟨r, M1, M2, Z2, sr2, eF, eG, o1, o2, hL, hR⟩ := law_two hJ (fun hc => S_count hc (xs (7 * j + 1)))
                                                      rw [if_pos c24, z1, Option.bind_some, o1, Option.bind_some, eF, Option.bind_some, Option.bind_some, o2, Option.bind_some, eG, Option.bind_some, if_pos rfl]
                                                      exact fin M2 Z2 sr2 hL hR
                                                    · rw [if_neg c24]
                                                      by_cases c25 : (xs (7 * j) &&& 31) = 25
                                                      · obtain ⟨r, M1, M2, Z2, sr2, eF, eG, o1, o2, hL, hR⟩ := law_two hJ (fun hc => S_digest hc)
                                                        rw [if_pos c25, o1, Option.bind_some, eF, Option.bind_some, o2, Option.bind_some, eG, Option.bind_some, if_pos (show lg_cmp r r = 0 by rw [lg_c0])]
                                                        exact fin M2 Z2 sr2 hL hR
                                                      · rw [if_neg c25]
                                                        exact fin M Z sr hJ (RmK.refl _ _ _)
