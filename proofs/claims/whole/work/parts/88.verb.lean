theorem rnz_in (bt : Nat → Int32) (k : Nat) : ∀ n p i, p ≤ i → i < rnz bt k n p → kdz (bt i) = k
  | 0, p, i, h1, h2 => by rw [rnz] at h2; omega
  | n + 1, p, i, h1, h2 => by
    rw [rnz] at h2
    by_cases z : kdz (bt p) = k
    · rw [if_pos z] at h2
      by_cases y : i = p
      · rw [y]; exact z
      · exact rnz_in bt k n (p + 1) i (by omega) h2
    · rw [if_neg z] at h2; omega
theorem tk_in {T : Nat → Int32} {L p : Nat} : ∀ i, tkS T L p ≤ i → i < tkE T L p → kdz (btz T L i) = tkK T L p := by
  intro i h1 h2
  by_cases z : i = tkS T L p
  · rw [z]; rfl
  · unfold tkE at h2
    by_cases c : tkK T L p = 0
    · rw [if_pos c] at h2; omega
    · rw [if_neg c] at h2
      by_cases c1 : tkK T L p = 1 ∨ tkK T L p = 2
      · rw [if_pos c1] at h2
        exact rnz_in _ _ _ _ i (by omega) h2
      · rw [if_neg c1] at h2; omega
theorem n_toL2 : ∀ c, c < 256 → (nI c).toInt64 = lN c := by decide +kernel
section RV
variable {N : zMe} {m : Nat} {sc : Nat → Int32} {lg : Nat → Int64} {ar : Nat → Nat → Int32} {en : Nat → Int64} {a k s l L : Nat} {T : Nat → Int32}
theorem rf_verb (h : TxR sc ar T L) (hk4 : k ≤ 4) (hl : s + l ≤ L) (hin : ∀ i, s ≤ i → i < s + l → kdz (btz T L i) = k) : ∃ v, f_X12_verb m (rfm N m sc lg ar en a k s l) = some (v, rfm N m sc lg ar en a k s l) ∧ ((∃ j, j < 6 ∧ v = nI j ∧ IsW T L k s (s + l) j) ∨ (v = -1 ∧ ∀ j, j < 6 → ¬ IsW T L k s (s + l) j)) := by
  have hL := h.2.1
  rw [f_X12_verb, rf_g10, Option.bind_some]
  by_cases c1 : k = 1
  · subst c1
    rw [if_pos (show nI 1 = 1 from rfl)]
    have hb : ∃ b : Nat → Nat, ∀ i, i < l → 97 ≤ b i ∧ b i ≤ 122 ∧ btz T L (s + i) = nI (b i) := by
      refine ⟨fun i => (btz T L (s + i)).toNatClampNeg, fun i hi => ?_⟩
      obtain ⟨c, e1, e2, e3⟩ := kd_1 (hin (s + i) (by omega) (by omega))
      show 97 ≤ (btz T L (s + i)).toNatClampNeg ∧ (btz T L (s + i)).toNatClampNeg ≤ 122 ∧ btz T L (s + i) = nI (btz T L (s + i)).toNatClampNeg
      rw [e3, nI_clamp (by omega)]
      exact ⟨e1, e2, rfl⟩
    obtain ⟨b, hb⟩ := hb
    obtain ⟨n7, hn7⟩ : ∃ n7, n7 = if l ≤ 7 then l else 7 := ⟨_, rfl⟩
    have hn : n7 ≤ l ∧ n7 ≤ 7 ∧ (n7 < 7 → n7 = l) := by rw [hn7]; split <;> omega
    have hb1 : ∀ i, i < n7 → 1 ≤ b i ∧ b i < 256 := fun i hi => by have := hb i (by omega); omega
    have hV : fz b n7 < 2 ^ 63 := by
      have h1 := fz_lt n7 (fun i hi => (hb1 i hi).2)
      have h2 : 256 ^ n7 ≤ 256 ^ 7 := Nat.pow_le_pow_right (by decide) hn.2.1
      have h3 : (256 : Nat) ^ 7 < 2 ^ 63 := by decide
      omega
    have wi : ∀ j, j < 6 → (fz b n7 = fz (wc j) (wl j) ↔ IsW T L 1 s (s + l) j) := fun j hj => by
      have h7 := wl_7 j hj
      constructor
      · intro z
        obtain ⟨e1, e2⟩ := fz_inj n7 (wl j) hb1 (fun i hi => wc_p hj hi) z
        have el : l = wl j := by omega
        refine ⟨rfl, by omega, fun i hi => ?_⟩
        rw [(hb i (by omega)).2.2, e2 i (by omega)]
      · rintro ⟨-, e1, e2⟩
        have el : l = wl j := by omega
        have en : n7 = wl j := by omega
        rw [en]
        refine fz_cong _ (fun i hi => ?_)
        have q1 := hb i (by omega)
        have q2 := e2 i hi
        have q3 := wc_p hj hi
        rw [q1.2.2] at q2
        exact (nI_eq (by omega) (by omega)).mp q2
    have lp := loopZ (fun fuel j => f_X12_verb_b14 fuel m (lN (fz b j)) (nI j) (rfm N m sc lg ar en a 1 s l)) n7 (f_X12_verb_b52 (lN (fz b n7)) (rfm N m sc lg ar en a 1 s l)) (by omega) (fun fu j hj => ?_) (fun fu => ?_)
    · have lp : f_X12_verb_b14 zfu m (0 : Int64) 0 (rfm N m sc lg ar en a 1 s l) = _ := lp
      rw [lp]
      obtain ⟨w0, w1, w2, w3, w4, w5⟩ := fz_w
      have cmp : ∀ {j : Nat} {c : Nat} {q : Int64} , j < 6 → fz (wc j) (wl j) = c → c < 2 ^ 63 → q = lN c → (lg_cmp (lN (fz b n7)) q = 0 ↔ IsW T L 1 s (s + l) j) := fun {j c q} hj e1 e2 e3 => by
        rw [lg_c0, e3, pk_lEQ hV e2, ← e1]
        exact wi j hj
      have q0 := cmp (j := 0) (q := 123610792682867) (by omega) w0 (by decide) rfl
      have q1 := cmp (j := 1) (q := 1936225652) (by omega) w1 (by decide) rfl
      have q2 := cmp (j := 2) (q := 1735352684) (by omega) w2 (by decide) rfl
      have q3 := cmp (j := 3) (q := 422541683571) (by omega) w3 (by decide) rfl
      have q4 := cmp (j := 4) (q := 108243466679400) (by omega) w4 (by decide) rfl
      have q5 := cmp (j := 5) (q := 6582119) (by omega) w5 (by decide) rfl
      rw [f_X12_verb_b52]
      by_cases y0 : lg_cmp (lN (fz b n7)) 123610792682867 = 0
      · rw [if_pos y0]; exact ⟨0, rfl, Or.inl ⟨0, by omega, rfl, q0.mp y0⟩⟩
      · rw [if_neg y0]
        by_cases y1 : lg_cmp (lN (fz b n7)) 1936225652 = 0
        · rw [if_pos y1]; exact ⟨1, rfl, Or.inl ⟨1, by omega, rfl, q1.mp y1⟩⟩
        · rw [if_neg y1]
          by_cases y2 : lg_cmp (lN (fz b n7)) 1735352684 = 0
          · rw [if_pos y2]; exact ⟨2, rfl, Or.inl ⟨2, by omega, rfl, q2.mp y2⟩⟩
          · rw [if_neg y2]
            by_cases y3 : lg_cmp (lN (fz b n7)) 422541683571 = 0
            · rw [if_pos y3]; exact ⟨3, rfl, Or.inl ⟨3, by omega, rfl, q3.mp y3⟩⟩
            · rw [if_neg y3]
              by_cases y4 : lg_cmp (lN (fz b n7)) 108243466679400 = 0
              · rw [if_pos y4]; exact ⟨4, rfl, Or.inl ⟨4, by omega, rfl, q4.mp y4⟩⟩
              · rw [if_neg y4]
                by_cases y5 : lg_cmp (lN (fz b n7)) 6582119 = 0
                · rw [if_pos y5]; exact ⟨5, rfl, Or.inl ⟨5, by omega, rfl, q5.mp y5⟩⟩
                · rw [if_neg y5]
                  refine ⟨-1, rfl, Or.inr ⟨rfl, fun j hj w => ?_⟩⟩
                  rcases (show j = 0 ∨ j = 1 ∨ j = 2 ∨ j = 3 ∨ j = 4 ∨ j = 5 by omega) with rfl | rfl | rfl | rfl | rfl | rfl
                  · exact y0 (q0.mpr w)
                  · exact y1 (q1.mpr w)
                  · exact y2 (q2.mpr w)
                  · exact y3 (q3.mpr w)
                  · exact y4 (q4.mpr w)
                  · exact y5 (q5.mpr w)
    · show f_X12_verb_b14 (fu + 1) m (lN (fz b j)) (nI j) (rfm N m sc lg ar en a 1 s l) = f_X12_verb_b14 fu m (lN (fz b (j + 1))) (nI (j + 1)) (rfm N m sc lg ar en a 1 s l)
      have q := hb j (by omega)
      rw [f_X12_verb_b14, rf_g12, Option.bind_some, if_neg (nI_ge (by omega) (by omega)), if_neg (show ¬ (7 : Int32) ≤ nI j from nI_ge (b := 7) (by omega) (by omega)), rf_g11, Option.bind_some, rf_ob, Option.bind_some, nI_add, rf_byte h (by omega), Option.bind_some, q.2.2, n_toL2 _ (by omega), show (256 : Int64) * lN (fz b j) = lN (256 * fz b j) from lN_mul 256 _, lN_add, zlet, zlet, nI_1, fz]
    · show f_X12_verb_b14 (fu + 1) m (lN (fz b n7)) (nI n7) (rfm N m sc lg ar en a 1 s l) = _
      rw [f_X12_verb_b14, rf_g12, Option.bind_some]
      by_cases z : l ≤ n7
      · rw [if_pos (nI_le z (by omega))]
      · rw [if_neg (nI_ge (by omega) (by omega)), if_pos (show (7 : Int32) ≤ nI n7 from nI_le (a := 7) (by omega) (by omega))]
  · rw [if_neg (show ¬ nI k = 1 from fun z => c1 ((nI_eq (b := 1) (by omega) (by omega)).mp z))]
    exact ⟨-1, rfl, Or.inr ⟨rfl, fun j _ w => c1 w.1⟩⟩
end RV
