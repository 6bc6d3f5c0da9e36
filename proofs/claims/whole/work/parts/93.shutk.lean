/-! shut: the call -/
theorem best_eq {R : Nat → Int} {g c r : Int} {W r1 : Nat} (h2 : 0 ≤ R 2 ∧ R 2 ≤ 8) (hW : openP R = W) (hw : W < 2 ^ (R 2).toNat) (hv : valP R g c W) (h : bestP R g c (2 ^ (R 2).toNat) r) (h1 : r1 = W ∨ r1 < W) (hv1 : valP R g c r1) (hm : ∀ y, y < W → valP R g c y → cntP r1 < cntP y ∨ (cntP r1 = cntP y ∧ (r1 ≤ y ∨ r1 = W))) : r = r1 := by
  have p8 : 2 ^ (R 2).toNat ≤ 256 := by
    have t := Nat.pow_le_pow_right (show 2 > 0 by decide) (show (R 2).toNat ≤ 8 by omega)
    exact t
  obtain ⟨_, h0⟩ | ⟨x, x1, x2, x3, x4⟩ := h
  · exact absurd hv (h0 W hw)
  · have xw : x ≤ W := sub_le hW (by omega) (by omega) x3.1
    have a1 := x4 r1 (by omega) hv1
    rw [x1]
    by_cases e : x = W
    · subst e
      by_cases e1 : r1 = x
      · omega
      · have := cnt_lt hW (by omega) (by omega) hv1.1 e1
        omega
    · have a2 := hm x (by omega) x3
      by_cases e1 : r1 = W
      · subst e1
        have := cnt_lt hW (by omega) (by omega) x3.1 e
        omega
      · omega
theorem k_shut : K_shut Inv := by
  intro g c w cg cc cw S hI
  obtain ⟨i0, hC, hS, _⟩ := id hI
  obtain ⟨hR, hB, _⟩ := id hC
  have h1 := hB.1
  have h2 := hB.2.1
  have h3 := hB.2.2.1
  unfold fX11_shut fX12_shut
  rw [has_g hC, bnd_s]
  by_cases a : 0 ≤ g ∧ g < S 131 3
  · rw [if_pos (decide_eq_true a), has_c hC, bnd_s]
    by_cases b : 0 ≤ c ∧ c < S 131 1
    · rw [if_pos (decide_eq_true b)]
      by_cases d : 0 ≤ w ∧ w ≤ 1
      · obtain ⟨n1, n2, n3, n4⟩ := now_c hS (g := g) a.1 (by omega)
        have ec : fX6_cornerOf 7 g S = some (S 131 (34 + g).toNat) := by
          unfold fX6_cornerOf
          rw [if_neg (by omega), if_neg (by omega), rdA_ok a.1 (by omega), n1]
        have m0 : ∀ (T : SS), T 130 0 = 0 → T 131 = S 131 → fX12_shut g c w T = (if S 131 (34 + g).toNat = c then some ((-1), T) else Option.bind (fX12_shut_L57 g c w FU (-1) 0 T) fun q8 => if w = 1 then some (q8.1, q8.2) else Option.bind (fX12_bitsOf q8.1) fun q10 => some (q10, q8.2)) := by
          intro T t0 t1
          unfold fX12_shut
          rw [lt_ok, up_same t0, is_g (by rw [t1]; exact hB), t1, bnd_s, if_pos (decide_eq_true a), is_c (by rw [t1]; exact hB), t1, bnd_s, if_pos (decide_eq_true b), within_ok, bnd_s, if_pos (decide_eq_true d), w32_eq (by omega) (by omega), rdA_ok (by omega) (by omega), t1]
          rfl
        rw [if_neg (by omega), if_pos d.2, ec, bnd_s]
        by_cases z : S 131 (34 + g).toNat = c
        · rw [if_pos z]
          refine ⟨_, S, S, rfl, ?_, hI⟩
          have := m0 S i0 rfl
          unfold fX12_shut at this
          rw [this, if_pos z]
        · obtain ⟨W, hW, hw⟩ := open_b h2.1 h2.2
          have p8 : 2 ^ (S 131 2).toNat ≤ 256 := by
            have t := Nat.pow_le_pow_right (show 2 > 0 by decide) (show (S 131 2).toNat ≤ 8 by omega)
            exact t
          have hv := all_shut hB hS.2 ⟨a.1, by omega⟩ hW z
          have ea : fX8_allStreets 2 S = some (w32 ((jshl 1 (S 131 2)) - 1)) := by
            unfold fX8_allStreets
            rw [hR.1.2.1]
          obtain ⟨S1, r1, e1, e2, e3, e4, e5⟩ := shut_c (R := S 131) (l3 := w) hB a b hW (by omega) hv W FU 0 S W (by omega) (by unfold FU; omega) hC hS rfl (Or.inl rfl) hv (fun y hy => absurd hy (by omega))
          have f1 : ∀ z, (z < 15 ∨ 18 < z) ∧ (z < 30 ∨ 33 < z) ∧ (z < 35 ∨ 40 < z) → S1 z = S z := fun z hz => w_fX11_shut_L81 hz _ _ _ _ _ e1
          have e131 : S1 131 = S 131 := f1 131 (by omega)
          obtain ⟨S2, r2, g1, g2⟩ := shut_m (R := S 131) (g := g) (c := c) (l3 := w) hB hS.2 a b (2 ^ (S 131 2).toNat) FU 0 S1 (-1) (by omega) (by unfold FU; omega) e131 (Or.inl ⟨rfl, fun y hy => absurd hy (by omega)⟩)
          have f2 : ∀ z, (z < 135 ∨ 136 < z) ∧ z ≠ 138 ∧ z ≠ 140 → S2 z = S1 z := fun z hz => w_fX12_shut_L57 hz _ _ _ _ _ g1
          have er := best_eq h2 hW hw hv g2 e3 e4 e5
          have e1' : fX11_shut_L81 g c w W FU W 0 S = some ((r1 : Int), S1) := e1
          have g1' : fX12_shut_L57 g c w FU (-1) 0 S1 = some (r2, S2) := g1
          have hI2 : Inv S2 := inv_q hI e2 (fun z hz => by unfold keepA at hz; exact f1 z (by omega)) (fun z hz => by unfold keepA at hz; exact f2 z (by omega))
          have hm := m0 S1 (by rw [f1 130 (by omega)]; exact i0) e131
          rw [if_neg z, g1', bnd_s] at hm
          simp only at hm
          unfold fX12_shut at hm
          rw [if_neg z, ea, bnd_s, shut_now hC hS, bnd_s, open_ok h2.1 h2.2, lt_ok, hW, e1', bnd_s]
          simp only
          by_cases w0 : w = 0
          · rw [if_pos w0, bitCount_ok _ (by omega), bnd_s]
            refine ⟨_, S1, S2, rfl, ?_, hI2⟩
            rw [hm, if_neg (by omega), bitsOf_ok, bnd_s, er]
          · rw [if_neg w0]
            refine ⟨_, S1, S2, rfl, ?_, hI2⟩
            rw [hm, if_pos (by omega), er]
      · have e : (if w < 0 then some ((-2 : Int), S) else (if w ≤ 1 then (
          Option.bind (fX6_cornerOf 7 g S) fun q3 =>
          if q3 = c then (
            some ((-1), S)
          ) else (
            Option.bind (fX8_allStreets 2 S) fun q4 =>
            Option.bind (fX6_shutStreets 7 (S 2 6) S) fun q5 =>
            lt (jand q4 (jxor q5 ((-1)))) fun x6 =>
            Option.bind (fX11_shut_L81 g c w x6 FU x6 0 S) fun q7 =>
            if w = 0 then (
              Option.bind (fJ6_bitCount_0f7a4 q7.1) fun q9 =>
              some (q9, q7.2)
            ) else (
              some (q7.1, q7.2)
            )
          )
        ) else (
          some ((-2), S)
        ))) = some (-2, S) := by
          by_cases w0 : w < 0
          · rw [if_pos w0]
          · rw [if_neg w0, if_neg (by omega)]
        rw [e]
        refine ⟨_, S, S, rfl, ?_, hI⟩
        rw [lt_ok, up_same i0, is_g hB, bnd_s, if_pos (decide_eq_true a), is_c hB, bnd_s, if_pos (decide_eq_true b), within_ok, bnd_s, if_neg (by rw [decide_eq_true_eq]; exact d)]
    · rw [if_neg (by rw [decide_eq_true_eq]; exact b)]
      refine ⟨_, S, S, rfl, ?_, hI⟩
      rw [lt_ok, up_same i0, is_g hB, bnd_s, if_pos (decide_eq_true a), is_c hB, bnd_s, if_neg (by rw [decide_eq_true_eq]; exact b)]
  · rw [if_neg (by rw [decide_eq_true_eq]; exact a)]
    refine ⟨_, S, S, rfl, ?_, hI⟩
    rw [lt_ok, up_same i0, is_g hB, bnd_s, if_neg (by rw [decide_eq_true_eq]; exact a)]
