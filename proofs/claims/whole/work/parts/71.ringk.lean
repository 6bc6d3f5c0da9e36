theorem k_ring : K_ring Inv := by
  intro g cg S hI
  obtain ⟨i0, hC, hS, _⟩ := id hI
  obtain ⟨_, hB, _⟩ := id hC
  have h1 := hB.1
  unfold fX11_ring fX12_ring
  rw [has_g hC, bnd_s]
  by_cases a : 0 ≤ g ∧ g < S 131 3
  · obtain ⟨S1, found, o, L, pr, _, q1, q2, q3, q4, q5, q6, q7, _, _, _, _, _⟩ := both_now hI a
    have e131 : S1 131 = S 131 := q7 131 (by omega)
    have hf : found ≤ (20 * S 131 1).toNat := pigeon _ found o q4.2.1 q4.2.2.1
    have C1 : Core S1 := core_fr (fun a ha => q7 a (by omega)) q3 hC
    have T1 : Stand S1 := stand_fr (q7 _ (by omega)) (q7 _ (by omega)) (q7 _ (by omega)) (q7 _ (by omega)) e131 hS
    obtain ⟨S2, r, l1, l2, l3⟩ := ring_c (R := S 131) (g := g) (M := (20 * S 131 1).toNat) (L := L) (pr := pr) rfl hB a hf q4.2.1 found FU 0 S1 (-1) (by omega) (by unfold FU; omega) C1 T1 e131 q5 (Or.inl ⟨rfl, fun x => by rintro ⟨i, h, _⟩; omega⟩)
    have l1' : fX11_ring_L38 g FU (-1) 0 S1 = some (r, S2) := l1
    have f2 : ∀ a, (a < 30 ∨ 33 < a) ∧ (a < 43 ∨ 48 < a) → S2 a = S1 a := fun a ha => w_fX11_ring_L38 (by omega) _ _ _ _ _ l1
    have fz : ∀ a, (a < 30 ∨ 48 < a) → S2 a = S a := fun a ha => (f2 a (by omega)).trans (q7 a (by omega))
    have e2 : S2 131 = S 131 := fz 131 (by omega)
    obtain ⟨S3, k1, k2, k3, k4⟩ := laysFrom_ok (S := S2) (g := g) (by rw [e2]; exact hB) (by rw [e2]; exact hS.2) (by rw [e2]; exact a)
    rw [e2] at k2 k3
    have e3 : S3 131 = S 131 := (k4 131 (by omega) (by omega) (by omega)).trans e2
    obtain ⟨S4, r', m1, m2⟩ := ring_m3 (R := S 131) (g := g) (M := (20 * S 131 1).toNat) rfl hB (20 * S 131 1).toNat FU 0 S3 268435456 (by omega) (by unfold FU; omega) e3 k3 (Or.inl ⟨rfl, fun x => by rintro ⟨i, h, _⟩; omega⟩)
    have m1' : fX12_ring_L28 FU 268435456 0 S3 = some (r', S4) := m1
    have f4 : ∀ a, a ≠ 141 → S4 a = S3 a := fun a ha => w_fX12_ring_L28 ha _ _ _ _ _ m1
    have sets : ∀ x, (∃ i, i < found ∧ clX (nowG (S 131) g) (o i) x) ↔ (∃ a, a < (20 * S 131 1).toNat ∧ S3 140 a ≠ 268435456 ∧ clX (nowG (S 131) g) a x) := by
      intro x
      constructor
      · rintro ⟨i, i1, i2⟩
        have ho := q4.2.1 i i1
        refine ⟨o i, ho, ?_, i2⟩
        obtain ⟨d, d1, d2, d3, _⟩ | ⟨d1, d2, d3⟩ := go_gone q6 k2 (v := o i) (by omega)
        · omega
        · exact absurd (BI_reach q4 i i1).1 (d3 _)
      · rintro ⟨b, b1, b2, b3⟩
        obtain ⟨d, d1, d2, d3, d4⟩ | ⟨d1, d2, d3⟩ := go_gone q6 k2 (v := b) (by omega)
        · obtain ⟨p, p1, p2, _⟩ := BI_least q4 (Nat.le_refl _) d b d4.1
          exact ⟨p, p1, by rw [← p2]; exact b3⟩
        · exact absurd d2 b2
    have told : fX12_toldFar r' = some r := by
      unfold fX12_toldFar
      obtain ⟨x1, x2⟩ | ⟨x1, x2⟩ := l3
      · obtain ⟨y1, y2⟩ | ⟨y1, y2⟩ := m2
        · rw [if_pos y1, x1]
        · exact absurd ((sets r').mpr y1) (x2 r')
      · obtain ⟨y1, y2⟩ | ⟨y1, y2⟩ := m2
        · exact absurd ((sets r).mp x1) (y2 r)
        · have a1 := x2 r' ((sets r').mpr y1)
          have a2 := y2 r ((sets r).mp x1)
          obtain ⟨b, b1, _, b3⟩ := y1
          have := clX_b (nowG_lt hB) (by omega) b1 b3
          rw [if_neg (by omega)]
          exact congrArg some (by omega)
    rw [if_pos (decide_eq_true a), q1, bnd_s, q2, bnd_s, lt_ok, l1', bnd_s]
    refine ⟨_, S2, S4, rfl, ?_, inv_q hI l2 (fun a ha => by unfold keepA at ha; exact fz a (by omega)) (fun a ha => by unfold keepA at ha; exact (f4 a (by omega)).trans (k4 a (by omega) (by omega) (by omega)))⟩
    rw [lt_ok, up_same (by rw [fz 130 (by omega)]; exact i0), is_g (by rw [e2]; exact hB), e2, bnd_s, if_pos (decide_eq_true a), k1, bnd_s, m1', bnd_s]
    simp only
    rw [told, bnd_s]
  · rw [if_neg (by rw [decide_eq_true_eq]; exact a)]
    refine ⟨_, S, S, rfl, ?_, hI⟩
    rw [lt_ok, up_same i0, is_g hB, bnd_s, if_neg (by rw [decide_eq_true_eq]; exact a)]
