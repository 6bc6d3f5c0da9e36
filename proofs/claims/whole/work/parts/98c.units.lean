/-! names of numbers -/
theorem name_j {T U : Nat → Int} {n s : Nat} {SC SM : SS} (h : JX T U n s SC SM) (r : Rd SC SM) (w : SM 130 11 = 0) :
    (fX12_wordOf (SM 130 9) SM = some (-1) ∧ fX3_isNameOfNumber SC = some false) ∨ (∃ v, fX12_wordOf (SM 130 9) SM = some v ∧ 0 ≤ v ∧ v ≤ 5 ∧ fX3_isNameOfNumber SC = some true ∧ codeRel (SC 19 5) (1000 + v) ∧ SM 130 9 ≠ 24 ∧ Ok SM ∧ SC 19 5 ≠ 40 ∧ SC 19 5 ≠ 1010) := by
  unfold fX12_wordOf fX3_isNameOfNumber
  by_cases k1 : SM 130 9 = 1
  · have t := (JX_tok pr_1 h).mpr ⟨w, k1⟩
    exact Or.inr ⟨0, by rw [if_pos k1], by omega, by omega, by rw [if_pos t], by rw [t]; exact Or.inr (Or.inl ⟨rfl, rfl⟩), by omega, Ok_k ⟨w, k1⟩ (by decide), by omega, by omega⟩
  by_cases k2 : SM 130 9 = 2
  · have t := (JX_tok pr_2 h).mpr ⟨w, k2⟩
    exact Or.inr ⟨1, by rw [if_neg k1, if_pos k2], by omega, by omega, by rw [if_neg (by omega), if_neg (by omega), if_neg (by omega), if_neg (by omega), if_pos t], by rw [t]; exact Or.inr (Or.inr (Or.inl ⟨rfl, rfl⟩)), by omega, Ok_k ⟨w, k2⟩ (by decide), by omega, by omega⟩
  by_cases k6 : SM 130 9 = 6
  · have t := (JX_tok pr_6 h).mpr ⟨w, k6⟩
    exact Or.inr ⟨2, by rw [if_neg k1, if_neg k2, if_neg (by omega), if_pos k6], by omega, by omega, by rw [if_neg (by omega), if_neg (by omega), if_pos t], by rw [t]; exact Or.inr (Or.inr (Or.inr (Or.inl ⟨rfl, rfl⟩))), by omega, Ok_k ⟨w, k6⟩ (by decide), by omega, by omega⟩
  by_cases k7 : SM 130 9 = 7
  · have t := (JX_tok pr_7 h).mpr ⟨w, k7⟩
    exact Or.inr ⟨4, by rw [if_neg k1, if_neg k2, if_neg (by omega), if_neg k6, if_pos k7], by omega, by omega, by rw [if_neg (by omega), if_neg (by omega), if_neg (by omega), if_pos t], by rw [t]; exact Or.inr (Or.inr (Or.inr (Or.inr (Or.inr (Or.inl ⟨rfl, rfl⟩))))), by omega, Ok_k ⟨w, k7⟩ (by decide), by omega, by omega⟩
  by_cases k14 : SM 130 9 = 14
  · have t := (JX_tok pr_14 h).mpr ⟨w, k14⟩
    exact Or.inr ⟨3, by rw [if_neg k1, if_neg k2, if_neg (by omega), if_neg k6, if_neg k7, if_pos k14], by omega, by omega, by rw [if_neg (by omega), if_neg (by omega), if_neg (by omega), if_neg (by omega), if_neg (by omega), if_pos t], by rw [t]; exact Or.inr (Or.inr (Or.inr (Or.inr (Or.inl ⟨rfl, rfl⟩)))), by omega, Ok_k ⟨w, k14⟩ (by decide), by omega, by omega⟩
  have t1 : ¬ SC 19 5 = 1001 := fun z => k1 ((JX_tok pr_1 h).mp z).2
  have t2 : ¬ SC 19 5 = 1007 := fun z => k2 ((JX_tok pr_2 h).mp z).2
  have t6 : ¬ SC 19 5 = 1003 := fun z => k6 ((JX_tok pr_6 h).mp z).2
  have t7 : ¬ SC 19 5 = 1004 := fun z => k7 ((JX_tok pr_7 h).mp z).2
  have t14 : ¬ SC 19 5 = 1014 := fun z => k14 ((JX_tok pr_14 h).mp z).2
  obtain ⟨r1, r2⟩ := r
  by_cases k5 : SM 130 9 = 5
  · have t := (JX_tok pr_5 h).mpr ⟨w, k5⟩
    by_cases m : SM 130 15 = 1
    · exact Or.inr ⟨5, by rw [if_neg k1, if_neg k2, if_pos k5, if_pos m], by omega, by omega, by rw [if_neg t1, if_pos t, if_pos r2, decide_eq_true (show SC 19 8 = 1 by omega)], by rw [t]; exact Or.inr (Or.inr (Or.inr (Or.inr (Or.inr (Or.inr (Or.inl ⟨rfl, rfl⟩)))))), by omega, Ok_k ⟨w, k5⟩ (by decide), by omega, by omega⟩
    · exact Or.inl ⟨by rw [if_neg k1, if_neg k2, if_pos k5, if_neg m], by rw [if_neg t1, if_pos t, if_pos r2, decide_eq_false (show ¬ SC 19 8 = 1 by omega)]⟩
  · have t5 : ¬ SC 19 5 = 1002 := fun z => k5 ((JX_tok pr_5 h).mp z).2
    exact Or.inl ⟨by rw [if_neg k1, if_neg k2, if_neg k5, if_neg k6, if_neg k7, if_neg k14], by rw [if_neg t1, if_neg t5, if_neg t6, if_neg t7, if_neg t2, if_neg t14]⟩
theorem name_f {SC : SS} (h : SC 19 5 = 1) : fX3_isNameOfNumber SC = some false := by
  unfold fX3_isNameOfNumber
  rw [if_neg (by omega), if_neg (by omega), if_neg (by omega), if_neg (by omega), if_neg (by omega), if_neg (by omega)]
theorem ex_if {b : Bool} {S1 S' : SS} {α : Type} {K : SS → Option α} (h : (if b = true then some S1 else Option.bind (fX12_fails 2 S1) fun q => some q) = some S') : (Option.bind (if b = true then some S1 else Option.bind (fX12_fails 2 S1) fun q => some q) K) = K S' := by rw [h, bnd_s]
theorem atom_sp {T U : Nat → Int} {n d ns nt need : Nat} {rcC rcM rcC' rcM' : Nat → Int → SS → Option SS} (ht : tp T U n) (hd : d ≤ 6)
    (h7 : rcC 7 ((d + 1 : Nat) : Int) = fX3_choice rcC' ((d + 1 : Nat) : Int)) (h1 : rcM 1 (d : Int) = fX12_readIf rcM' d)
    (hp : d < 6 → Sp T U n ns false (rcC 4 ((d + 1 : Nat) : Int)) (rcM 3 ((d + 1 : Nat) : Int)))
    (hs : d < 6 → Sp T U n ns false (rcC' 4 ((d + 1 : Nat) : Int)) (rcM' 3 ((d + 1 : Nat) : Int)))
    (hb : d < 6 → Sp T U n nt true (rcC' 0 ((d + 1 : Nat) : Int)) (rcM' 6 ((d + 1 : Nat) : Int)))
    (n1 : 1 ≤ need) (n2 : d < 6 → ns + 2 ≤ need) (n3 : d < 6 → nt ≤ need) : Sp T U n need false (fX3_atom rcC d) (fX12_readAtom rcM d) := by
  intro s SC SM hs1 hJ hR
  obtain ⟨a, ha⟩ : ∃ a, a = fX3_atom rcC d SC := ⟨_, rfl⟩
  obtain ⟨b, hbb⟩ : ∃ b, b = fX12_readAtom rcM d SM := ⟨_, rfl⟩
  rw [← ha, ← hbb]
  unfold fX3_atom at ha
  unfold fX12_readAtom at hbb
  rw [is_ok, bnd_s] at hbb
  by_cases k23 : SM 130 11 = 0 ∧ SM 130 9 = 23
  · have o := Ok_k k23 (by decide)
    rw [if_pos ((JX_tok pr_23 hJ).mpr k23)] at ha
    rw [if_pos (decide_eq_true k23)] at hbb
    obtain ⟨s, rfl⟩ : ∃ s', s = s' + 1 := ⟨s - 1, by omega⟩
    have hv : SC 19 7 = SM 130 10 ∧ 0 ≤ SM 130 10 ∧ SM 130 10 ≤ 999 := by
      obtain ⟨q, e, N, a1, a2, a3, a4, a5, a6, a7, a8, _⟩ := JX_O hJ o
      exact a8 k23.2
    obtain ⟨SC1, SM1, c1, c2, c3, c4, c5, c6, c7⟩ := code_j (c := SC 19 7) (m := SM 130 10) ht (Or.inl ⟨by omega, by omega, by omega⟩) hJ
    obtain ⟨SC2, SM2, x1, x2, x3, x4, x5, x6, x7⟩ := adv_j ht c3 (by unfold Ok; rw [c5]; exact o) (by rw [c5, k23.2]; decide)
    rw [c1, bnd_s, x1, bnd_s] at ha
    rw [c2, bnd_s, x2, bnd_s] at hbb
    refine ⟨SC2, SM2, ha, hbb, x3, FX_t c4 x4, fun _ => ⟨o, by rw [← c5]; exact x7, Sg_m rfl x5 (Sg_w n1 (Sg_c (c7 o) (by omega) (by omega)))⟩⟩
  · rw [if_neg (fun z => k23 ((JX_tok pr_23 hJ).mp z))] at ha
    rw [if_neg (by rw [decide_eq_true_eq]; exact k23)] at hbb
    by_cases w : SM 130 11 = 0
    · rw [if_pos w] at hbb
      rcases name_j hJ hR w with ⟨v1, v2⟩ | ⟨v, v1, v2, v3, v4, v5, v6, o, v7, v8⟩
      · rw [v1, bnd_s, if_pos rfl, is_ok, bnd_s] at hbb
        by_cases k35 : SM 130 11 = 0 ∧ SM 130 9 = 35
        · have o := Ok_k k35 (by decide)
          rw [if_pos ((JX_tok pr_35 hJ).mpr k35)] at ha
          rw [if_pos (decide_eq_true k35)] at hbb
          rcases goes_j ht hd hJ o (by rw [k35.2]; decide) with ⟨SC1, SM1, g1, g2, g3, g4, g5⟩ | ⟨dd, SC1, SM1, g1, g2, g3, g4, g5, g6⟩
          · rw [g1, bnd_s] at ha
            rw [g2, bnd_s] at hbb
            exact ⟨SC1, SM1, ha, hbb, g3, g4, fun o1 => absurd o1.1 g5⟩
          · rw [g1, bnd_s] at ha
            rw [g2, bnd_s] at hbb
            simp only [if_true] at ha hbb
            rw [w32_k (by omega)] at ha hbb
            obtain ⟨SC2, SM2, y1, y2, y3, y4, y5⟩ := hp dd (s + 1) SC1 SM1 (by omega) g3 (Rd_f g4 hR)
            obtain ⟨SC3, SM3, b3, M3, e1, e2, e3, e4, e5, e6, e7⟩ := exp_j ht pr_36 (by decide) y3
            rw [y1, bnd_s, e1, bnd_s] at ha
            rw [y2, bnd_s, e2, bnd_s] at hbb
            simp only at hbb
            rw [e3] at hbb
            refine ⟨SC3, SM3, ha, hbb, JX_w (by omega) e4, FX_t g4 (FX_t y4 e5), fun o3 => ?_⟩
            obtain ⟨o2, p1⟩ := e7 o3
            obtain ⟨o1, p2, p3⟩ := y5 o2
            have := n2 dd
            exact ⟨o, by omega, Sg_m g5.symm e6 (Sg_w (by omega) p3)⟩
        · rw [if_neg (fun z => k35 ((JX_tok pr_35 hJ).mp z))] at ha
          rw [if_neg (by rw [decide_eq_true_eq]; exact k35), is_ok, bnd_s] at hbb
          by_cases k10 : SM 130 11 = 0 ∧ SM 130 9 = 10
          · have o := Ok_k k10 (by decide)
            rw [if_pos ((JX_tok pr_10 hJ).mpr k10)] at ha
            rw [if_pos (decide_eq_true k10), h1] at hbb
            unfold fX12_readIf at hbb
            rcases goes_j ht hd hJ o (by rw [k10.2]; decide) with ⟨SC1, SM1, g1, g2, g3, g4, g5⟩ | ⟨dd, SC1, SM1, g1, g2, g3, g4, g5, g6⟩
            · rw [g1, bnd_s] at ha
              rw [g2, bnd_s] at hbb
              exact ⟨SC1, SM1, ha, hbb, g3, g4, fun o1 => absurd o1.1 g5⟩
            · rw [g1, bnd_s] at ha
              rw [g2, bnd_s] at hbb
              simp only [if_true] at ha hbb
              rw [w32_k (by omega)] at ha hbb
              rw [h7] at ha
              unfold fX3_choice at ha
              obtain ⟨SC2, SM2, y1, y2, y3, y4, y5⟩ := hb dd (s + 1) SC1 SM1 (by omega) g3 (Rd_f g4 hR)
              obtain ⟨SC3, SM3, b3, M3, e1, e2, e3, e4, e5, e6, e7⟩ := exp_j ht pr_11 (by decide) y3
              have R3 := Rd_f (FX_t g4 (FX_t y4 e5)) hR
              obtain ⟨SC4, SM4, z1, z2, z3, z4, z5⟩ := hs dd (s + 1) SC3 SM3 (by omega) e4 R3
              obtain ⟨SC5, SM5, b5, M5, f1, f2, f3, f4, f5, f6, f7⟩ := exp_j ht pr_12 (by decide) z3
              have R5 := Rd_f (FX_t z4 f5) R3
              obtain ⟨SC6, SM6, u1, u2, u3, u4, u5⟩ := hs dd (s + 1) SC5 SM5 (by omega) f4 R5
              obtain ⟨SC7, SM7, b7, M7, i1, i2, i3, i4, i5, i6, i7⟩ := exp_j ht pr_13 (by decide) u3
              obtain ⟨SC8, SM8, c1, c2, c3, c4, c5, c6, c7⟩ := code_j (c := 3010) (m := 3009) ht (by unfold codeRel; omega) i4
              rw [y1, bnd_s, e1, bnd_s, z1, bnd_s, f1, bnd_s, u1, bnd_s, i1, bnd_s, c1, bnd_s, bnd_s] at ha
              rw [y2, bnd_s, e2, bnd_s] at hbb
              simp only at hbb
              rw [ex_if e3, z2, bnd_s, f2, bnd_s] at hbb
              simp only at hbb
              rw [ex_if f3, u2, bnd_s, i2, bnd_s] at hbb
              simp only at hbb
              rw [ex_if i3, c2, bnd_s, bnd_s] at hbb
              refine ⟨SC8, SM8, ha, hbb, c3, FX_t g4 (FX_t y4 (FX_t e5 (FX_t z4 (FX_t f5 (FX_t u4 (FX_t i5 c4)))))), fun o8 => ?_⟩
              have o7 := Ok_130 c5 o8
              obtain ⟨o6, p6⟩ := i7 o7
              obtain ⟨o5, p5, q5⟩ := u5 o6
              obtain ⟨o4, p4⟩ := f7 o5
              obtain ⟨o3, p3, q3⟩ := z5 o4
              obtain ⟨o2, p2⟩ := e7 o3
              obtain ⟨o1, p1, q1⟩ := y5 o2
              have m2 := n2 dd
              have m3 := n3 dd
              refine ⟨o, by rw [c5]; omega, Sg_m g5.symm rfl (Sg_i q1 e6 q3 f6 (Sg_m rfl i6 q5) (c7 o7) m3 (by omega) m2)⟩
          · rw [if_neg (fun z => k10 ((JX_tok pr_10 hJ).mp z)), v2, bnd_s, if_neg (by decide)] at ha
            rw [if_neg (by rw [decide_eq_true_eq]; exact k10)] at hbb
            obtain ⟨SC1, SM1, x1, x2, x3, x4, x5, x6⟩ := fail_j (f := 2) (by decide) hJ
            rw [x1, bnd_s] at ha
            rw [x2, bnd_s] at hbb
            exact ⟨SC1, SM1, ha, hbb, x3, x4, fun o1 => absurd o1.1 x6⟩
      · rw [if_neg v7, if_neg v8, v4, bnd_s, if_pos rfl] at ha
        rw [v1, bnd_s, if_neg (by omega), bnd_s, w32_eq (by omega) (by omega)] at hbb
        obtain ⟨s, rfl⟩ : ∃ s', s = s' + 1 := ⟨s - 1, by omega⟩
        obtain ⟨SC1, SM1, c1, c2, c3, c4, c5, c6, c7⟩ := code_j (c := SC 19 5) (m := 1000 + v) ht v5 hJ
        obtain ⟨SC2, SM2, x1, x2, x3, x4, x5, x6, x7⟩ := adv_j ht c3 (by unfold Ok; rw [c5]; exact o) (by rw [c5]; exact v6)
        rw [c1, bnd_s, x1, bnd_s] at ha
        rw [c2, bnd_s, x2, bnd_s] at hbb
        refine ⟨SC2, SM2, ha, hbb, x3, FX_t c4 x4, fun _ => ⟨o, by rw [← c5]; exact x7, Sg_m rfl x5 (Sg_w n1 (Sg_c (c7 o) (by omega) (by omega)))⟩⟩
    · have k5 : SC 19 5 = 1 := by
        obtain ⟨_, h | h | h⟩ := hJ
        · obtain ⟨q, e, N, a1, a2, _⟩ := h
          exact absurd a2 w
        · obtain ⟨q, N, a1, a2, a3, a4, _⟩ := h
          exact absurd a4 w
        · exact h.2.2.1
      rw [if_neg (by omega), if_neg (by omega), name_f k5, bnd_s, if_neg (by decide)] at ha
      rw [if_neg w, is_ok, bnd_s, if_neg (by rw [decide_eq_true_eq]; exact fun z => w z.1), is_ok, bnd_s, if_neg (by rw [decide_eq_true_eq]; exact fun z => w z.1)] at hbb
      obtain ⟨SC1, SM1, x1, x2, x3, x4, x5, x6⟩ := fail_j (f := 2) (by decide) hJ
      rw [x1, bnd_s] at ha
      rw [x2, bnd_s] at hbb
      exact ⟨SC1, SM1, ha, hbb, x3, x4, fun o1 => absurd o1.1 x6⟩
theorem unit_sp {T U : Nat → Int} {n d ns nu nt need : Nat} {rcC rcM rcC' : Nat → Int → SS → Option SS} (ht : tp T U n) (hd : d ≤ 6)
    (h3 : rcC 3 (d : Int) = fX3_comparison rcC' d)
    (hf : ∀ S : SS, S 130 11 ≠ 0 → rcM 3 (d : Int) S = some S)
    (hs : Sp T U n ns false (rcC' 4 (d : Int)) (rcM 3 (d : Int)))
    (hu : d < 6 → Sp T U n nu true (rcC 2 ((d + 1 : Nat) : Int)) (rcM 4 ((d + 1 : Nat) : Int)))
    (hb : d < 6 → Sp T U n nt true (rcC 0 ((d + 1 : Nat) : Int)) (rcM 6 ((d + 1 : Nat) : Int)))
    (n1 : ns + 1 ≤ need) (n2 : d < 6 → nu ≤ need) (n3 : d < 6 → nt ≤ need) : Sp T U n need true (fX3_unit rcC d) (fX12_readUnit rcM d) := by
  intro s SC SM hs1 hJ hR
  obtain ⟨a, ha⟩ : ∃ a, a = fX3_unit rcC d SC := ⟨_, rfl⟩
  obtain ⟨b, hbb⟩ : ∃ b, b = fX12_readUnit rcM d SM := ⟨_, rfl⟩
  rw [← ha, ← hbb]
  unfold fX3_unit at ha
  unfold fX12_readUnit at hbb
  rw [is_ok, bnd_s] at hbb
  by_cases k17 : SM 130 11 = 0 ∧ SM 130 9 = 17
  · have o := Ok_k k17 (by decide)
    rw [if_pos ((JX_tok pr_17 hJ).mpr k17)] at ha
    rw [if_pos (decide_eq_true k17)] at hbb
    rcases goes_j ht hd hJ o (by rw [k17.2]; decide) with ⟨SC1, SM1, g1, g2, g3, g4, g5⟩ | ⟨dd, SC1, SM1, g1, g2, g3, g4, g5, g6⟩
    · rw [g1, bnd_s] at ha
      rw [g2, bnd_s] at hbb
      exact ⟨SC1, SM1, ha, hbb, g3, g4, fun o1 => absurd o1.1 g5⟩
    · rw [g1, bnd_s] at ha
      rw [g2, bnd_s] at hbb
      simp only [if_true] at ha hbb
      rw [w32_k (by omega)] at ha hbb
      obtain ⟨SC2, SM2, y1, y2, y3, y4, y5⟩ := hu dd (s + 1) SC1 SM1 (by omega) g3 (Rd_f g4 hR)
      obtain ⟨SC3, SM3, c1, c2, c3, c4, c5, c6, c7⟩ := code_j (c := 3015) (m := 3006) ht (by unfold codeRel; omega) y3
      rw [y1, bnd_s, c1, bnd_s] at ha
      rw [y2, bnd_s, c2, bnd_s] at hbb
      refine ⟨SC3, SM3, ha, hbb, c3, FX_t g4 (FX_t y4 c4), fun o3 => ?_⟩
      have o2 := Ok_130 c5 o3
      obtain ⟨o1, p2, p3⟩ := y5 o2
      exact ⟨o, by rw [c5]; omega, Sg_m g5.symm rfl (Sg_w (n2 dd) (Sg_n p3 (c7 o2)))⟩
  · rw [if_neg (fun z => k17 ((JX_tok pr_17 hJ).mp z))] at ha
    rw [if_neg (by rw [decide_eq_true_eq]; exact k17), is_ok, bnd_s] at hbb
    by_cases k37 : SM 130 11 = 0 ∧ SM 130 9 = 37
    · have o := Ok_k k37 (by decide)
      rw [if_pos ((JX_tok pr_37 hJ).mpr k37)] at ha
      rw [if_pos (decide_eq_true k37)] at hbb
      rcases goes_j ht hd hJ o (by rw [k37.2]; decide) with ⟨SC1, SM1, g1, g2, g3, g4, g5⟩ | ⟨dd, SC1, SM1, g1, g2, g3, g4, g5, g6⟩
      · rw [g1, bnd_s] at ha
        rw [g2, bnd_s] at hbb
        exact ⟨SC1, SM1, ha, hbb, g3, g4, fun o1 => absurd o1.1 g5⟩
      · rw [g1, bnd_s] at ha
        rw [g2, bnd_s] at hbb
        simp only [if_true] at ha hbb
        rw [w32_k (by omega)] at ha hbb
        obtain ⟨SC2, SM2, y1, y2, y3, y4, y5⟩ := hb dd (s + 1) SC1 SM1 (by omega) g3 (Rd_f g4 hR)
        obtain ⟨SC3, SM3, b3, M3, e1, e2, e3, e4, e5, e6, e7⟩ := exp_j ht pr_38 (by decide) y3
        rw [y1, bnd_s, e1, bnd_s] at ha
        rw [y2, bnd_s, e2, bnd_s] at hbb
        simp only at hbb
        rw [e3] at hbb
        refine ⟨SC3, SM3, ha, hbb, JX_w (by omega) e4, FX_t g4 (FX_t y4 e5), fun o3 => ?_⟩
        obtain ⟨o2, p1⟩ := e7 o3
        obtain ⟨o1, p2, p3⟩ := y5 o2
        exact ⟨o, by omega, Sg_m g5.symm e6 (Sg_w (n3 dd) p3)⟩
    · rw [if_neg (fun z => k37 ((JX_tok pr_37 hJ).mp z)), h3] at ha
      rw [if_neg (by rw [decide_eq_true_eq]; exact k37)] at hbb
      unfold fX3_comparison at ha
      obtain ⟨SC1, SM1, y1, y2, y3, y4, y5⟩ := hs s SC SM hs1 hJ hR
      rw [y1, bnd_s, lt_ok] at ha
      rw [y2, bnd_s, is_ok, is_ok, is_ok, bnd_s] at hbb
      have R1 := Rd_f y4 hR
      have turn : ∀ (tok kd mc : Int), pairT tok kd → kd ≠ 24 → codeRel (2000 + tok) mc → 3003 ≤ mc ∧ mc < 3006 → SM1 130 11 = 0 ∧ SM1 130 9 = kd → ∃ SC2 SC3 SC4 SM2 SM3 SM4, fX3_advance SC1 = some SC2 ∧ rcC' 4 d SC2 = some SC3 ∧ fX8_addCode 21 (2000 + tok) SC3 = some SC4 ∧ fX12_next SM1 = some SM2 ∧ rcM 3 d SM2 = some SM3 ∧ fX12_codes mc SM3 = some SM4 ∧ JX T U n s SC4 SM4 ∧ FX SC SM SC4 SM4 ∧ (Ok SM4 → Ok SM ∧ SM 130 6 < SM4 130 6 ∧ Sg SM SM4 need true) := by
        intro tok kd mc hp hk hr hm t
        have o1 := Ok_k t hp.2.2
        obtain ⟨SC2, SM2, x1, x2, x3, x4, x5, x6, x7⟩ := adv_j ht y3 o1 (by rw [t.2]; exact hk)
        obtain ⟨SC3, SM3, z1, z2, z3, z4, z5⟩ := hs (s + 1) SC2 SM2 (by omega) x3 (Rd_f x4 R1)
        obtain ⟨SC4, SM4, c1, c2, c3, c4, c5, c6, c7⟩ := code_j (c := 2000 + tok) (m := mc) ht hr z3
        refine ⟨SC2, SC3, SC4, SM2, SM3, SM4, x1, z1, c1, x2, z2, c2, c3, FX_t y4 (FX_t x4 (FX_t z4 c4)), fun o4 => ?_⟩
        have o3 := Ok_130 c5 o4
        obtain ⟨_, p3, q3⟩ := z5 o3
        obtain ⟨o0, p1, q1⟩ := y5 o1
        exact ⟨o0, by rw [c5]; omega, Sg_2 q1 x5 q3 (c7 o3) (fun code a b c s1 s2 hc => seg_cmp s1 s2 (by omega) (by omega) (by omega))⟩
      by_cases k39 : SM1 130 11 = 0 ∧ SM1 130 9 = 39
      · obtain ⟨SC2, SC3, SC4, SM2, SM3, SM4, x1, z1, c1, x2, z2, c2, c3, c4, c5⟩ := turn 61 39 3003 pr_39 (by decide) (by unfold codeRel; omega) (by omega) k39
        have c1' : fX8_addCode 21 (w32 (2000 + 61)) SC3 = some SC4 := c1
        rw [(JX_tok pr_39 y3).mpr k39, if_pos rfl, x1, bnd_s, z1, bnd_s, c1', bnd_s, bnd_s] at ha
        rw [if_pos (decide_eq_true k39), bnd_s, bnd_s, if_pos (decide_eq_true k39), x2, bnd_s, bnd_s, z2, bnd_s, c2, bnd_s] at hbb
        exact ⟨SC4, SM4, ha, hbb, c3, c4, c5⟩
      · have t39 : ¬ SC1 19 5 = 61 := fun z => k39 ((JX_tok pr_39 y3).mp z)
        have d39 : ¬ decide (SM1 130 11 = 0 ∧ SM1 130 9 = 39) = true := by rw [decide_eq_true_eq]; exact k39
        rw [if_neg t39] at ha
        rw [if_neg d39, bnd_s] at hbb
        by_cases k40 : SM1 130 11 = 0 ∧ SM1 130 9 = 40
        · obtain ⟨SC2, SC3, SC4, SM2, SM3, SM4, x1, z1, c1, x2, z2, c2, c3, c4, c5⟩ := turn 60 40 3004 pr_40 (by decide) (by unfold codeRel; omega) (by omega) k40
          have c1' : fX8_addCode 21 (w32 (2000 + 60)) SC3 = some SC4 := c1
          rw [(JX_tok pr_40 y3).mpr k40, if_pos rfl, x1, bnd_s, z1, bnd_s, c1', bnd_s, bnd_s] at ha
          rw [if_pos (decide_eq_true k40), bnd_s, bnd_s, if_neg d39, bnd_s, if_pos (decide_eq_true k40), x2, bnd_s, bnd_s, z2, bnd_s, c2, bnd_s] at hbb
          exact ⟨SC4, SM4, ha, hbb, c3, c4, c5⟩
        · have t40 : ¬ SC1 19 5 = 60 := fun z => k40 ((JX_tok pr_40 y3).mp z)
          have d40 : ¬ decide (SM1 130 11 = 0 ∧ SM1 130 9 = 40) = true := by rw [decide_eq_true_eq]; exact k40
          rw [if_neg t40] at ha
          rw [if_neg d40, bnd_s, bnd_s, if_neg d39, bnd_s, if_neg d40, bnd_s] at hbb
          by_cases k41 : SM1 130 11 = 0 ∧ SM1 130 9 = 41
          · obtain ⟨SC2, SC3, SC4, SM2, SM3, SM4, x1, z1, c1, x2, z2, c2, c3, c4, c5⟩ := turn 62 41 3005 pr_41 (by decide) (by unfold codeRel; omega) (by omega) k41
            have c1' : fX8_addCode 21 (w32 (2000 + 62)) SC3 = some SC4 := c1
            rw [(JX_tok pr_41 y3).mpr k41, if_pos rfl, x1, bnd_s, z1, bnd_s, c1', bnd_s, bnd_s] at ha
            rw [if_pos (decide_eq_true k41), x2, bnd_s, bnd_s, z2, bnd_s, c2, bnd_s] at hbb
            exact ⟨SC4, SM4, ha, hbb, c3, c4, c5⟩
          · obtain ⟨SC2, SM2, x1, x2, x3, x4, x5, x6⟩ := fail_j (f := 2) (by decide) y3
            have c0 : fX12_codes 3005 SM2 = some SM2 := by unfold fX12_codes; rw [if_neg x6]
            rw [if_neg (fun z => k41 ((JX_tok pr_41 y3).mp z)), x1, bnd_s, bnd_s] at ha
            rw [if_neg (by rw [decide_eq_true_eq]; exact k41), x2, bnd_s, bnd_s, hf SM2 x6, bnd_s, c0, bnd_s] at hbb
            exact ⟨SC2, SM2, ha, hbb, x3, FX_t y4 x4, fun o2 => absurd o2.1 x6⟩
