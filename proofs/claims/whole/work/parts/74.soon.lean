/-! soonest -/
theorem first_L {S : SS} {t found : Nat} {o L pr : Nat → Nat} {c y : Int} (hr : BR S t found o L pr) (hf : found ≤ 120) (ho : ∀ p, p < found → o p < 120) : ∀ (m n k : Nat), m + k = found → m < n → (∀ q, q < k → goalP c y (o q) = false) →
    (fX10_firstAt_L2 t c y S n k = some (1, 0) ∧ ∀ p, p < found → goalP c y (o p) = false) ∨ ∃ p, p < found ∧ fX10_firstAt_L2 t c y S n k = some (0, ((o p : Nat) : Int)) ∧ goalP c y (o p) = true ∧ ∀ q, q < p → goalP c y (o q) = false := by
  intro m
  induction m with
  | zero =>
    intro n k hk hn h
    obtain ⟨n, rfl⟩ := suc_of hn
    unfold fX10_firstAt_L2
    rw [hr.1, if_pos (by omega)]
    exact Or.inl ⟨rfl, fun p hp => h p (by omega)⟩
  | succ m ih =>
    intro n k hk hn h
    obtain ⟨n, rfl⟩ := suc_of hn
    have hk' := ho k (by omega)
    have no : goalP c y (o k) = false → ∀ q, q < k + 1 → goalP c y (o q) = false := fun hg q hq => by
      by_cases e : q = k
      · subst e; exact hg
      · exact h q (by omega)
    unfold fX10_firstAt_L2
    rw [hr.1, if_neg (by omega), if_neg (by omega), rdA_ok (by omega) (by omega), Int.toNat_natCast, hr.2.1 k (by omega), tdiv20 (by omega), w32_eq (x := ((o k : Nat) : Int) / 20) (by omega) (by omega), tmod20 (by omega), lt_ok, w32_k (by omega)]
    by_cases h1 : ((o k : Nat) : Int) / 20 = c
    · rw [if_pos h1]
      by_cases h2 : y = -1
      · rw [if_pos h2]
        exact Or.inr ⟨k, by omega, rfl, by unfold goalP; exact decide_eq_true ⟨h1, Or.inl h2⟩, h⟩
      · rw [if_neg h2]
        by_cases h3 : ((o k : Nat) : Int) % 20 = y
        · rw [if_pos h3]
          exact Or.inr ⟨k, by omega, rfl, by unfold goalP; exact decide_eq_true ⟨h1, Or.inr h3⟩, h⟩
        · rw [if_neg h3]
          exact ih n (k + 1) (by omega) (by omega) (no (by unfold goalP; exact decide_eq_false (fun h => h.2.elim h2 h3)))
    · rw [if_neg h1]
      exact ih n (k + 1) (by omega) (by omega) (no (by unfold goalP; exact decide_eq_false (fun h => h1 h.1)))
theorem firstAt_ok {S : SS} {t found : Nat} {o L pr : Nat → Nat} {c y : Int} (hr : BR S t found o L pr) (hf : found ≤ 120) (ho : ∀ p, p < found → o p < 120) :
    (fX10_firstAt t c y S = some (-1) ∧ ∀ p, p < found → goalP c y (o p) = false) ∨ ∃ p, p < found ∧ fX10_firstAt t c y S = some ((o p : Nat) : Int) ∧ goalP c y (o p) = true ∧ ∀ q, q < p → goalP c y (o q) = false := by
  unfold fX10_firstAt
  obtain ⟨h1, h2⟩ | ⟨p, p1, p2, p3, p4⟩ := first_L (c := c) (y := y) hr hf ho found FU 0 (by omega) (by unfold FU; omega) (fun q hq => by omega)
  · have h1' : fX10_firstAt_L2 t c y S FU 0 = some (1, 0) := h1
    rw [h1', bnd_s]
    exact Or.inl ⟨rfl, h2⟩
  · have p2' : fX10_firstAt_L2 t c y S FU 0 = some (0, ((o p : Nat) : Int)) := p2
    rw [p2', bnd_s]
    exact Or.inr ⟨p, p1, rfl, p3, p4⟩
theorem refuses_ok {S : SS} (hC : Core S) {g c y : Int} : fX11_refusesComing g c y S = some (if (0 ≤ g ∧ g < S 131 3) ∧ (0 ≤ c ∧ c < S 131 1) then (if y = -1 ∨ (0 ≤ y ∧ y ≤ 19) then 0 else -3) else -2) := by
  unfold fX11_refusesComing
  rw [has_g hC, bnd_s]
  by_cases a : 0 ≤ g ∧ g < S 131 3
  · rw [if_pos (decide_eq_true a), has_c hC, bnd_s]
    by_cases b : 0 ≤ c ∧ c < S 131 1
    · rw [if_pos (decide_eq_true b), if_pos (c := (0 ≤ g ∧ g < S 131 3) ∧ (0 ≤ c ∧ c < S 131 1)) ⟨a, b⟩]
      by_cases d : y = -1
      · rw [if_pos d, if_pos (Or.inl d)]
      · rw [if_neg d, cisYear_ok, bnd_s]
        by_cases e : 0 ≤ y ∧ y ≤ 19
        · rw [if_pos (decide_eq_true e), if_pos (Or.inr e)]
        · rw [if_neg (by rw [decide_eq_true_eq]; exact e), if_neg (fun h => h.elim d e)]
    · rw [if_neg (by rw [decide_eq_true_eq]; exact b), if_neg (c := (0 ≤ g ∧ g < S 131 3) ∧ (0 ≤ c ∧ c < S 131 1)) (fun h => b h.2)]
  · rw [if_neg (by rw [decide_eq_true_eq]; exact a), if_neg (c := (0 ≤ g ∧ g < S 131 3) ∧ (0 ≤ c ∧ c < S 131 1)) (fun h => a h.1)]
theorem noComing_ok {S : SS} (hB : townB (S 131)) {g c y : Int} : fX12_noComing g c y S = some (if (0 ≤ g ∧ g < S 131 3) ∧ (0 ≤ c ∧ c < S 131 1) then (if y = -1 ∨ (0 ≤ y ∧ y ≤ 19) then 0 else -3) else -2) := by
  unfold fX12_noComing
  rw [is_g hB, bnd_s]
  by_cases a : 0 ≤ g ∧ g < S 131 3
  · rw [if_pos (decide_eq_true a), is_c hB, bnd_s]
    by_cases b : 0 ≤ c ∧ c < S 131 1
    · rw [if_pos (decide_eq_true b), if_pos (c := (0 ≤ g ∧ g < S 131 3) ∧ (0 ≤ c ∧ c < S 131 1)) ⟨a, b⟩]
      by_cases d : y = -1
      · rw [if_pos d, if_pos (Or.inl d)]
      · rw [if_neg d, isYear_ok, bnd_s]
        by_cases e : 0 ≤ y ∧ y ≤ 19
        · rw [if_pos (decide_eq_true e), if_pos (Or.inr e)]
        · rw [if_neg (by rw [decide_eq_true_eq]; exact e), if_neg (fun h => h.elim d e)]
    · rw [if_neg (by rw [decide_eq_true_eq]; exact b), if_neg (c := (0 ≤ g ∧ g < S 131 3) ∧ (0 ≤ c ∧ c < S 131 1)) (fun h => b h.2)]
  · rw [if_neg (by rw [decide_eq_true_eq]; exact a), if_neg (c := (0 ≤ g ∧ g < S 131 3) ∧ (0 ≤ c ∧ c < S 131 1)) (fun h => a h.1)]
/-- a coming: what the class found, what the reference laid -/
theorem come_both {S : SS} {g c y : Int} (hI : Inv S) (hg : 0 ≤ g ∧ g < S 131 3) : ∃ S1 found o L pr S2 x, fX11_comesTo g c y 7 S = some (x, S1) ∧ lanes S1 ∧ BI (nowG (S 131) g) (spotP (S 131) g).toNat (20 * S 131 1).toNat (8 * found) found o L pr ∧ BR S1 35 found o L pr ∧ found ≤ 120
    ∧ ((x = -1 ∧ ∀ p, p < found → goalP c y (o p) = false) ∨ ∃ p, p < found ∧ x = ((o p : Nat) : Int) ∧ goalP c y (o p) = true ∧ ∀ q, q < p → goalP c y (o q) = false)
    ∧ (∀ a, (a < 30 ∨ 40 < a) → S1 a = S a) ∧ fX12_laysFar g c y S1 = some (S2 139 (spotP (S 131) g).toNat, S2) ∧ FF (nowG (S 131) g) (goalP c y) (20 * S 131 1).toNat (S2 139) ∧ (∀ a s, a < (20 * S 131 1).toNat → s < 8 → S2 138 (8 * a + s) = nowG (S 131) g a s) ∧ (∀ v, v < 120 → 0 ≤ S2 139 v ∧ S2 139 v ≤ 268435456) ∧ (∀ a, (a < 135 ∨ 136 < a) → a ≠ 138 → a ≠ 139 → S2 a = S1 a) ∧ Inv S2 := by
  obtain ⟨i0, hC, hS, _⟩ := id hI
  obtain ⟨_, hB, _⟩ := id hC
  have h1 := hB.1
  obtain ⟨S1, found, o, L, pr, _, q1, q2, q3, q4, q5, q6, q7, _, _, _, _, _⟩ := both_now hI hg
  have e131 : S1 131 = S 131 := q7 131 (by omega)
  have hf : found ≤ (20 * S 131 1).toNat := pigeon _ found o q4.2.1 q4.2.2.1
  obtain ⟨S2, b1, b2, b3, b4, b5⟩ := laysFar_ok (S := S1) (g := g) (c := c) (y := y) (by rw [e131]; exact hB) (by rw [e131]; exact hS.2) (by rw [e131]; exact hg)
  rw [e131] at b1 b2 b3
  have iv : Inv S2 := inv_q hI q3 (fun a ha => by unfold keepA at ha; exact q7 a (by omega)) (fun a ha => by unfold keepA at ha; exact b5 a (by omega) (by omega) (by omega))
  obtain ⟨f1, f2⟩ | ⟨p, p1, p2, p3, p4⟩ := firstAt_ok (c := c) (y := y) q5 (by omega) (fun p hp => by have := q4.2.1 p hp; omega)
  · refine ⟨S1, found, o, L, pr, S2, -1, ?_, q3, q4, q5, by omega, Or.inl ⟨rfl, f2⟩, q7, b1, b2, b3, b4, b5, iv⟩
    unfold fX11_comesTo
    rw [q1, bnd_s, q2, bnd_s, f1, bnd_s]
  · refine ⟨S1, found, o, L, pr, S2, ((o p : Nat) : Int), ?_, q3, q4, q5, by omega, Or.inr ⟨p, p1, rfl, p3, p4⟩, q7, b1, b2, b3, b4, b5, iv⟩
    unfold fX11_comesTo
    rw [q1, bnd_s, q2, bnd_s, p2, bnd_s]
/-- the first of the goals that are found is as far as it is to a goal -/
theorem first_far {nx : Nat → Nat → Int} {gl : Nat → Bool} {st M found p : Nat} {o L pr : Nat → Nat} (h : BI nx st M (8 * found) found o L pr) (hp : p < found) (hg : gl (o p) = true) (hq : ∀ q, q < p → gl (o q) = false) : toG nx gl (L p) st ∧ ∀ n, toG nx gl n st → L p ≤ n := by
  refine ⟨⟨o p, hg, (BI_reach h p hp).1⟩, fun n hn => ?_⟩
  obtain ⟨b, b1, b2⟩ := hn
  obtain ⟨q, q1, q2, q3⟩ := BI_least h (Nat.le_refl _) n b b2
  by_cases c : q < p
  · have := hq q c
    rw [← q2, b1] at this
    cases this
  · have := BI_mono h q p (by omega) q1
    omega
theorem k_soonest : K_soonest Inv := by
  intro g c y cg cc cy S hI
  obtain ⟨i0, hC, hS, _⟩ := id hI
  obtain ⟨_, hB, _⟩ := id hC
  have h1 := hB.1
  unfold fX11_soonest fX12_soonest
  rw [refuses_ok hC, bnd_s]
  by_cases a : ((0 ≤ g ∧ g < S 131 3) ∧ (0 ≤ c ∧ c < S 131 1)) ∧ (y = -1 ∨ (0 ≤ y ∧ y ≤ 19))
  · obtain ⟨S1, found, o, L, pr, S2, x, q1, q2, q3, q4, q5, q6, q7, q8, q9, q10, q11, q12, q13⟩ := come_both (c := c) (y := y) hI a.1.1
    have e131 : S1 131 = S 131 := q7 131 (by omega)
    have sp := spotP_b hS.2 a.1.1.1 (show g < 3 by have := hB.2.2.1; omega)
    have ff := q9 (spotP (S 131) g).toNat (by omega)
    rw [if_pos a.1, if_pos a.2, if_pos rfl, q1, bnd_s]
    simp only
    have m : ∀ r, fX12_toldFar (S2 139 (spotP (S 131) g).toNat) = some r → (lt (up S1 130 0 0) fun S1 => (fX12_noComing g c y S1).bind fun q2 => if q2 = 0 then (fX12_laysFar g c y S1).bind fun q3 => (fX12_toldFar q3.1).bind fun q4 => some (q4, q3.2) else some (q2, S1)) = some (r, S2) := by
      intro r hr
      rw [lt_ok, up_same (by rw [q7 130 (by omega)]; exact i0), noComing_ok (by rw [e131]; exact hB), e131, bnd_s, if_pos a.1, if_pos a.2, if_pos rfl, q8, bnd_s]
      simp only
      rw [hr, bnd_s]
    obtain ⟨x1, x2⟩ | ⟨p, p1, p2, p3, p4⟩ := q6
    · have e : fX10_goingsTo 35 x S1 = some (-1) := by unfold fX10_goingsTo; rw [x1, spot_n (by decide), bnd_s, if_neg (by decide)]
      rw [e, bnd_s]
      refine ⟨_, S1, S2, rfl, m _ ?_, q13⟩
      obtain ⟨d, d1, d2, ⟨b, b1, b2⟩, _⟩ | ⟨d1, _⟩ := ff
      · obtain ⟨q, w1, w2, _⟩ := BI_least q3 (Nat.le_refl _) d b b2
        have := x2 q w1
        rw [← w2, b1] at this
        cases this
      · unfold fX12_toldFar; rw [if_pos d1]
    · have op := q3.2.1 p p1
      have e : fX10_goingsTo 35 x S1 = some ((L p : Nat) : Int) := by
        rw [p2, goingsTo_ok (by omega) (by omega), Int.toNat_natCast, q4.2.2.1 p p1]
      rw [e, bnd_s]
      refine ⟨_, S1, S2, rfl, m _ ?_, q13⟩
      obtain ⟨f1, f2⟩ := first_far q3 p1 p3 p4
      obtain ⟨d, d1, d2, d3, d4⟩ | ⟨_, d2⟩ := ff
      · have e1 := f2 d d3
        have e2 := d4 _ f1
        unfold fX12_toldFar
        rw [if_neg (by omega), d1]
        exact congrArg some (by omega)
      · exact absurd f1 (d2 _)
  · have m : (if (0 ≤ g ∧ g < S 131 3) ∧ (0 ≤ c ∧ c < S 131 1) then (if y = -1 ∨ (0 ≤ y ∧ y ≤ 19) then (0 : Int) else -3) else -2) ≠ 0 := by
      by_cases b : (0 ≤ g ∧ g < S 131 3) ∧ (0 ≤ c ∧ c < S 131 1)
      · rw [if_pos b, if_neg (fun h => a ⟨b, h⟩)]; decide
      · rw [if_neg b]; decide
    rw [if_neg m]
    refine ⟨_, S, S, rfl, ?_, hI⟩
    rw [lt_ok, up_same i0, noComing_ok hB, bnd_s, if_neg m]
