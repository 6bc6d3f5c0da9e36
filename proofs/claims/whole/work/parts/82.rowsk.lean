/-! sums -/
theorem ysum_le {f h : Nat → Int} : ∀ n, (∀ k, k < n → f k ≤ h k) → ysum f n ≤ ysum h n := by
  intro n
  induction n with
  | zero => intro _; exact Int.le_refl _
  | succ n ih => intro hh; show ysum f n + f n ≤ ysum h n + h n; have := ih (fun k hk => hh k (by omega)); have := hh n (by omega); omega
theorem ysum_mono {f : Nat → Int} (h : ∀ k, 0 ≤ f k) : ∀ d m, ysum f m ≤ ysum f (m + d) := by
  intro d
  induction d with
  | zero => intro m; exact Int.le_refl _
  | succ d ihd => intro m; have := ihd m; have := h (m + d); show _ ≤ ysum f (m + d) + f (m + d); omega
theorem ysum_more {f : Nat → Int} {M : Nat} : ∀ d, (∀ k, M ≤ k → k < M + d → f k = 0) → ysum f (M + d) = ysum f M := by
  intro d
  induction d with
  | zero => intro _; rfl
  | succ d ih => intro h; show ysum f (M + d) + f (M + d) = _; rw [ih (fun k a b => h k a (by omega)), h (M + d) (by omega) (by omega)]; omega
def gSel (f : Nat → Int) (c y : Int) : Nat → Int := fun a => if goalP c y a = true then f a else 0
theorem gSel_nn {f : Nat → Int} {c y : Int} (h : ∀ k, 0 ≤ f k) (k : Nat) : 0 ≤ gSel f c y k ∧ gSel f c y k ≤ f k := by
  have := h k
  unfold gSel
  split <;> omega
theorem gSel_b {f : Nat → Int} {c y : Int} {n : Nat} (h : nnS f 100000000000000) (hn : n ≤ 120) : 0 ≤ ysum (gSel f c y) n ∧ ysum (gSel f c y) n ≤ 100000000000000 := by
  have a := ysum_nn n (fun k => (gSel_nn (c := c) (y := y) h.1 k).1)
  have b := ysum_le (f := gSel f c y) (h := f) n (fun k _ => (gSel_nn h.1 k).2)
  have d := ysum_mono h.1 (120 - n) n
  rw [show n + (120 - n) = 120 by omega] at d
  have e := h.2
  omega
theorem at_L {S : SS} {f : Nat → Int} {c y : Int} (h : nnS f 100000000000000) (h52 : ∀ j, j < 120 → S 52 j = f j) : ∀ (m n k : Nat), m + k = 120 → m < n → fX7_at_L5 c y S n (ysum (gSel f c y) k) k = some (ysum (gSel f c y) 120) := by
  intro m
  induction m with
  | zero =>
    intro n k hk hn
    obtain ⟨n, rfl⟩ := suc_of hn
    have ek : k = 120 := by omega
    subst ek
    unfold fX7_at_L5
    rw [if_pos (by omega)]
  | succ m ih =>
    intro n k hk hn
    obtain ⟨n, rfl⟩ := suc_of hn
    have b := gSel_b (c := c) (y := y) (n := k) h (by omega)
    have fk := ysum_ge 120 h.1 (show k < 120 by omega)
    have f0 := h.1 k
    have h2 := h.2
    have e : (if (k : Int) / 20 = c then (if y = -1 then (rdA S 52 120 k fun v2 => lt (w64 (ysum (gSel f c y) k + v2)) fun x4 => some x4) else (if (k : Int) % 20 = y then (rdA S 52 120 k fun v5 => lt (w64 (ysum (gSel f c y) k + v5)) fun x7 => some x7) else some (ysum (gSel f c y) k))) else some (ysum (gSel f c y) k) : Option Int) = some (ysum (gSel f c y) (k + 1)) := by
      show _ = some (ysum (gSel f c y) k + gSel f c y k)
      rw [rdA_ok (by omega) (by omega), Int.toNat_natCast, h52 k (by omega), lt_ok, w64_eq (by omega) (by omega)]
      unfold gSel goalP
      by_cases c1 : (k : Int) / 20 = c
      · rw [if_pos c1]
        by_cases c2 : y = -1
        · rw [if_pos c2, if_pos (decide_eq_true ⟨c1, Or.inl c2⟩)]
        · rw [if_neg c2]
          by_cases c3 : (k : Int) % 20 = y
          · rw [if_pos c3, if_pos (decide_eq_true ⟨c1, Or.inr c3⟩)]
          · rw [if_neg c3, if_neg (by rw [decide_eq_true_eq]; exact fun h => h.2.elim c2 c3), Int.add_zero]
      · rw [if_neg c1, if_neg (by rw [decide_eq_true_eq]; exact fun h => c1 h.1), Int.add_zero]
    unfold fX7_at_L5
    rw [if_neg (by omega), tdiv20 (by omega), w32_eq (x := (k : Int) / 20) (by omega) (by omega), tmod20 (by omega), e, bnd_s, lt_ok, w32_k (by omega)]
    exact ih n (k + 1) (by omega) (by omega)
theorem at_ok {S : SS} {f : Nat → Int} {c y : Int} (h : nnS f 100000000000000) (h52 : ∀ j, j < 120 → S 52 j = f j) : fX7_at c y S = some (ysum (gSel f c y) 120) := by
  have e : fX7_at_L5 c y S FU 0 0 = some (ysum (gSel f c y) 120) := at_L (c := c) (y := y) h h52 120 FU 0 (by omega) (by decide)
  unfold fX7_at
  rw [e, bnd_s]
theorem rows_sum {S : SS} {f : Nat → Int} {c y : Int} {M : Nat} (hM : M = (20 * S 131 1).toNat) (h1 : 1 ≤ S 131 1 ∧ S 131 1 ≤ 6) (h : nnS f 100000000000000) (h52 : ∀ j, j < 120 → S 142 j = f j) : ∀ (m n k : Nat), m + k = M → m < n → fX12_rows_L72 c y S n (ysum (gSel f c y) k) k = some (ysum (gSel f c y) M) := by
  have r1 : S 131 (1 : Int).toNat = S 131 1 := rfl
  intro m
  induction m with
  | zero =>
    intro n k hk hn
    obtain ⟨n, rfl⟩ := suc_of hn
    have ek : k = M := by omega
    unfold fX12_rows_L72 fX12_stands
    rw [rdA_ok (by decide) (by decide), r1, w32_eq (by omega) (by omega), bnd_s, if_pos (by omega), ek]
  | succ m ih =>
    intro n k hk hn
    obtain ⟨n, rfl⟩ := suc_of hn
    have b := gSel_b (c := c) (y := y) (n := k) h (by omega)
    have b' := gSel_nn (c := c) (y := y) h.1 k
    have fk := ysum_ge 120 h.1 (show k < 120 by omega)
    have h2 := h.2
    have e : (if goalP c y k = true then (rdA S 142 120 k fun v4 => some v4) else some 0 : Option Int) = some (gSel f c y k) := by
      unfold gSel
      split
      · rw [rdA_ok (by omega) (by omega), Int.toNat_natCast, h52 k (by omega)]
      · rfl
    unfold fX12_rows_L72 fX12_stands
    rw [rdA_ok (by decide) (by decide), r1, w32_eq (by omega) (by omega), bnd_s, if_neg (by omega), isGoal_ok (by omega), bnd_s, e, bnd_s, lt_ok, lt_ok, w32_k (by omega), w64_eq (by omega) (by omega)]
    exact ih n (k + 1) (by omega) (by omega)
theorem k_rows : K_rows Inv := by
  intro g c y n cg cc cy cn S hI
  obtain ⟨i0, hC, hS, _⟩ := id hI
  obtain ⟨_, hB, _⟩ := id hC
  have h1 := hB.1
  have h2 := hB.2.1
  have h3 := hB.2.2.1
  unfold fX11_rows fX12_rows
  rw [refuses_ok hC, bnd_s]
  by_cases a : ((0 ≤ g ∧ g < S 131 3) ∧ (0 ≤ c ∧ c < S 131 1)) ∧ (y = -1 ∨ (0 ≤ y ∧ y ≤ 19))
  · rw [if_pos a.1, if_pos a.2, if_pos rfl]
    by_cases b : 0 ≤ n ∧ n ≤ 12
    · obtain ⟨N, rfl⟩ : ∃ N : Nat, n = N := ⟨n.toNat, by omega⟩
      obtain ⟨s1, s2, s3⟩ := spot_now hS hB a.1.1.1 (show g < 3 by omega)
      obtain ⟨S1, q1, q2, q3, _⟩ := countWays_ok (N := N) (l3 := 0) (stay := false) (Or.inl ⟨rfl, rfl⟩) hC hS a.1.1 (by omega)
      rw [if_neg (c := false = true ∧ S 131 2 = 0) (fun h => absurd h.1 (by decide))] at q3
      have f1 : ∀ x, (x < 30 ∨ 33 < x) ∧ (x < 51 ∨ 53 < x) → S1 x = S x := fun x hx => w_fX7_countWays q1 hx
      have e131 : S1 131 = S 131 := f1 131 (by omega)
      have nb := itA_b (g := g) (stay := false) (st := (spotP (S 131) g).toNat) hB (show (S 131 2).toNat ≤ 8 by omega) (show N ≤ 12 by omega)
      have t1 := at_ok (c := c) (y := y) nb q3
      rw [if_neg (by omega), if_pos b.2, s1, bnd_s, q1, bnd_s, t1, bnd_s]
      obtain ⟨S2, b1, b2, b3, b4, b5⟩ := begins_ok (S := S1) (g := g) false (S 131 2).toNat (by rw [e131]; exact hB) (by rw [e131]; exact hS.2) (by rw [e131]; exact a.1.1)
      rw [e131] at b2 b3
      have e2 : S2 131 = S 131 := (b5 131 (by omega)).trans e131
      obtain ⟨S3, c1, c2⟩ := rows_ml (R := S 131) (g := g) (c := c) (y := y) (N := N) (st := (spotP (S 131) g).toNat) hB (by omega) N FU 0 S2 (by omega) (by unfold FU; omega) e2 b2 b3 b4
      have c1' : fX12_rows_L48 c y N FU 0 S2 = some S3 := c1
      have f3 : ∀ x, (x < 142 ∨ 143 < x) → S3 x = S2 x := fun x hx => w_fX12_rows_L48 hx _ _ _ _ c1
      have e3 : S3 131 = S 131 := (f3 131 (by omega)).trans e2
      have sm := rows_sum (S := S3) (c := c) (y := y) (M := (20 * S 131 1).toNat) (by rw [e3]) (by rw [e3]; exact h1) nb c2 (20 * S 131 1).toNat FU 0 (by omega) (by unfold FU; omega)
      have sm' : fX12_rows_L72 c y S3 FU 0 0 = some (ysum (gSel (itA (nowG (S 131) g) false (S 131 2).toNat (20 * S 131 1).toNat (spotP (S 131) g).toNat N) c y) (20 * S 131 1).toNat) := sm
      have eq : ysum (gSel (itA (nowG (S 131) g) false (S 131 2).toNat (20 * S 131 1).toNat (spotP (S 131) g).toNat N) c y) 120 = ysum (gSel (itA (nowG (S 131) g) false (S 131 2).toNat (20 * S 131 1).toNat (spotP (S 131) g).toNat N) c y) (20 * S 131 1).toNat := by
        have := ysum_more (f := gSel (itA (nowG (S 131) g) false (S 131 2).toNat (20 * S 131 1).toNat (spotP (S 131) g).toNat N) c y) (M := (20 * S 131 1).toNat) (120 - (20 * S 131 1).toNat) (fun k hk _ => by
          unfold gSel
          rw [itA_hi (nowG_lt hB) (by omega) N k hk]
          split <;> rfl)
        rw [show (20 * S 131 1).toNat + (120 - (20 * S 131 1).toNat) = 120 by omega] at this
        exact this
      refine ⟨_, S1, S3, rfl, ?_, inv_q hI q2 (fun x hx => by unfold keepA at hx; exact f1 x (by omega)) (fun x hx => by unfold keepA at hx; exact (f3 x (by omega)).trans (b5 x (by omega)))⟩
      rw [lt_ok, up_same (by rw [f1 130 (by omega)]; exact i0), noComing_ok (by rw [e131]; exact hB), e131, bnd_s, if_pos a.1, if_pos a.2, if_pos rfl, within_ok, bnd_s, if_pos (decide_eq_true b), b1, bnd_s, c1', bnd_s, sm', bnd_s, eq]
    · have e : ∀ A : Option (Int × SS), (if n < 0 then some ((-3), S) else if n ≤ 12 then A else some ((-3), S) : Option (Int × SS)) = some (-3, S) := by
        intro A
        by_cases z : n < 0
        · rw [if_pos z]
        · rw [if_neg z, if_neg (by omega)]
      rw [e]
      refine ⟨_, S, S, rfl, ?_, hI⟩
      rw [lt_ok, up_same i0, noComing_ok hB, bnd_s, if_pos a.1, if_pos a.2, if_pos rfl, within_ok, bnd_s, if_neg (by rw [decide_eq_true_eq]; exact b)]
  · have m : (if (0 ≤ g ∧ g < S 131 3) ∧ (0 ≤ c ∧ c < S 131 1) then (if y = -1 ∨ (0 ≤ y ∧ y ≤ 19) then (0 : Int) else -3) else -2) ≠ 0 := by
      by_cases b : (0 ≤ g ∧ g < S 131 3) ∧ (0 ≤ c ∧ c < S 131 1)
      · rw [if_pos b, if_neg (fun h => a ⟨b, h⟩)]; decide
      · rw [if_neg b]; decide
    rw [if_neg m]
    refine ⟨_, S, S, rfl, ?_, hI⟩
    rw [lt_ok, up_same i0, noComing_ok hB, bnd_s, if_neg m]
