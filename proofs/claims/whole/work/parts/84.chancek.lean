/-! chance, mean, likeliest -/
theorem sel_corner {f : Nat → Int} {c : Nat} (hc : c < 6) : ysum (gSel f c (-1)) 120 = ysum (fun y => f (20 * c + y)) 20 := by
  have g : ∀ a, gSel f c (-1) a = if a / 20 = c then f a else 0 := by
    intro a
    unfold gSel goalP
    by_cases h : a / 20 = c
    · rw [if_pos (decide_eq_true ⟨by omega, Or.inl rfl⟩), if_pos h]
    · rw [if_neg (by rw [decide_eq_true_eq]; intro x; omega), if_neg h]
  have lo : ∀ n, n ≤ 20 * c → ysum (gSel f c (-1)) n = 0 := by
    intro n
    induction n with
    | zero => intro _; rfl
    | succ n ih => intro h; show ysum _ n + gSel f c (-1) n = 0; rw [ih (by omega), g n, if_neg (by omega)]; rfl
  have mid : ∀ j, j ≤ 20 → ysum (gSel f c (-1)) (20 * c + j) = ysum (fun y => f (20 * c + y)) j := by
    intro j
    induction j with
    | zero => intro _; exact lo _ (by omega)
    | succ j ih => intro h; show ysum _ (20 * c + j) + gSel f c (-1) (20 * c + j) = ysum _ j + f (20 * c + j); rw [ih (by omega), g (20 * c + j), if_pos (by omega)]
  have hi := ysum_more (f := gSel f c (-1)) (M := 20 * c + 20) (120 - (20 * c + 20)) (fun k h _ => by rw [g k, if_neg (by omega)])
  rw [show 20 * c + 20 + (120 - (20 * c + 20)) = 120 by omega] at hi
  rw [hi, mid 20 (by omega)]
theorem part_b {f : Nat → Int} {c : Nat} (h : nnS f 100000000000000) (hc : c < 6) {k : Nat} (hk : k ≤ 20) : 0 ≤ ysum (fun y => f (20 * c + y)) k ∧ ysum (fun y => f (20 * c + y)) k ≤ 100000000000000 := by
  have a := ysum_nn k (fun y => h.1 (20 * c + y))
  have b := ysum_mono (f := fun y => f (20 * c + y)) (fun y => h.1 (20 * c + y)) (20 - k) k
  rw [show k + (20 - k) = 20 by omega, ← sel_corner hc] at b
  have d := gSel_b (c := (c : Int)) (y := -1) (n := 120) h (Nat.le_refl _)
  omega
theorem likelyAt_L {S : SS} {f : Nat → Int} {c : Nat} (hc : c < 6) (h : nnS f 100000000000000) (h52 : ∀ j, j < 120 → S 142 j = f j) : ∀ (m n k : Nat), m + k = 20 → m < n → fX12_likelyAt_L5 c S n (ysum (fun y => f (20 * c + y)) k) k = some (ysum (fun y => f (20 * c + y)) 20) := by
  intro m
  induction m with
  | zero =>
    intro n k hk hn
    obtain ⟨n, rfl⟩ := suc_of hn
    have ek : k = 20 := by omega
    subst ek
    unfold fX12_likelyAt_L5
    rw [if_pos (by omega)]
  | succ m ih =>
    intro n k hk hn
    obtain ⟨n, rfl⟩ := suc_of hn
    have ex : (20 * (c : Int) + (k : Int)).toNat = 20 * c + k := by omega
    have b := part_b h hc (show k ≤ 20 by omega)
    have b' := part_b h hc (show k + 1 ≤ 20 by omega)
    have e : ysum (fun y => f (20 * c + y)) (k + 1) = ysum (fun y => f (20 * c + y)) k + f (20 * c + k) := rfl
    unfold fX12_likelyAt_L5
    rw [if_neg (by omega), w32_eq (x := 20 * (c : Int)) (by omega) (by omega), w32_eq (x := 20 * (c : Int) + (k : Int)) (by omega) (by omega), rdA_ok (by omega) (by omega), ex, h52 _ (by omega), lt_ok, lt_ok, w32_k (by omega), w64_eq (by omega) (by omega)]
    exact ih n (k + 1) (by omega) (by omega)
theorem likelyAt_ok {S : SS} {f : Nat → Int} {c : Nat} (hc : c < 6) (h : nnS f 100000000000000) (h52 : ∀ j, j < 120 → S 142 j = f j) : fX12_likelyAt c S = some (ysum (gSel f c (-1)) 120) := by
  have e : fX12_likelyAt_L5 c S FU 0 0 = some (ysum (fun y => f (20 * c + y)) 20) := likelyAt_L hc h h52 20 FU 0 (by omega) (by decide)
  unfold fX12_likelyAt
  rw [e, bnd_s, sel_corner hc]
/-- what both count for draws -/
theorem draws_both {S : SS} {g : Int} {N : Nat} (hI : Inv S) (hg : 0 ≤ g ∧ g < S 131 3) (hN : N ≤ 6) : ∃ S1 S2 f W, fX6_spotOf 7 g S = some (spotP (S 131) g) ∧ fX7_countWays g (spotP (S 131) g) N 7 1 S = some S1 ∧ S1 51 3 = ((W : Nat) : Int) ∧ (∀ j, j < 120 → S1 52 j = f j) ∧ fX12_laysLikely g N S1 = some (((W : Nat) : Int), S2) ∧ (∀ j, j < 120 → S2 142 j = f j) ∧ nnS f 262144 ∧ 0 < W ∧ W ≤ 262144 ∧ Inv S2 ∧ S1 130 0 = 0 ∧ S1 131 = S 131 ∧ S2 131 = S 131 ∧ S1 2 = S 2 := by
  obtain ⟨i0, hC, hS, _⟩ := id hI
  obtain ⟨_, hB, _⟩ := id hC
  have h1 := hB.1
  have h2 := hB.2.1
  have h3 := hB.2.2.1
  obtain ⟨s1, s2, s3⟩ := spot_now hS hB hg.1 (show g < 3 by omega)
  obtain ⟨S1, q1, q2, q3, q4⟩ := countWays_ok (N := N) (l3 := 1) (stay := true) (Or.inr ⟨rfl, rfl⟩) hC hS hg (by omega)
  have f1 : ∀ x, (x < 30 ∨ 33 < x) ∧ (x < 51 ∨ 53 < x) → S1 x = S x := fun x hx => w_fX7_countWays q1 hx
  have e131 : S1 131 = S 131 := f1 131 (by omega)
  obtain ⟨S2, b1, b2, b3⟩ := laysLikely_ok (S := S1) (g := g) (N := N) (by rw [e131]; exact hB) (by rw [e131]; exact hS.2) (by rw [e131]; exact hg) hN
  rw [e131] at b1 b2
  have e8 : (8 : Nat) ^ 6 = 262144 := by decide
  have pb : (S 131 2).toNat ^ (if true = true ∧ S 131 2 = 0 then 0 else N) ≤ 262144 := by
    rw [← e8]; exact pow_b (by omega) (by split <;> omega)
  have pp : 0 < (S 131 2).toNat ^ (if true = true ∧ S 131 2 = 0 then 0 else N) := by
    by_cases z : S 131 2 = 0
    · rw [if_pos (c := true = true ∧ S 131 2 = 0) ⟨rfl, z⟩, Nat.pow_zero]; omega
    · exact Nat.pow_pos (by omega)
  have nb := itA_nn (stay := true) (Z := (S 131 2).toNat) (st := (spotP (S 131) g).toNat) (show (20 * S 131 1).toNat ≤ 120 by omega) (nowG_lt hB (g := g)) (if true = true ∧ S 131 2 = 0 then 0 else N)
  exact ⟨S1, S2, _, _, s1, q1, q4, q3, b1, b2, ⟨nb.1, by have := nb.2; omega⟩, pp, pb, inv_q hI q2 (fun x hx => by unfold keepA at hx; exact f1 x (by omega)) (fun x hx => by unfold keepA at hx; exact b3 x (by omega)), by rw [f1 130 (by omega)]; exact i0, e131, (b3 131 (by omega)).trans e131, f1 2 (by omega)⟩
theorem k_chance : K_chance Inv := by
  intro g c n w cg cc cn cw S hI
  obtain ⟨i0, hC, hS, _⟩ := id hI
  obtain ⟨_, hB, _⟩ := id hC
  have h1 := hB.1
  unfold fX11_chance fX12_chance
  rw [has_g hC, bnd_s]
  by_cases a : 0 ≤ g ∧ g < S 131 3
  · rw [if_pos (decide_eq_true a), has_c hC, bnd_s]
    by_cases b : 0 ≤ c ∧ c < S 131 1
    · rw [if_pos (decide_eq_true b)]
      by_cases d : 0 ≤ w ∧ w ≤ 1
      · rw [if_neg (by omega), if_pos d.2]
        by_cases e : 0 ≤ n ∧ n ≤ 6
        · obtain ⟨N, rfl⟩ : ∃ N : Nat, n = N := ⟨n.toNat, by omega⟩
          obtain ⟨k, rfl⟩ : ∃ k : Nat, c = k := ⟨c.toNat, by omega⟩
          obtain ⟨S1, S2, f, W, q1, q2, q3, q4, q5, q6, q7, q8, q9, q10, q11, q12, q13, q14⟩ := draws_both (N := N) hI a (by omega)
          have nb : nnS f 100000000000000 := ⟨q7.1, by have := q7.2; omega⟩
          have sb : 0 ≤ ysum (gSel f k (-1)) 120 ∧ ysum (gSel f k (-1)) 120 ≤ 262144 := by
            have x := ysum_nn (f := gSel f k (-1)) 120 (fun j => (gSel_nn (c := (k : Int)) (y := -1) q7.1 j).1)
            have y := ysum_le (f := gSel f k (-1)) (h := f) 120 (fun j _ => (gSel_nn q7.1 j).2)
            have z := q7.2
            omega
          obtain ⟨r, t1, t2⟩ := terms_both (a := (ysum (gSel f k (-1)) 120).toNat) (b := W) (w := w) (by omega) q8 (by omega)
          rw [show (((ysum (gSel f k (-1)) 120).toNat : Nat) : Int) = ysum (gSel f k (-1)) 120 by omega] at t1 t2
          rw [if_neg (by omega), if_pos e.2, q1, bnd_s, q2, bnd_s, at_ok nb q4, bnd_s, q3, t1, bnd_s]
          refine ⟨_, S1, S2, rfl, ?_, q10⟩
          rw [lt_ok, up_same q11, is_g (by rw [q12]; exact hB), q12, bnd_s, if_pos (decide_eq_true a), is_c (by rw [q12]; exact hB), q12, bnd_s, if_pos (decide_eq_true b), within_ok, bnd_s, if_pos (decide_eq_true d), within_ok, bnd_s, if_pos (decide_eq_true e), q5, bnd_s]
          simp only
          rw [likelyAt_ok (by omega) nb q6, bnd_s, t2, bnd_s]
        · have z : ∀ A : Option (Int × SS), (if n < 0 then some ((-3), S) else if n ≤ 6 then A else some ((-3), S) : Option (Int × SS)) = some (-3, S) := by
            intro A
            by_cases z : n < 0
            · rw [if_pos z]
            · rw [if_neg z, if_neg (by omega)]
          rw [z]
          refine ⟨_, S, S, rfl, ?_, hI⟩
          rw [lt_ok, up_same i0, is_g hB, bnd_s, if_pos (decide_eq_true a), is_c hB, bnd_s, if_pos (decide_eq_true b), within_ok, bnd_s, if_pos (decide_eq_true d), within_ok, bnd_s, if_neg (by rw [decide_eq_true_eq]; exact e)]
      · have z : ∀ A : Option (Int × SS), (if w < 0 then some ((-2), S) else if w ≤ 1 then A else some ((-2), S) : Option (Int × SS)) = some (-2, S) := by
          intro A
          by_cases z : w < 0
          · rw [if_pos z]
          · rw [if_neg z, if_neg (by omega)]
        rw [z]
        refine ⟨_, S, S, rfl, ?_, hI⟩
        rw [lt_ok, up_same i0, is_g hB, bnd_s, if_pos (decide_eq_true a), is_c hB, bnd_s, if_pos (decide_eq_true b), within_ok, bnd_s, if_neg (by rw [decide_eq_true_eq]; exact d)]
    · rw [if_neg (by rw [decide_eq_true_eq]; exact b)]
      refine ⟨_, S, S, rfl, ?_, hI⟩
      rw [lt_ok, up_same i0, is_g hB, bnd_s, if_pos (decide_eq_true a), is_c hB, bnd_s, if_neg (by rw [decide_eq_true_eq]; exact b)]
  · rw [if_neg (by rw [decide_eq_true_eq]; exact a)]
    refine ⟨_, S, S, rfl, ?_, hI⟩
    rw [lt_ok, up_same i0, is_g hB, bnd_s, if_neg (by rw [decide_eq_true_eq]; exact a)]
def yrS (f : Nat → Int) : Nat → Int := fun a => f a * ((a % 20 : Nat) : Int)
theorem yrS_b {f : Nat → Int} (h : nnS f 262144) {k : Nat} : 0 ≤ yrS f k ∧ yrS f k ≤ 19 * f k := by
  unfold yrS
  have h0 := h.1 k
  refine ⟨Int.mul_nonneg h0 (by omega), ?_⟩
  rw [Int.mul_comm]
  exact Int.mul_le_mul_of_nonneg_right (by omega) h0
theorem yrS_s {f : Nat → Int} (h : nnS f 262144) {k : Nat} (hk : k ≤ 120) : 0 ≤ ysum (yrS f) k ∧ ysum (yrS f) k ≤ 4980736 := by
  have a := ysum_nn k (fun j => (yrS_b h (k := j)).1)
  have m := ysum_mono (f := yrS f) (fun j => (yrS_b h (k := j)).1) (120 - k) k
  rw [show k + (120 - k) = 120 by omega] at m
  have t : ∀ n, ysum (yrS f) n ≤ 19 * ysum f n := by
    intro n
    induction n with
    | zero => show (0 : Int) ≤ 19 * 0; omega
    | succ n ih => show ysum (yrS f) n + yrS f n ≤ 19 * (ysum f n + f n); have := (yrS_b h (k := n)).2; omega
  have := t 120
  have := h.2
  omega
theorem years_c {S : SS} {f : Nat → Int} (h : nnS f 262144) (h52 : ∀ j, j < 120 → S 52 j = f j) : ∀ (m n k : Nat), m + k = 120 → m < n → fX7_yearsInAll_L4 S n (ysum (yrS f) k) k = some (ysum (yrS f) 120) := by
  intro m
  induction m with
  | zero =>
    intro n k hk hn
    obtain ⟨n, rfl⟩ := suc_of hn
    have ek : k = 120 := by omega
    subst ek
    unfold fX7_yearsInAll_L4
    rw [if_pos (by omega)]
  | succ m ih =>
    intro n k hk hn
    obtain ⟨n, rfl⟩ := suc_of hn
    have b := yrS_s h (show k ≤ 120 by omega)
    have b1 := yrS_s h (show k + 1 ≤ 120 by omega)
    have e : ysum (yrS f) (k + 1) = ysum (yrS f) k + yrS f k := rfl
    have em : Int.tmod (k : Int) 20 = ((k % 20 : Nat) : Int) := by rw [tmod20 (by omega)]; omega
    have ey : f k * ((k % 20 : Nat) : Int) = yrS f k := rfl
    unfold fX7_yearsInAll_L4
    rw [if_neg (by omega), rdA_ok (by omega) (by omega), Int.toNat_natCast, h52 k (by omega), em, ey, w64_eq (x := yrS f k) (by omega) (by omega), lt_ok, lt_ok, w32_k (by omega), w64_eq (by omega) (by omega)]
    exact ih n (k + 1) (by omega) (by omega)
theorem years_m {S : SS} {f : Nat → Int} {l3 l4 : Int} (h : nnS f 262144) (h52 : ∀ j, j < 120 → S 142 j = f j) : ∀ (m n k : Nat), m + k = 120 → m < n → fX12_mean_L56 l3 l4 S n (ysum (yrS f) k) k = some (ysum (yrS f) 120) := by
  intro m
  induction m with
  | zero =>
    intro n k hk hn
    obtain ⟨n, rfl⟩ := suc_of hn
    have ek : k = 120 := by omega
    subst ek
    unfold fX12_mean_L56
    rw [if_pos (by omega)]
  | succ m ih =>
    intro n k hk hn
    obtain ⟨n, rfl⟩ := suc_of hn
    have b := yrS_s h (show k ≤ 120 by omega)
    have b1 := yrS_s h (show k + 1 ≤ 120 by omega)
    have e : ysum (yrS f) (k + 1) = ysum (yrS f) k + yrS f k := rfl
    have em : Int.tmod (k : Int) 20 = ((k % 20 : Nat) : Int) := by rw [tmod20 (by omega)]; omega
    have ey : f k * ((k % 20 : Nat) : Int) = yrS f k := rfl
    unfold fX12_mean_L56
    rw [if_neg (by omega), rdA_ok (by omega) (by omega), Int.toNat_natCast, h52 k (by omega), em, ey, w64_eq (x := yrS f k) (by omega) (by omega), lt_ok, lt_ok, w32_k (by omega), w64_eq (by omega) (by omega)]
    exact ih n (k + 1) (by omega) (by omega)
theorem k_mean : K_mean Inv := by
  intro g n w cg cn cw S hI
  obtain ⟨i0, hC, hS, _⟩ := id hI
  obtain ⟨_, hB, _⟩ := id hC
  unfold fX11_mean fX12_mean
  rw [has_g hC, bnd_s]
  by_cases a : 0 ≤ g ∧ g < S 131 3
  · rw [if_pos (decide_eq_true a)]
    by_cases d : 0 ≤ w ∧ w ≤ 1
    · rw [if_neg (by omega), if_pos d.2]
      by_cases e : 0 ≤ n ∧ n ≤ 6
      · obtain ⟨N, rfl⟩ : ∃ N : Nat, n = N := ⟨n.toNat, by omega⟩
        obtain ⟨S1, S2, f, W, q1, q2, q3, q4, q5, q6, q7, q8, q9, q10, q11, q12, q13, q14⟩ := draws_both (N := N) hI a (by omega)
        have sb := yrS_s q7 (Nat.le_refl 120)
        obtain ⟨r, t1, t2⟩ := terms_both (a := (ysum (yrS f) 120).toNat) (b := W) (w := w) (by omega) q8 (by omega)
        rw [show (((ysum (yrS f) 120).toNat : Nat) : Int) = ysum (yrS f) 120 by omega] at t1 t2
        have y1 : fX7_yearsInAll S1 = some (ysum (yrS f) 120) := by
          have : fX7_yearsInAll_L4 S1 FU 0 0 = some (ysum (yrS f) 120) := years_c q7 q4 120 FU 0 (by omega) (by decide)
          unfold fX7_yearsInAll; rw [this, bnd_s]
        have y2 : fX12_mean_L56 w ((W : Nat) : Int) S2 FU 0 0 = some (ysum (yrS f) 120) := years_m q7 q6 120 FU 0 (by omega) (by decide)
        rw [if_neg (by omega), if_pos e.2, q1, bnd_s, q2, bnd_s, y1, bnd_s, q3, t1, bnd_s]
        refine ⟨_, S1, S2, rfl, ?_, q10⟩
        rw [lt_ok, up_same q11, is_g (by rw [q12]; exact hB), q12, bnd_s, if_pos (decide_eq_true a), within_ok, bnd_s, if_pos (decide_eq_true d), within_ok, bnd_s, if_pos (decide_eq_true e), q5, bnd_s]
        simp only
        rw [y2, bnd_s, t2, bnd_s]
      · have z : ∀ A : Option (Int × SS), (if n < 0 then some ((-3), S) else if n ≤ 6 then A else some ((-3), S) : Option (Int × SS)) = some (-3, S) := by
          intro A
          by_cases z : n < 0
          · rw [if_pos z]
          · rw [if_neg z, if_neg (by omega)]
        rw [z]
        refine ⟨_, S, S, rfl, ?_, hI⟩
        rw [lt_ok, up_same i0, is_g hB, bnd_s, if_pos (decide_eq_true a), within_ok, bnd_s, if_pos (decide_eq_true d), within_ok, bnd_s, if_neg (by rw [decide_eq_true_eq]; exact e)]
    · have z : ∀ A : Option (Int × SS), (if w < 0 then some ((-2), S) else if w ≤ 1 then A else some ((-2), S) : Option (Int × SS)) = some (-2, S) := by
        intro A
        by_cases z : w < 0
        · rw [if_pos z]
        · rw [if_neg z, if_neg (by omega)]
      rw [z]
      refine ⟨_, S, S, rfl, ?_, hI⟩
      rw [lt_ok, up_same i0, is_g hB, bnd_s, if_pos (decide_eq_true a), within_ok, bnd_s, if_neg (by rw [decide_eq_true_eq]; exact d)]
  · rw [if_neg (by rw [decide_eq_true_eq]; exact a)]
    refine ⟨_, S, S, rfl, ?_, hI⟩
    rw [lt_ok, up_same i0, is_g hB, bnd_s, if_neg (by rw [decide_eq_true_eq]; exact a)]
def lkl (F : Nat → Int) : Nat → Nat
  | 0 => 0
  | k + 1 => if F (lkl F k) < F (k + 1) then k + 1 else lkl F k
theorem lkl_b {F : Nat → Int} : ∀ k, lkl F k ≤ k := by
  intro k
  induction k with
  | zero => exact Nat.le_refl _
  | succ k ih => show (if F (lkl F k) < F (k + 1) then k + 1 else lkl F k) ≤ _; split <;> omega
theorem lkl_c {S : SS} {f : Nat → Int} {C : Nat} (hC : 1 ≤ C ∧ C ≤ 6) (h5 : S 2 5 = C) (h : nnS f 100000000000000) (h52 : ∀ j, j < 120 → S 52 j = f j) : ∀ (m n k : Nat), m + (k + 1) = C → m < n → fX11_likeliest_L54 S n ((lkl (fun c => ysum (gSel f c (-1)) 120) k : Nat) : Int) ((k + 1 : Nat) : Int) = some ((lkl (fun c => ysum (gSel f c (-1)) 120) (C - 1) : Nat) : Int) := by
  intro m
  induction m with
  | zero =>
    intro n k hk hn
    obtain ⟨n, rfl⟩ := suc_of hn
    unfold fX11_likeliest_L54
    rw [h5, if_pos (by omega), show C - 1 = k by omega]
  | succ m ih =>
    intro n k hk hn
    obtain ⟨n, rfl⟩ := suc_of hn
    unfold fX11_likeliest_L54
    rw [h5, if_neg (by omega), at_ok h h52, bnd_s, at_ok h h52, bnd_s, w32_k (by omega)]
    have e : (if lc (ysum (gSel f ((k + 1 : Nat) : Int) (-1)) 120) (ysum (gSel f ((lkl (fun c => ysum (gSel f c (-1)) 120) k : Nat) : Int) (-1)) 120) ≤ 0 then some ((lkl (fun c => ysum (gSel f c (-1)) 120) k : Nat) : Int) else some ((k + 1 : Nat) : Int) : Option Int) = some ((lkl (fun c => ysum (gSel f c (-1)) 120) (k + 1) : Nat) : Int) := by
      show _ = some ((if ysum (gSel f ((lkl (fun c => ysum (gSel f c (-1)) 120) k : Nat) : Int) (-1)) 120 < ysum (gSel f ((k + 1 : Nat) : Int) (-1)) 120 then k + 1 else lkl (fun c => ysum (gSel f c (-1)) 120) k : Nat) : Int)
      by_cases c : ysum (gSel f ((lkl (fun c => ysum (gSel f c (-1)) 120) k : Nat) : Int) (-1)) 120 < ysum (gSel f ((k + 1 : Nat) : Int) (-1)) 120
      · rw [if_pos c, if_neg (fun h => by have := lc_le.mp h; omega)]
      · rw [if_neg c, if_pos (lc_le.mpr (by omega))]
    rw [e, bnd_s, lt_ok]
    exact ih n (k + 1) (by omega) (by omega)
theorem lkl_m {S : SS} {f : Nat → Int} {C : Nat} (hC : 1 ≤ C ∧ C ≤ 6) (h5 : S 131 1 = C) (h : nnS f 100000000000000) (h52 : ∀ j, j < 120 → S 142 j = f j) : ∀ (m n k : Nat), m + (k + 1) = C → m < n → fX12_likeliest_L44 S n ((lkl (fun c => ysum (gSel f c (-1)) 120) k : Nat) : Int) ((k + 1 : Nat) : Int) = some ((lkl (fun c => ysum (gSel f c (-1)) 120) (C - 1) : Nat) : Int) := by
  have r1 : S 131 (1 : Int).toNat = C := h5
  intro m
  induction m with
  | zero =>
    intro n k hk hn
    obtain ⟨n, rfl⟩ := suc_of hn
    unfold fX12_likeliest_L44
    rw [rdA_ok (by decide) (by decide), r1, if_pos (by omega), show C - 1 = k by omega]
  | succ m ih =>
    intro n k hk hn
    obtain ⟨n, rfl⟩ := suc_of hn
    have lb := @lkl_b (fun c => ysum (gSel f c (-1)) 120) k
    unfold fX12_likeliest_L44
    rw [rdA_ok (by decide) (by decide), r1, if_neg (by omega), likelyAt_ok (by omega) h h52, bnd_s, likelyAt_ok (by omega) h h52, bnd_s, w32_k (by omega)]
    have e : (if lc (ysum (gSel f ((k + 1 : Nat) : Int) (-1)) 120) (ysum (gSel f ((lkl (fun c => ysum (gSel f c (-1)) 120) k : Nat) : Int) (-1)) 120) ≤ 0 then some ((lkl (fun c => ysum (gSel f c (-1)) 120) k : Nat) : Int) else some ((k + 1 : Nat) : Int) : Option Int) = some ((lkl (fun c => ysum (gSel f c (-1)) 120) (k + 1) : Nat) : Int) := by
      show _ = some ((if ysum (gSel f ((lkl (fun c => ysum (gSel f c (-1)) 120) k : Nat) : Int) (-1)) 120 < ysum (gSel f ((k + 1 : Nat) : Int) (-1)) 120 then k + 1 else lkl (fun c => ysum (gSel f c (-1)) 120) k : Nat) : Int)
      by_cases c : ysum (gSel f ((lkl (fun c => ysum (gSel f c (-1)) 120) k : Nat) : Int) (-1)) 120 < ysum (gSel f ((k + 1 : Nat) : Int) (-1)) 120
      · rw [if_pos c, if_neg (fun h => by have := lc_le.mp h; omega)]
      · rw [if_neg c, if_pos (lc_le.mpr (by omega))]
    rw [e, bnd_s, lt_ok]
    exact ih n (k + 1) (by omega) (by omega)
theorem k_likeliest : K_likeliest Inv := by
  intro g n cg cn S hI
  obtain ⟨i0, hC, hS, _⟩ := id hI
  obtain ⟨hR, hB, _⟩ := id hC
  have h1 := hB.1
  unfold fX11_likeliest fX12_likeliest
  rw [has_g hC, bnd_s]
  by_cases a : 0 ≤ g ∧ g < S 131 3
  · rw [if_pos (decide_eq_true a)]
    by_cases e : 0 ≤ n ∧ n ≤ 6
    · obtain ⟨N, rfl⟩ : ∃ N : Nat, n = N := ⟨n.toNat, by omega⟩
      obtain ⟨S1, S2, f, W, q1, q2, q3, q4, q5, q6, q7, q8, q9, q10, q11, q12, q13, q14⟩ := draws_both (N := N) hI a (by omega)
      have nb : nnS f 100000000000000 := ⟨q7.1, by have := q7.2; omega⟩
      obtain ⟨C, hCC⟩ : ∃ C : Nat, S 131 1 = C := ⟨(S 131 1).toNat, by omega⟩
      have l1 : fX11_likeliest_L54 S1 FU 0 1 = some ((lkl (fun c => ysum (gSel f c (-1)) 120) (C - 1) : Nat) : Int) := lkl_c (C := C) (by omega) (by rw [q14, hR.1.1, hCC]) nb q4 (C - 1) FU 0 (by omega) (by unfold FU; omega)
      have l2 : fX12_likeliest_L44 S2 FU 0 1 = some ((lkl (fun c => ysum (gSel f c (-1)) 120) (C - 1) : Nat) : Int) := lkl_m (C := C) (by omega) (by rw [q13, hCC]) nb q6 (C - 1) FU 0 (by omega) (by unfold FU; omega)
      rw [if_neg (by omega), if_pos e.2, q1, bnd_s, q2, bnd_s, l1, bnd_s]
      refine ⟨_, S1, S2, rfl, ?_, q10⟩
      rw [lt_ok, up_same q11, is_g (by rw [q12]; exact hB), q12, bnd_s, if_pos (decide_eq_true a), within_ok, bnd_s, if_pos (decide_eq_true e), q5, bnd_s]
      simp only
      rw [l2, bnd_s]
    · have z : ∀ A : Option (Int × SS), (if n < 0 then some ((-3), S) else if n ≤ 6 then A else some ((-3), S) : Option (Int × SS)) = some (-3, S) := by
        intro A
        by_cases z : n < 0
        · rw [if_pos z]
        · rw [if_neg z, if_neg (by omega)]
      rw [z]
      refine ⟨_, S, S, rfl, ?_, hI⟩
      rw [lt_ok, up_same i0, is_g hB, bnd_s, if_pos (decide_eq_true a), within_ok, bnd_s, if_neg (by rw [decide_eq_true_eq]; exact e)]
  · rw [if_neg (by rw [decide_eq_true_eq]; exact a)]
    refine ⟨_, S, S, rfl, ?_, hI⟩
    rw [lt_ok, up_same i0, is_g hB, bnd_s, if_neg (by rw [decide_eq_true_eq]; exact a)]
