/-! lowest terms -/
theorem tmod_n {a b : Nat} : Int.tmod (a : Int) (b : Int) = ((a % b : Nat) : Int) := by
  rw [Int.tmod_eq_emod_of_nonneg (by omega)]
  exact (Int.natCast_emod a b).symm
theorem gcd_st {a b : Nat} : Nat.gcd a b = Nat.gcd b (a % b) := by
  rw [Nat.gcd_comm a b, Nat.gcd_rec b a, Nat.gcd_comm]
theorem half_r {b r : Nat} (h : 0 < r) (hr : r < b) : 2 * (b % r) < b := by
  have h1 := Nat.mod_lt b h
  have h2 := Nat.div_add_mod b r
  have h3 : 1 ≤ b / r := Nat.div_pos (by omega) h
  have h4 : r * 1 ≤ r * (b / r) := Nat.mul_le_mul_left r h3
  omega
theorem mgcd : ∀ (k n a b : Nat) (tg : Nat), b < 2 ^ k → 2 * k + 1 ≤ n → fGX12_common n tg (a : Int) (b : Int) = some ((Nat.gcd a b : Nat) : Int) := by
  have base : ∀ n (a : Nat) (tg : Nat), 1 ≤ n → fGX12_common n tg (a : Int) 0 = some ((Nat.gcd a 0 : Nat) : Int) := by
    intro n a tg hn
    obtain ⟨n, rfl⟩ : ∃ n', n = n' + 1 := ⟨n - 1, by omega⟩
    show fX12_common (fGX12_common n) (a : Int) 0 = _
    unfold fX12_common
    rw [if_pos rfl, Nat.gcd_zero_right]
  have step : ∀ n (a b : Nat) (tg : Nat), 0 < b → fGX12_common (n + 1) tg (a : Int) (b : Int) = fGX12_common n 0 (b : Int) ((a % b : Nat) : Int) := by
    intro n a b tg hb
    show fX12_common (fGX12_common n) (a : Int) (b : Int) = _
    unfold fX12_common nz
    rw [if_neg (by omega), if_neg (by omega), tmod_n]
    cases fGX12_common n 0 (b : Int) ((a % b : Nat) : Int) <;> rfl
  intro k
  induction k with
  | zero =>
    intro n a b tg hb hn
    have e : b = 0 := by rw [Nat.pow_zero] at hb; omega
    subst e
    exact base n a tg (by omega)
  | succ k ih =>
    intro n a b tg hb hn
    rw [Nat.pow_succ] at hb
    by_cases c : b = 0
    · subst c; exact base n a tg (by omega)
    obtain ⟨n, rfl⟩ : ∃ n', n = n' + 1 := ⟨n - 1, by omega⟩
    rw [step n a b tg (by omega), gcd_st]
    have r1 := Nat.mod_lt a (show b > 0 by omega)
    by_cases c2 : a % b = 0
    · rw [c2]; exact base n b 0 (by omega)
    obtain ⟨n, rfl⟩ : ∃ n', n = n' + 1 := ⟨n - 1, by omega⟩
    rw [step n b (a % b) 0 (by omega), gcd_st]
    have := half_r (show 0 < a % b by omega) r1
    exact ih n _ _ 0 (by omega) (by omega)
theorem cgcd : ∀ (k n a b l : Nat), b < 2 ^ k → 2 * k + 1 ≤ n → l + 2 * k + 1 ≤ 128 → fX11_commonDivisor_L9 n (a : Int) (b : Int) (l : Int) = some ((Nat.gcd a b : Nat) : Int) := by
  have base : ∀ n (a l : Nat), 1 ≤ n → l < 128 → fX11_commonDivisor_L9 n (a : Int) 0 (l : Int) = some ((Nat.gcd a 0 : Nat) : Int) := by
    intro n a l hn hl
    obtain ⟨n, rfl⟩ : ∃ n', n = n' + 1 := ⟨n - 1, by omega⟩
    unfold fX11_commonDivisor_L9
    rw [if_neg (by omega), if_pos (lc_s 0), Nat.gcd_zero_right]
  have step : ∀ n (a b l : Nat), 0 < b → l < 128 → fX11_commonDivisor_L9 (n + 1) (a : Int) (b : Int) (l : Int) = fX11_commonDivisor_L9 n (b : Int) ((a % b : Nat) : Int) ((l + 1 : Nat) : Int) := by
    intro n a b l hb hl
    have hl2 : ¬ lc (b : Int) 0 = 0 := by unfold lc; rw [if_neg (by omega), if_neg (by omega)]; decide
    rw [fX11_commonDivisor_L9]
    unfold nz
    rw [if_neg (by omega), if_neg hl2, if_neg (by omega), lt_ok, lt_ok, tmod_n, w32_k (by omega)]
  intro k
  induction k with
  | zero =>
    intro n a b l hb hn hl
    have e : b = 0 := by rw [Nat.pow_zero] at hb; omega
    subst e
    exact base n a l (by omega) (by omega)
  | succ k ih =>
    intro n a b l hb hn hl
    rw [Nat.pow_succ] at hb
    by_cases c : b = 0
    · subst c; exact base n a l (by omega) (by omega)
    obtain ⟨n, rfl⟩ : ∃ n', n = n' + 1 := ⟨n - 1, by omega⟩
    rw [step n a b l (by omega) (by omega), gcd_st]
    have r1 := Nat.mod_lt a (show b > 0 by omega)
    by_cases c2 : a % b = 0
    · rw [c2]; exact base n b (l + 1) (by omega) (by omega)
    obtain ⟨n, rfl⟩ : ∃ n', n = n' + 1 := ⟨n - 1, by omega⟩
    rw [step n b (a % b) (l + 1) (by omega) (by omega), gcd_st]
    have := half_r (show 0 < a % b by omega) r1
    exact ih n _ _ (l + 1 + 1) (by omega) (by omega) (by omega)
theorem terms_both {a b : Nat} {w : Int} (ha : a < 16777216) (hb : 0 < b) (hb' : b < 16777216) : ∃ r, fX11_inLowestTerms (a : Int) (b : Int) w = some r ∧ fX12_part (a : Int) (b : Int) w = some r := by
  have e24 : (2 : Nat) ^ 24 = 16777216 := by decide
  have g1 : fX11_commonDivisor (a : Int) (b : Int) = some ((Nat.gcd a b : Nat) : Int) := by
    have : fX11_commonDivisor_L9 FU (a : Int) (b : Int) 0 = some ((Nat.gcd a b : Nat) : Int) := cgcd 24 FU a b 0 (by omega) (by decide) (by omega)
    unfold fX11_commonDivisor
    rw [this, bnd_s]
  have g2 : gX12_common (a : Int) (b : Int) = some ((Nat.gcd a b : Nat) : Int) := mgcd 24 60 a b 0 (by omega) (by omega)
  have gp : 0 < Nat.gcd a b := Nat.gcd_pos_of_pos_right a hb
  have gle : ∀ x : Nat, x < 16777216 → 0 ≤ Int.tdiv (x : Int) ((Nat.gcd a b : Nat) : Int) ∧ Int.tdiv (x : Int) ((Nat.gcd a b : Nat) : Int) < 16777216 := by
    intro x hx
    rw [Int.tdiv_eq_ediv_of_nonneg (by omega)]
    have : (x : Int) / ((Nat.gcd a b : Nat) : Int) = ((x / Nat.gcd a b : Nat) : Int) := (Int.natCast_ediv x _).symm
    rw [this]
    have hd := Nat.div_le_self x (Nat.gcd a b)
    generalize x / Nat.gcd a b = z at hd
    omega
  have hx := gle a ha
  have hy := gle b hb'
  generalize Nat.gcd a b = d at g1 g2 gp hx hy
  unfold fX11_inLowestTerms fX12_part nz
  rw [g1, bnd_s, if_pos (lc_ge.mpr (by omega)), lt_ok, w32_eq (x := (a : Int)) (by omega) (by omega)]
  by_cases c : w = 0
  · rw [if_pos c, bnd_s, bnd_s, g2, bnd_s, if_neg (by omega), if_neg (by omega), w64_eq (by omega) (by omega)]
    exact ⟨_, rfl, rfl⟩
  · rw [if_neg c, bnd_s, bnd_s, g2, bnd_s, if_neg (by omega), if_neg (by omega), w64_eq (by omega) (by omega)]
    exact ⟨_, rfl, rfl⟩
/-! what is likely: the reference's -/
theorem likely_L {R : Nat → Int} {g : Int} {N st : Nat} (hB : townB R) (hN : N ≤ 6) : ∀ (m n k : Nat) (S : SS), m + k = N → m < n → R 2 ≠ 0 → S 131 = R → (∀ a s, a < (20 * R 1).toNat → s < 8 → S 138 (8 * a + s) = nowG R g a s) → (∀ j, j < 120 → S 142 j = itA (nowG R g) true (R 2).toNat (20 * R 1).toNat st k j) → (∀ j, j < 120 → S 143 j = 0) → ∃ S', fX12_laysLikely_L10 N n (((R 2).toNat ^ k : Nat) : Int) k S = some ((((R 2).toNat ^ N : Nat) : Int), S') ∧ ∀ j, j < 120 → S' 142 j = itA (nowG R g) true (R 2).toNat (20 * R 1).toNat st N j := by
  have h2 := hB.2.1
  intro m
  induction m with
  | zero =>
    intro n k S hk hn hz hR hx h52 h53
    obtain ⟨n, rfl⟩ := suc_of hn
    have ek : k = N := by omega
    subst ek
    unfold fX12_laysLikely_L10
    rw [if_pos (by omega)]
    exact ⟨S, rfl, h52⟩
  | succ m ih =>
    intro n k S hk hn hz hR hx h52 h53
    obtain ⟨n, rfl⟩ := suc_of hn
    obtain ⟨S1, q1, q2, q3⟩ := goesMany_ok (S := S) (l1 := 1) (stay := true) (Z := (R 2).toNat) (Or.inr ⟨rfl, rfl⟩) rfl (nowG_lt hB (g := g)) nowG_m hB rfl (itA_b (st := st) hB (by omega) (show k ≤ 12 by omega)) hR hx h52 h53
    have f1 : ∀ a, (a < 142 ∨ 143 < a) → S1 a = S a := fun a ha => w_fX12_goesMany q1 ha
    have r2 : S 131 (2 : Int).toNat = R 2 := by rw [hR]; rfl
    have r2' : S1 131 (2 : Int).toNat = R 2 := by rw [f1 131 (by omega), hR]; rfl
    have p := pow_b (show (R 2).toNat ≤ 8 by omega) (show k + 1 ≤ 6 by omega)
    have e : (8 : Nat) ^ 6 = 262144 := by decide
    have es : (((R 2).toNat ^ k : Nat) : Int) * R 2 = (((R 2).toNat ^ (k + 1) : Nat) : Int) := by
      rw [Nat.pow_succ, Int.natCast_mul]
      have : R 2 = (((R 2).toNat : Nat) : Int) := by omega
      rw [← this]
    unfold fX12_laysLikely_L10
    rw [if_neg (by omega), rdA_ok (by decide) (by decide), r2, if_neg (by omega), q1, bnd_s, rdA_ok (by decide) (by decide), r2', lt_ok, lt_ok, es, w32_eq (x := (((R 2).toNat ^ (k + 1) : Nat) : Int)) (by omega) (by omega), w32_k (by omega)]
    exact ih n (k + 1) S1 (by omega) (by omega) hz ((f1 131 (by omega)).trans hR) (fun a s ha hs => by rw [f1 138 (by omega)]; exact hx a s ha hs) q2 q3
theorem laysLikely_ok {S : SS} {g : Int} {N : Nat} (hB : townB (S 131)) (hb : stBd (S 131) 34 (S 131 1)) (hg : 0 ≤ g ∧ g < S 131 3) (hN : N ≤ 6) : ∃ S', fX12_laysLikely g N S = some ((((S 131 2).toNat ^ (if true = true ∧ S 131 2 = 0 then 0 else N) : Nat) : Int), S') ∧ (∀ j, j < 120 → S' 142 j = itA (nowG (S 131) g) true (S 131 2).toNat (20 * S 131 1).toNat (spotP (S 131) g).toNat (if true = true ∧ S 131 2 = 0 then 0 else N) j) ∧ ∀ a, (a < 135 ∨ 136 < a) ∧ a ≠ 138 ∧ (a < 142 ∨ 143 < a) → S' a = S a := by
  obtain ⟨S1, b1, b2, b3, b4, b5⟩ := begins_ok (S := S) (g := g) true (S 131 2).toNat hB hb hg
  have e1 : S1 131 = S 131 := b5 131 (by omega)
  by_cases z : S 131 2 = 0
  · rw [if_pos (c := true = true ∧ S 131 2 = 0) ⟨rfl, z⟩]
    refine ⟨S1, ?_, b3, b5⟩
    have r2 : S1 131 (2 : Int).toNat = 0 := by rw [e1]; exact z
    have l : fX12_laysLikely_L10 N FU 1 0 S1 = some (1, S1) := by
      show fX12_laysLikely_L10 N (999999 + 1) 1 0 S1 = some (1, S1)
      unfold fX12_laysLikely_L10
      by_cases n0 : (N : Int) ≤ 0
      · rw [if_pos n0]
      · rw [if_neg n0, rdA_ok (by decide) (by decide), r2, if_pos (by decide)]
    unfold fX12_laysLikely
    rw [b1, bnd_s, l, bnd_s, Nat.pow_zero]
    rfl
  · rw [if_neg (c := true = true ∧ S 131 2 = 0) (fun h => z h.2)]
    obtain ⟨S2, q1, q2⟩ := likely_L (R := S 131) (g := g) (st := (spotP (S 131) g).toNat) hB hN N FU 0 S1 (by omega) (by unfold FU; omega) z e1 b2 b3 b4
    have q1' : fX12_laysLikely_L10 N FU 1 0 S1 = some ((((S 131 2).toNat ^ N : Nat) : Int), S2) := by
      rw [Nat.pow_zero] at q1; exact q1
    have e : fX12_laysLikely g N S = some ((((S 131 2).toNat ^ N : Nat) : Int), S2) := by unfold fX12_laysLikely; rw [b1, bnd_s, q1', bnd_s]
    exact ⟨S2, e, q2, fun a ha => w_fX12_laysLikely e ha⟩
