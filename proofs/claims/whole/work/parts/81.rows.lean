/-! the reference's counting, whole; rows -/
theorem addS_bd {nx : Nat → Nat → Int} {stay : Bool} {cur : Nat → Int} {Z M a : Nat} (hM : M ≤ 120) (hnx : ∀ a s, nx a s < M) (hZ : Z ≤ 8) (hcur : nnS cur 100000000000000) (ha : a < 120) : ∀ k, k ≤ Z → ∀ j, j < 120 → 0 ≤ addS nx stay (cur a) a k (addA nx stay cur Z a) j ∧ addS nx stay (cur a) a k (addA nx stay cur Z a) j ≤ 1000000000000000 := by
  intro k hk j hj
  have nA := addA_nn (stay := stay) (Z := Z) hM hnx hcur.1 a
  have s1 := addS_nn (stay := stay) (a := a) hM hnx (hcur.1 a) nA k
  have s2 := ysum_ge 120 s1.1 hj
  have s3 := s1.2
  have hc2 := hcur.2
  have y1 : ysum cur a + cur a ≤ ysum cur 120 := by
    have mono : ∀ d m, ysum cur m ≤ ysum cur (m + d) := by
      intro d
      induction d with
      | zero => intro m; exact Int.le_refl _
      | succ d ihd => intro m; have := ihd m; have := hcur.1 (m + d); show _ ≤ ysum cur (m + d) + cur (m + d); omega
    have := mono (120 - (a + 1)) (a + 1)
    rw [show a + 1 + (120 - (a + 1)) = 120 by omega] at this
    exact this
  have y0 := ysum_nn a hcur.1
  have k1 : (k : Int) * cur a ≤ (Z : Int) * cur a := Int.mul_le_mul_of_nonneg_right (by omega) (hcur.1 a)
  have k2 : (Z : Int) * (ysum cur a + cur a) ≤ 8 * 100000000000000 := Int.mul_le_mul (by omega) (by omega) (by have := hcur.1 a; omega) (by omega)
  rw [Int.mul_add] at k2
  exact ⟨s1.1 j, by omega⟩
theorem many_mid {nx : Nat → Nat → Int} {R : Nat → Int} {Z M : Nat} {cur : Nat → Int} {l1 : Int} {stay : Bool} (hl : (l1 = 0 ∧ stay = false) ∨ (l1 = 1 ∧ stay = true)) (hM : M = (20 * R 1).toNat) (hnx : ∀ a s, nx a s < M) (hnv : ∀ a s, nx a s = -1 ∨ 0 ≤ nx a s) (hB : townB R) (hZ : Z = (R 2).toNat) (hcur : nnS cur 100000000000000) :
    ∀ (m n a : Nat) (S : SS), m + a = M → m < n → S 131 = R → (∀ a s, a < M → s < 8 → S 138 (8 * a + s) = nx a s) → (∀ j, j < 120 → S 142 j = cur j) → (∀ j, j < 120 → S 143 j = addA nx stay cur Z a j) → ∃ S', fX12_goesMany_L2 l1 n a S = some S' ∧ ∀ j, j < 120 → S' 143 j = addA nx stay cur Z M j := by
  have h1 := hB.1
  have h2 := hB.2.1
  intro m
  induction m with
  | zero =>
    intro n a S hk hn hR hx h52 h53
    obtain ⟨n, rfl⟩ := suc_of hn
    have ek : a = M := by omega
    have r1 : S 131 (1 : Int).toNat = R 1 := by rw [hR]; rfl
    unfold fX12_goesMany_L2 fX12_stands
    rw [rdA_ok (by decide) (by decide), r1, w32_eq (by omega) (by omega), bnd_s, if_pos (by omega)]
    rw [ek] at h53
    exact ⟨S, rfl, h53⟩
  | succ m ih =>
    intro n a S hk hn hR hx h52 h53
    obtain ⟨n, rfl⟩ := suc_of hn
    have r1 : S 131 (1 : Int).toNat = R 1 := by rw [hR]; rfl
    have r2 : S 131 (2 : Int).toNat = R 2 := by rw [hR]; rfl
    have e1 : addA nx stay cur Z (a + 1) = if cur a = 0 then addA nx stay cur Z a else addS nx stay (cur a) a Z (addA nx stay cur Z a) := rfl
    have ca := ysum_ge 120 hcur.1 (show a < 120 by omega)
    have c2 := hcur.2
    have c0 := hcur.1 a
    have st : ∃ S1, fX12_goesMany_L12 l1 a FU 0 S = some S1 ∧ ∀ j, j < 120 → S1 143 j = addA nx stay cur Z (a + 1) j := by
      by_cases c : cur a = 0
      · refine ⟨S, ?_, by rw [e1, if_pos c]; exact h53⟩
        show fX12_goesMany_L12 l1 a (999999 + 1) 0 S = some S
        unfold fX12_goesMany_L12
        rw [rdA_ok (by decide) (by decide), r2]
        by_cases z : R 2 ≤ 0
        · rw [if_pos z]
        · rw [if_neg z, rdA_ok (by omega) (by omega), Int.toNat_natCast, h52 a (by omega), c, if_pos (by rw [lc_s]; decide)]
      · rw [e1, if_neg c]
        exact many_in (acc := addA nx stay cur Z a) hl (by omega) hnx hnv hB hZ (by omega) ⟨by omega, by omega⟩ (addS_bd (by omega) hnx (by omega) hcur (by omega)) Z FU 0 S (by omega) (by unfold FU; omega) hR (fun s hs => hx a s (by omega) hs) h52 h53
    obtain ⟨S1, q1, q2⟩ := st
    have f1 : ∀ b, b ≠ 143 → S1 b = S b := fun b hb => w_fX12_goesMany_L12 hb _ _ _ _ q1
    unfold fX12_goesMany_L2 fX12_stands
    rw [rdA_ok (by decide) (by decide), r1, w32_eq (by omega) (by omega), bnd_s, if_neg (by omega), q1, bnd_s, lt_ok, w32_k (by omega)]
    exact ih n (a + 1) S1 (by omega) (by omega) ((f1 131 (by decide)).trans hR) (fun a s ha hs => by rw [f1 138 (by decide)]; exact hx a s ha hs) (fun j hj => by rw [f1 142 (by decide)]; exact h52 j hj) q2
theorem many_mv {f : Nat → Int} : ∀ (m n k : Nat) (S : SS), m + k = 120 → m < n → (∀ j, j < 120 → S 142 j = if j < k then f j else S 142 j) → (∀ j, j < 120 → S 143 j = if j < k then 0 else f j) → ∃ S', fX12_goesMany_L104 n k S = some S' ∧ (∀ j, j < 120 → S' 142 j = f j) ∧ ∀ j, j < 120 → S' 143 j = 0 := by
  intro m
  induction m with
  | zero =>
    intro n k S hk hn ha hb
    obtain ⟨n, rfl⟩ := suc_of hn
    unfold fX12_goesMany_L104
    rw [if_pos (by omega)]
    exact ⟨S, rfl, fun j hj => by rw [ha j hj, if_pos (by omega)], fun j hj => by rw [hb j hj, if_pos (by omega)]⟩
  | succ m ih =>
    intro n k S hk hn ha hb
    obtain ⟨n, rfl⟩ := suc_of hn
    have e : S 143 k = f k := by rw [hb k (by omega), if_neg (by omega)]
    unfold fX12_goesMany_L104
    rw [if_neg (by omega), rdA_ok (by omega) (by omega), wrA_ok (by omega) (by omega), wrA_ok (by omega) (by omega), Int.toNat_natCast, e, lt_ok, w32_k (by omega)]
    refine ih n (k + 1) (up (up S 142 k (f k)) 143 k 0) (by omega) (by omega) (fun j hj => ?_) (fun j hj => ?_)
    · rw [up_row (by decide), up_at]
      by_cases c : j = k
      · rw [if_pos c, if_pos (by omega), c]
      · rw [if_neg c]
        by_cases c2 : j < k
        · rw [if_pos (by omega), ha j hj, if_pos c2]
        · rw [if_neg (by omega)]
    · rw [up_at, up_row (by decide)]
      by_cases c : j = k
      · rw [if_pos c, if_pos (by omega)]
      · rw [if_neg c, hb j hj]
        by_cases c2 : j < k
        · rw [if_pos c2, if_pos (by omega)]
        · rw [if_neg c2, if_neg (by omega)]
theorem goesMany_ok {nx : Nat → Nat → Int} {R : Nat → Int} {Z M : Nat} {cur : Nat → Int} {l1 : Int} {stay : Bool} {S : SS} (hl : (l1 = 0 ∧ stay = false) ∨ (l1 = 1 ∧ stay = true)) (hM : M = (20 * R 1).toNat) (hnx : ∀ a s, nx a s < M) (hnv : ∀ a s, nx a s = -1 ∨ 0 ≤ nx a s) (hB : townB R) (hZ : Z = (R 2).toNat) (hcur : nnS cur 100000000000000) (hR : S 131 = R) (hx : ∀ a s, a < M → s < 8 → S 138 (8 * a + s) = nx a s) (h52 : ∀ j, j < 120 → S 142 j = cur j) (h53 : ∀ j, j < 120 → S 143 j = 0) :
    ∃ S', fX12_goesMany l1 S = some S' ∧ (∀ j, j < 120 → S' 142 j = addA nx stay cur Z M j) ∧ ∀ j, j < 120 → S' 143 j = 0 := by
  have h1 := hB.1
  obtain ⟨S1, q1, q2⟩ := many_mid hl hM hnx hnv hB hZ hcur M FU 0 S (by omega) (by unfold FU; omega) hR hx h52 h53
  have q1' : fX12_goesMany_L2 l1 FU 0 S = some S1 := q1
  obtain ⟨S2, z1, z2, z3⟩ := many_mv (f := addA nx stay cur Z M) 120 FU 0 S1 (by omega) (by decide) (fun j hj => by rw [if_neg (by omega)]) (fun j hj => by rw [if_neg (by omega)]; exact q2 j hj)
  have z1' : fX12_goesMany_L104 FU 0 S1 = some S2 := z1
  refine ⟨S2, ?_, z2, z3⟩
  unfold fX12_goesMany
  rw [q1', bnd_s, z1', bnd_s]
theorem bm_loop {g : Int} {R : Nat → Int} (hB : townB R) (hb : stBd R 34 (R 1)) (hg : 0 ≤ g ∧ g < 3) : ∀ (m n k : Nat) (S : SS), m + k = 120 → m < n → S 131 = R → ∃ S', fX12_beginsMany_L8 g n k S = some S' ∧ (∀ j, j < 120 → S' 142 j = if k ≤ j then (if j = (spotP R g).toNat then 1 else 0) else S 142 j) ∧ ∀ j, j < 120 → S' 143 j = if k ≤ j then 0 else S 143 j := by
  have sp := spotP_b hb hg.1 hg.2
  intro m
  induction m with
  | zero =>
    intro n k S hk hn hR
    obtain ⟨n, rfl⟩ := suc_of hn
    unfold fX12_beginsMany_L8
    rw [if_pos (by omega)]
    exact ⟨S, rfl, fun j hj => by rw [if_neg (c := k ≤ j) (by omega)], fun j hj => by rw [if_neg (c := k ≤ j) (by omega)]⟩
  | succ m ih =>
    intro n k S hk hn hR
    obtain ⟨n, rfl⟩ := suc_of hn
    have st := standOf_ok (S := S) (g := g) (by rw [hR]; exact hb) (by rw [hR]; exact hB) hg.1 hg.2
    rw [hR] at st
    have e : (if (k : Int) = spotP R g then some 1 else some 0 : Option Int) = some (if k = (spotP R g).toNat then 1 else 0) := by
      by_cases c : k = (spotP R g).toNat
      · rw [if_pos (by omega), if_pos c]
      · rw [if_neg (by omega), if_neg c]
    unfold fX12_beginsMany_L8
    rw [if_neg (by omega), st, bnd_s, e, bnd_s, wrA_ok (by omega) (by omega), wrA_ok (by omega) (by omega), Int.toNat_natCast, lt_ok, w32_k (by omega)]
    obtain ⟨S', q1, q2, q3⟩ := ih n (k + 1) (up (up S 142 k (if k = (spotP R g).toNat then 1 else 0)) 143 k 0) (by omega) (by omega) (by rw [up_row (by decide), up_row (by decide)]; exact hR)
    refine ⟨S', q1, fun j hj => ?_, fun j hj => ?_⟩
    · rw [q2 j hj, up_row (by decide), up_at]
      by_cases cj : j = k
      · rw [if_neg (c := k + 1 ≤ j) (by omega), if_pos cj, if_pos (c := k ≤ j) (by omega), cj]
      · by_cases c2 : k ≤ j
        · rw [if_pos (c := k + 1 ≤ j) (by omega), if_pos c2]
        · rw [if_neg (c := k + 1 ≤ j) (by omega), if_neg cj, if_neg c2]
    · rw [q3 j hj, up_at, up_row (by decide)]
      by_cases cj : j = k
      · rw [if_neg (c := k + 1 ≤ j) (by omega), if_pos cj, if_pos (c := k ≤ j) (by omega)]
      · by_cases c2 : k ≤ j
        · rw [if_pos (c := k + 1 ≤ j) (by omega), if_pos c2]
        · rw [if_neg (c := k + 1 ≤ j) (by omega), if_neg cj, if_neg c2]
theorem begins_ok {S : SS} {g : Int} (stay : Bool) (Z : Nat) (hB : townB (S 131)) (hb : stBd (S 131) 34 (S 131 1)) (hg : 0 ≤ g ∧ g < S 131 3) : ∃ S', fX12_beginsMany g S = some S' ∧ (∀ a s, a < (20 * S 131 1).toNat → s < 8 → S' 138 (8 * a + s) = nowG (S 131) g a s) ∧ (∀ j, j < 120 → S' 142 j = itA (nowG (S 131) g) stay Z (20 * S 131 1).toNat (spotP (S 131) g).toNat 0 j) ∧ (∀ j, j < 120 → S' 143 j = 0) ∧ ∀ a, (a < 135 ∨ 136 < a) ∧ a ≠ 138 ∧ (a < 142 ∨ 143 < a) → S' a = S a := by
  have h3 := hB.2.2.1
  obtain ⟨S1, a1, a2, a3⟩ := lays_now hB hb hg
  obtain ⟨S2, b1, b2, b3⟩ := bm_loop (g := g) hB hb (by omega) 120 FU 0 S1 (by omega) (by decide) (a3 131 (by omega) (by omega))
  have b1' : fX12_beginsMany_L8 g FU 0 S1 = some S2 := b1
  have e : fX12_beginsMany g S = some S2 := by unfold fX12_beginsMany; rw [a1, bnd_s, b1', bnd_s]
  have f2 : ∀ a, (a < 142 ∨ 143 < a) → S2 a = S1 a := fun a ha => w_fX12_beginsMany_L8 ha _ _ _ _ b1
  exact ⟨S2, e, fun a s ha hs => by rw [f2 138 (by omega)]; exact a2 a s ha hs, fun j hj => by rw [b2 j hj, if_pos (c := 0 ≤ j) (Nat.zero_le j)]; rfl, fun j hj => by rw [b3 j hj, if_pos (c := 0 ≤ j) (Nat.zero_le j)], fun a ha => w_fX12_beginsMany e ha⟩
theorem rows_ml {R : Nat → Int} {g c y : Int} {N st : Nat} (hB : townB R) (hN : N ≤ 12) : ∀ (m n k : Nat) (S : SS), m + k = N → m < n → S 131 = R → (∀ a s, a < (20 * R 1).toNat → s < 8 → S 138 (8 * a + s) = nowG R g a s) → (∀ j, j < 120 → S 142 j = itA (nowG R g) false (R 2).toNat (20 * R 1).toNat st k j) → (∀ j, j < 120 → S 143 j = 0) → ∃ S', fX12_rows_L48 c y N n k S = some S' ∧ ∀ j, j < 120 → S' 142 j = itA (nowG R g) false (R 2).toNat (20 * R 1).toNat st N j := by
  have h2 := hB.2.1
  intro m
  induction m with
  | zero =>
    intro n k S hk hn hR hx h52 h53
    obtain ⟨n, rfl⟩ := suc_of hn
    have ek : k = N := by omega
    unfold fX12_rows_L48
    rw [if_pos (by omega)]
    rw [ek] at h52
    exact ⟨S, rfl, h52⟩
  | succ m ih =>
    intro n k S hk hn hR hx h52 h53
    obtain ⟨n, rfl⟩ := suc_of hn
    obtain ⟨S1, q1, q2, q3⟩ := goesMany_ok (S := S) (l1 := 0) (stay := false) (Z := (R 2).toNat) (Or.inl ⟨rfl, rfl⟩) rfl (nowG_lt hB (g := g)) nowG_m hB rfl (itA_b (st := st) hB (by omega) (show k ≤ 12 by omega)) hR hx h52 h53
    have f1 : ∀ a, (a < 142 ∨ 143 < a) → S1 a = S a := fun a ha => w_fX12_goesMany q1 ha
    unfold fX12_rows_L48
    rw [if_neg (by omega), q1, bnd_s, lt_ok, w32_k (by omega)]
    exact ih n (k + 1) S1 (by omega) (by omega) ((f1 131 (by omega)).trans hR) (fun a s ha hs => by rw [f1 138 (by omega)]; exact hx a s ha hs) q2 q3
