theorem pow_b {Z k N : Nat} (hZ : Z ≤ 8) (hk : k ≤ N) : Z ^ k ≤ 8 ^ N := Nat.le_trans (Nat.pow_le_pow_left hZ k) (Nat.pow_le_pow_right (by omega) hk)
theorem itA_b {R : Nat → Int} {g : Int} {stay : Bool} {st Z k : Nat} (hB : townB R) (hZ : Z ≤ 8) (hk : k ≤ 12) : nnS (itA (nowG R g) stay Z (20 * R 1).toNat st k) 100000000000000 := by
  have h1 := hB.1
  have := itA_nn (stay := stay) (Z := Z) (st := st) (show (20 * R 1).toNat ≤ 120 by omega) (nowG_lt hB (g := g)) k
  have p := pow_b hZ hk
  have e : (8 : Nat) ^ 12 = 68719476736 := by decide
  exact ⟨this.1, by have := this.2; omega⟩
theorem cw_loop {R : Nat → Int} {g : Int} {Z N st : Nat} {l3 : Int} {stay : Bool} (hl3 : (l3 = 0 ∧ stay = false) ∨ (l3 = 1 ∧ stay = true)) (hB : townB R) (hg : 0 ≤ g ∧ g < R 3) (hZ : Z = (R 2).toNat) (hN : N ≤ 12) (hst : st < (20 * R 1).toNat) :
    ∀ (m n k : Nat) (S : SS), m + k = N → m < n → Core S → Stand S → S 131 = R → (∀ j, j < 120 → S 52 j = itA (nowG R g) stay Z (20 * R 1).toNat st k j) → S 51 3 = ((Z ^ k : Nat) : Int) → ∃ S', fX7_countWays_L61 g N 7 l3 n k S = some S' ∧ lanes S' ∧ (∀ j, j < 120 → S' 52 j = itA (nowG R g) stay Z (20 * R 1).toNat st N j) ∧ S' 51 3 = ((Z ^ N : Nat) : Int) := by
  have h1 := hB.1
  have h2 := hB.2.1
  intro m
  induction m with
  | zero =>
    intro n k S hk hn hC hS hR h52 h51
    obtain ⟨n, rfl⟩ := suc_of hn
    have ek : k = N := by omega
    subst ek
    unfold fX7_countWays_L61
    rw [if_pos (by omega)]
    exact ⟨S, rfl, hC.2.2, h52, h51⟩
  | succ m ih =>
    intro n k S hk hn hC hS hR h52 h51
    obtain ⟨n, rfl⟩ := suc_of hn
    obtain ⟨S1, q1, q2, q3, q4⟩ := oneMore_ok hl3 hB hg hZ (itA_b (stay := stay) (st := st) hB (by omega) (show k ≤ 12 by omega)) hC hS hR h52
    have e1 : ∀ j, j < 120 → S1 52 j = itA (nowG R g) stay Z (20 * R 1).toNat st (k + 1) j := fun j hj => by
      rw [q3 j hj]
      have := addA_more (nx := nowG R g) (stay := stay) (cur := itA (nowG R g) stay Z (20 * R 1).toNat st k) (Z := Z) (M := (20 * R 1).toNat) (itA_hi (nowG_lt hB) hst k) (120 - (20 * R 1).toNat)
      rw [show (20 * R 1).toNat + (120 - (20 * R 1).toNat) = 120 by omega] at this
      rw [this]; rfl
    have p := pow_b (show Z ≤ 8 by omega) (show k + 1 ≤ 12 by omega)
    have e : (8 : Nat) ^ 12 = 68719476736 := by decide
    have es : ((Z ^ k : Nat) : Int) * R 2 = ((Z ^ (k + 1) : Nat) : Int) := by
      rw [Nat.pow_succ, Int.natCast_mul]
      have : R 2 = (Z : Int) := by omega
      rw [this]
    have r26 : S1 2 6 = R 2 := by rw [q4 2 (by omega) (by decide) (by decide), hC.1.1.2.1, hR]
    unfold fX7_countWays_L61
    rw [if_neg (by omega), q1, bnd_s, lt_ok, lt_ok, w32_k (by omega), q4 51 (by omega) (by decide) (by decide), h51, r26, es, w64_eq (by omega) (by omega)]
    have fu : ∀ a, a ≠ 51 → up S1 51 3 ((Z ^ (k + 1) : Nat) : Int) a = S1 a := fun a ha => up_row ha
    have fz : ∀ b, (b < 31 ∨ 33 < b) → b ≠ 51 → b ≠ 52 → b ≠ 53 → up S1 51 3 ((Z ^ (k + 1) : Nat) : Int) b = S b := fun b w x y z => (fu b x).trans (q4 b w y z)
    exact ih n (k + 1) _ (by omega) (by omega) (core_fr (fun b hb => fz b (by omega) (by omega) (by omega) (by omega)) (lanes_fr (fu _ (by decide)) (fu _ (by decide)) (fu _ (by decide)) q2) hC) (stand_fr (fz _ (by omega) (by decide) (by decide) (by decide)) (fz _ (by omega) (by decide) (by decide) (by decide)) (fz _ (by omega) (by decide) (by decide) (by decide)) (fz _ (by omega) (by decide) (by decide) (by decide)) (fz _ (by omega) (by decide) (by decide) (by decide)) hS) ((fz 131 (by omega) (by decide) (by decide) (by decide)).trans hR) (fun j hj => by rw [fu 52 (by decide)]; exact e1 j hj) up_self
theorem countWays_ok {S : SS} {g l3 : Int} {stay : Bool} {N : Nat} (hl3 : (l3 = 0 ∧ stay = false) ∨ (l3 = 1 ∧ stay = true)) (hC : Core S) (hS : Stand S) (hg : 0 ≤ g ∧ g < S 131 3) (hN : N ≤ 12) :
    ∃ S', fX7_countWays g (spotP (S 131) g) N 7 l3 S = some S' ∧ lanes S' ∧ (∀ j, j < 120 → S' 52 j = itA (nowG (S 131) g) stay (S 131 2).toNat (20 * S 131 1).toNat (spotP (S 131) g).toNat (if stay = true ∧ S 131 2 = 0 then 0 else N) j) ∧ S' 51 3 = (((S 131 2).toNat ^ (if stay = true ∧ S 131 2 = 0 then 0 else N) : Nat) : Int) := by
  obtain ⟨hR, hB, hL⟩ := id hC
  have h1 := hB.1
  have h2 := hB.2.1
  have h3 := hB.2.2.1
  obtain ⟨nb, nb'⟩ := now_b hS
  obtain ⟨s1, s2, s3⟩ := spot_now hS hB hg.1 (show g < 3 by omega)
  obtain ⟨S1, a1, a2, a3, a4⟩ := settle_ok (S := S) (b := S 131 48) nb'.1 nb'.2 hB hL
  obtain ⟨S2, b1, b2, b3⟩ := @fill_d0a16_120 52 0 S1
  unfold fX7_countWays
  rw [nb, a1, bnd_s, b1, bnd_s, lt_ok, spot_y s2 (by omega), bnd_s, if_pos rfl, wrA_ok s2 (by omega), bnd_s]
  have g52 : ∀ j, j < 120 → up (up S2 51 3 1) 52 (spotP (S 131) g).toNat 1 52 j = itA (nowG (S 131) g) stay (S 131 2).toNat (20 * S 131 1).toNat (spotP (S 131) g).toNat 0 j := fun j hj => by
    rw [up_at]
    show _ = (if j = (spotP (S 131) g).toNat then (1 : Int) else 0)
    by_cases c : j = (spotP (S 131) g).toNat
    · rw [if_pos c, if_pos c]
    · rw [if_neg c, if_neg c, up_row (by decide)]; exact b2 j hj
  have g51 : up (up S2 51 3 1) 52 (spotP (S 131) g).toNat 1 51 3 = 1 := by rw [up_row (by decide), up_self]
  have fz : ∀ b, b ≠ 30 → b ≠ 33 → b ≠ 51 → b ≠ 52 → up (up S2 51 3 1) 52 (spotP (S 131) g).toNat 1 b = S b := fun b w x y z => by rw [up_row z, up_row y, b3 b z, a4 b w x]
  have l4 : lanes (up (up S2 51 3 1) 52 (spotP (S 131) g).toNat 1) := by
    have q : ∀ b, b ≠ 51 → b ≠ 52 → up (up S2 51 3 1) 52 (spotP (S 131) g).toNat 1 b = S1 b := fun b y z => by rw [up_row z, up_row y, b3 b z]
    exact lanes_fr (q _ (by decide) (by decide)) (q _ (by decide) (by decide)) (q _ (by decide) (by decide)) a2
  generalize up (up S2 51 3 1) 52 (spotP (S 131) g).toNat 1 = S4 at g52 g51 fz l4
  have C4 : Core S4 := core_fr (fun b hb => fz b (by omega) (by omega) (by omega) (by omega)) l4 hC
  have T4 : Stand S4 := stand_fr (fz _ (by decide) (by decide) (by decide) (by decide)) (fz _ (by decide) (by decide) (by decide) (by decide)) (fz _ (by decide) (by decide) (by decide) (by decide)) (fz _ (by decide) (by decide) (by decide) (by decide)) (fz _ (by decide) (by decide) (by decide) (by decide)) hS
  have r26 : S4 2 6 = S 131 2 := by rw [fz 2 (by decide) (by decide) (by decide) (by decide), hR.1.2.1]
  obtain ⟨S5, c1, c2, c3, c4⟩ := cw_loop (N := N) (st := (spotP (S 131) g).toNat) hl3 hB hg rfl hN (by omega) N FU 0 S4 (by omega) (by unfold FU; omega) C4 T4 (fz 131 (by decide) (by decide) (by decide) (by decide)) g52 (by rw [g51, Nat.pow_zero]; rfl)
  have c1' : fX7_countWays_L61 g N 7 l3 FU 0 S4 = some S5 := c1
  obtain ⟨l0, rfl⟩ | ⟨l1, rfl⟩ := hl3
  · rw [if_pos l0, c1', bnd_s, if_neg (c := false = true ∧ S 131 2 = 0) (fun h => absurd h.1 (by decide))]
    exact ⟨S5, rfl, c2, c3, c4⟩
  · rw [if_neg (by omega), r26]
    by_cases z : S 131 2 = 0
    · rw [if_pos z, if_pos (c := true = true ∧ S 131 2 = 0) ⟨rfl, z⟩]
      exact ⟨S4, rfl, l4, g52, by rw [g51, Nat.pow_zero]; rfl⟩
    · rw [if_neg z, c1', bnd_s, if_neg (c := true = true ∧ S 131 2 = 0) (fun h => z h.2)]
      exact ⟨S5, rfl, c2, c3, c4⟩
/-! the reference's counting -/
theorem many_in {nx : Nat → Nat → Int} {R : Nat → Int} {a Z M : Nat} {cur acc : Nat → Int} {l1 : Int} {stay : Bool} (hl : (l1 = 0 ∧ stay = false) ∨ (l1 = 1 ∧ stay = true)) (hM : M ≤ 120) (hnx : ∀ a s, nx a s < M) (hnv : ∀ a s, nx a s = -1 ∨ 0 ≤ nx a s) (hB : townB R) (hZ : Z = (R 2).toNat) (ha : a < M) (hc : 0 < cur a ∧ cur a ≤ 1000000000000000) (hb : ∀ k, k ≤ Z → ∀ j, j < 120 → 0 ≤ addS nx stay (cur a) a k acc j ∧ addS nx stay (cur a) a k acc j ≤ 1000000000000000) :
    ∀ (m n k : Nat) (S : SS), m + k = Z → m < n → S 131 = R → (∀ s, s < 8 → S 138 (8 * a + s) = nx a s) → (∀ j, j < 120 → S 142 j = cur j) → (∀ j, j < 120 → S 143 j = addS nx stay (cur a) a k acc j) → ∃ S', fX12_goesMany_L12 l1 a n k S = some S' ∧ ∀ j, j < 120 → S' 143 j = addS nx stay (cur a) a Z acc j := by
  have h2 := hB.2.1
  intro m
  induction m with
  | zero =>
    intro n k S hk hn hR hx h52 h53
    obtain ⟨n, rfl⟩ := suc_of hn
    have ek : k = Z := by omega
    have r2 : S 131 (2 : Int).toNat = R 2 := by rw [hR]; rfl
    unfold fX12_goesMany_L12
    rw [rdA_ok (by decide) (by decide), r2, if_pos (by omega)]
    rw [ek] at h53
    exact ⟨S, rfl, h53⟩
  | succ m ih =>
    intro n k S hk hn hR hx h52 h53
    obtain ⟨n, rfl⟩ := suc_of hn
    have r2 : S 131 (2 : Int).toNat = R 2 := by rw [hR]; rfl
    have ex : (8 * (a : Int) + (k : Int)).toNat = 8 * a + k := by omega
    have bk := hb k (by omega)
    have hlc : ¬ lc (cur a) 0 ≤ 0 := fun h => by have := lc_le.mp h; omega
    have blk : ∃ S2, (if nx a k = -1 then (if l1 = 0 then some S else (rdA S 143 120 a fun v8 => rdA S 142 120 a fun v10 => wrA S 143 120 a (w64 (v8 + v10)) fun S12 => some S12)) else (rdA S 143 120 (nx a k) fun v15 => rdA S 142 120 a fun v17 => wrA S 143 120 (nx a k) (w64 (v15 + v17)) fun S19 => some S19) : Option SS) = some S2 ∧ (∀ b, b ≠ 143 → S2 b = S b) ∧ ∀ j, j < 120 → S2 143 j = addS nx stay (cur a) a (k + 1) acc j := by
      show ∃ S2 : SS, _ = some S2 ∧ _ ∧ ∀ j, j < 120 → S2 143 j = stp nx stay (cur a) a k (addS nx stay (cur a) a k acc) j
      by_cases c : nx a k = -1
      · rw [if_pos c]
        obtain ⟨l0, rfl⟩ | ⟨l1, rfl⟩ := hl
        · rw [if_pos l0, stp_no (by omega)]; exact ⟨S, rfl, fun _ _ => rfl, h53⟩
        · have ba := bk a (by omega)
          rw [if_neg (by omega), rdA_ok (by omega) (by omega), rdA_ok (by omega) (by omega), Int.toNat_natCast, h53 a (by omega), h52 a (by omega), wrA_ok (by omega) (by omega), Int.toNat_natCast, w64_eq (by omega) (by omega), stp_st (by omega)]
          exact ⟨_, rfl, fun b hb => up_row hb, pt_row h53⟩
      · have n0 : 0 ≤ nx a k := by have := hnv a k; omega
        have n1 := hnx a k
        have ba := bk (nx a k).toNat (by omega)
        rw [if_neg c, rdA_ok (by omega) (by omega), rdA_ok (by omega) (by omega), Int.toNat_natCast, h53 _ (by omega), h52 a (by omega), wrA_ok (by omega) (by omega), w64_eq (by omega) (by omega), stp_ge n0]
        exact ⟨_, rfl, fun b hb => up_row hb, pt_row h53⟩
    obtain ⟨S2, z1, z2, z3⟩ := blk
    unfold fX12_goesMany_L12
    rw [rdA_ok (by decide) (by decide), r2, if_neg (by omega), rdA_ok (by omega) (by omega), Int.toNat_natCast, h52 a (by omega), if_neg hlc, w32_eq (x := 8 * (a : Int)) (by omega) (by omega), w32_eq (x := 8 * (a : Int) + (k : Int)) (by omega) (by omega), rdA_ok (by omega) (by omega), ex, hx k (by omega), z1, bnd_s, lt_ok, w32_k (by omega)]
    exact ih n (k + 1) S2 (by omega) (by omega) ((z2 131 (by decide)).trans hR) (fun s hs => by rw [z2 138 (by decide)]; exact hx s hs) (fun j hj => by rw [z2 142 (by decide)]; exact h52 j hj) z3
