/-! the class's counting -/
theorem stp_ge {nx : Nat → Nat → Int} {stay : Bool} {c : Int} {a s : Nat} {acc : Nat → Int} (h : 0 ≤ nx a s) : stp nx stay c a s acc = pt acc (nx a s).toNat (acc (nx a s).toNat + c) := by unfold stp; rw [if_pos h]
theorem stp_st {nx : Nat → Nat → Int} {c : Int} {a s : Nat} {acc : Nat → Int} (h : nx a s < 0) : stp nx true c a s acc = pt acc a (acc a + c) := by unfold stp; rw [if_neg (by omega), if_pos rfl]
theorem stp_no {nx : Nat → Nat → Int} {c : Int} {a s : Nat} {acc : Nat → Int} (h : nx a s < 0) : stp nx false c a s acc = acc := by unfold stp; rw [if_neg (by omega), if_neg (by decide)]
theorem pt_row {S : SS} {a i : Nat} {v : Int} {f : Nat → Int} (h : ∀ j, j < 120 → S a j = f j) : ∀ j, j < 120 → up S a i v a j = pt f i v j := by
  intro j hj
  rw [up_at]
  unfold pt
  by_cases c : j = i
  · rw [if_pos c, if_pos c]
  · rw [if_neg c, if_neg c]; exact h j hj
theorem more_in {R : Nat → Int} {g : Int} {a Z : Nat} {cur acc : Nat → Int} {l3 : Int} {stay : Bool} (hl3 : (l3 = 0 ∧ stay = false) ∨ (l3 = 1 ∧ stay = true)) (hB : townB R) (hg : 0 ≤ g ∧ g < R 3) (hZ : Z = (R 2).toNat) (ha : a < 120) (hc : 0 ≤ cur a ∧ cur a ≤ 1000000000000000) (hb : ∀ k, k ≤ Z → ∀ j, j < 120 → 0 ≤ addS (nowG R g) stay (cur a) a k acc j ∧ addS (nowG R g) stay (cur a) a k acc j ≤ 1000000000000000) :
    ∀ (m n k : Nat) (S : SS), m + k = Z → m < n → Core S → Stand S → S 131 = R → (∀ j, j < 120 → S 52 j = cur j) → (∀ j, j < 120 → S 53 j = addS (nowG R g) stay (cur a) a k acc j) → ∃ S', fX7_oneMore_L36 g 7 l3 a n k S = some S' ∧ lanes S' ∧ ∀ j, j < 120 → S' 53 j = addS (nowG R g) stay (cur a) a Z acc j := by
  have h2 := hB.2.1
  intro m
  induction m with
  | zero =>
    intro n k S hk hn hC hS hR h52 h53
    obtain ⟨n, rfl⟩ := suc_of hn
    have ek : k = Z := by omega
    unfold fX7_oneMore_L36
    rw [hC.1.1.2.1, hR, if_pos (by omega)]
    rw [ek] at h53
    exact ⟨S, rfl, hC.2.2, h53⟩
  | succ m ih =>
    intro n k S hk hn hC hS hR h52 h53
    obtain ⟨n, rfl⟩ := suc_of hn
    obtain ⟨b1, b2⟩ := now_b hS
    obtain ⟨S1, q1, q2⟩ := after_ok (S := S) (g := g) (s := (k : Int)) (spot := (a : Int)) (p := 7) hC (by rw [hR]; exact hg) (by rw [hR]; omega) (by omega) (now_s hS (by omega) (by omega)).1 b1 b2
    rw [hR, show (40 + (k : Int)).toNat = 40 + k by omega] at q1
    have f1 : ∀ b, (b < 31 ∨ 33 < b) → S1 b = S b := fun b hb => w_fX5_after q1 hb
    have ab := @aftP_b R g k a (R (40 + k)) (R 48) hB ⟨by omega, by omega⟩
    have r1 := hB.1
    have en : nowG R g a k = if 0 ≤ aftP R g k a (R (40 + k)) (R 48) then aftP R g k a (R (40 + k)) (R 48) else -1 := by
      unfold nowG gr
      by_cases c : 0 ≤ aftP R g k a (R (40 + k)) (R 48)
      · rw [if_pos ⟨by omega, c⟩, if_pos c]
      · rw [if_neg (fun h => c h.2), if_neg c]
    have s53 : ∀ j, j < 120 → S1 53 j = addS (nowG R g) stay (cur a) a k acc j := fun j hj => by rw [f1 53 (by omega)]; exact h53 j hj
    have s52 : S1 52 a = cur a := by rw [f1 52 (by omega)]; exact h52 a ha
    have bk := hb k (by omega)
    -- what one street does
    have blk : ∃ b S2, fX11_isSpot (aftP R g k a (R (40 + k)) (R 48)) = some b ∧ (if b = true then (rdA S1 53 120 (aftP R g k a (R (40 + k)) (R 48)) fun v4 => rdA S1 52 120 a fun v6 => wrA S1 53 120 (aftP R g k a (R (40 + k)) (R 48)) (w64 (v4 + v6)) fun S8 => some S8) else (if l3 = 0 then some S1 else (rdA S1 53 120 a fun v10 => rdA S1 52 120 a fun v12 => wrA S1 53 120 a (w64 (v10 + v12)) fun S14 => some S14)) : Option SS) = some S2 ∧ (∀ b, b ≠ 53 → S2 b = S1 b) ∧ ∀ j, j < 120 → S2 53 j = addS (nowG R g) stay (cur a) a (k + 1) acc j := by
      show ∃ (b : Bool) (S2 : SS), _ ∧ _ = some S2 ∧ _ ∧ ∀ j, j < 120 → S2 53 j = stp (nowG R g) stay (cur a) a k (addS (nowG R g) stay (cur a) a k acc) j
      by_cases c : aftP R g k a (R (40 + k)) (R 48) < 0
      · have nl : nowG R g a k < 0 := by rw [en, if_neg (by omega)]; decide
        refine ⟨false, ?_⟩
        rw [if_neg (c := false = true) (by decide)]
        obtain ⟨l0, rfl⟩ | ⟨l1, rfl⟩ := hl3
        · rw [if_pos l0, stp_no nl]; exact ⟨S1, spot_n c, rfl, fun _ _ => rfl, s53⟩
        · have ba := bk a ha
          rw [if_neg (by omega), rdA_ok (by omega) (by omega), rdA_ok (by omega) (by omega), Int.toNat_natCast, s53 a ha, s52, wrA_ok (by omega) (by omega), Int.toNat_natCast, w64_eq (by omega) (by omega), stp_st nl]
          exact ⟨_, spot_n c, rfl, fun b hb => up_row hb, pt_row s53⟩
      · have ng : nowG R g a k = aftP R g k a (R (40 + k)) (R 48) := by rw [en, if_pos (by omega)]
        have ba := bk (aftP R g k a (R (40 + k)) (R 48)).toNat (by omega)
        refine ⟨true, ?_⟩
        rw [if_pos (c := true = true) rfl, rdA_ok (by omega) (by omega), rdA_ok (by omega) (by omega), Int.toNat_natCast, s53 _ (by omega), s52, wrA_ok (by omega) (by omega), w64_eq (by omega) (by omega), stp_ge (by rw [ng]; omega), ng]
        exact ⟨_, spot_y (by omega) (by omega), rfl, fun b hb => up_row hb, pt_row s53⟩
    obtain ⟨bb, S2, z0, z1, z2, z3⟩ := blk
    have fz : ∀ b, (b < 31 ∨ 33 < b) → b ≠ 53 → S2 b = S b := fun b h h' => (z2 b h').trans (f1 b h)
    have l2 : lanes S2 := lanes_fr (z2 _ (by decide)) (z2 _ (by decide)) (z2 _ (by decide)) q2
    unfold fX7_oneMore_L36
    rw [hC.1.1.2.1, hR, if_neg (by omega), q1, bnd_s]
    simp only
    rw [z0, bnd_s, z1, bnd_s, lt_ok, w32_k (by omega)]
    exact ih n (k + 1) S2 (by omega) (by omega) (core_fr (fun b hb => fz b (by omega) (by omega)) l2 hC) (stand_fr (fz _ (by omega) (by omega)) (fz _ (by omega) (by omega)) (fz _ (by omega) (by omega)) (fz _ (by omega) (by omega)) (fz _ (by omega) (by omega)) hS) ((fz 131 (by omega) (by omega)).trans hR) (fun j hj => by rw [fz 52 (by omega) (by omega)]; exact h52 j hj) z3
theorem more_out {R : Nat → Int} {g : Int} {Z : Nat} {cur : Nat → Int} {l3 : Int} {stay : Bool} (hl3 : (l3 = 0 ∧ stay = false) ∨ (l3 = 1 ∧ stay = true)) (hB : townB R) (hg : 0 ≤ g ∧ g < R 3) (hZ : Z = (R 2).toNat) (hcur : nnS cur 100000000000000) :
    ∀ (m n a : Nat) (S : SS), m + a = 120 → m < n → Core S → Stand S → S 131 = R → (∀ j, j < 120 → S 52 j = cur j) → (∀ j, j < 120 → S 53 j = addA (nowG R g) stay cur Z a j) → ∃ S', fX7_oneMore_L11 g 7 l3 n a S = some S' ∧ lanes S' ∧ ∀ j, j < 120 → S' 53 j = addA (nowG R g) stay cur Z 120 j := by
  have h2 := hB.2.1
  have h1 := hB.1
  intro m
  induction m with
  | zero =>
    intro n a S hk hn hC hS hR h52 h53
    obtain ⟨n, rfl⟩ := suc_of hn
    have ek : a = 120 := by omega
    subst ek
    unfold fX7_oneMore_L11
    rw [if_pos (by omega)]
    exact ⟨S, rfl, hC.2.2, h53⟩
  | succ m ih =>
    intro n a S hk hn hC hS hR h52 h53
    obtain ⟨n, rfl⟩ := suc_of hn
    have ca := ysum_ge 120 hcur.1 (show a < 120 by omega)
    have hM : (20 * R 1).toNat ≤ 120 := by omega
    unfold fX7_oneMore_L11
    rw [if_neg (by omega), rdA_ok (by omega) (by omega), Int.toNat_natCast, h52 a (by omega), w32_k (by omega)]
    have e1 : addA (nowG R g) stay cur Z (a + 1) = if cur a = 0 then addA (nowG R g) stay cur Z a else addS (nowG R g) stay (cur a) a Z (addA (nowG R g) stay cur Z a) := rfl
    by_cases c : cur a = 0
    · rw [c, if_pos (lc_s 0), bnd_s, lt_ok]
      exact ih n (a + 1) S (by omega) (by omega) hC hS hR h52 (by rw [e1, if_pos c]; exact h53)
    · have hl : ¬ lc (cur a) 0 = 0 := by
        have := hcur.1 a
        unfold lc
        rw [if_neg (by omega), if_neg c]; decide
      have nA := addA_nn (stay := stay) (Z := Z) hM (nowG_lt hB (g := g)) hcur.1 a
      have ya : ysum cur a ≤ ysum cur 120 := by
        have mono : ∀ d m, ysum cur m ≤ ysum cur (m + d) := by
          intro d
          induction d with
          | zero => intro m; exact Int.le_refl _
          | succ d ihd => intro m; have := ihd m; have := hcur.1 (m + d); show _ ≤ ysum cur (m + d) + cur (m + d); omega
        have := mono (120 - a) a
        rw [show a + (120 - a) = 120 by omega] at this
        exact this
      have y0 := ysum_nn a hcur.1
      have hc2 := hcur.2
      have zb : (Z : Int) * ysum cur a ≤ 800000000000000 := by
        have : (Z : Int) * ysum cur a ≤ 8 * 100000000000000 := Int.mul_le_mul (by omega) (by omega) y0 (by omega)
        omega
      have hb : ∀ k, k ≤ Z → ∀ j, j < 120 → 0 ≤ addS (nowG R g) stay (cur a) a k (addA (nowG R g) stay cur Z a) j ∧ addS (nowG R g) stay (cur a) a k (addA (nowG R g) stay cur Z a) j ≤ 1000000000000000 := by
        -- the sum over a + 1 spots bounds it
        intro k hk j hj
        have s1 := addS_nn (stay := stay) (a := a) hM (nowG_lt hB (g := g)) (hcur.1 a) nA k
        have s2 := ysum_ge 120 s1.1 hj
        have s3 := s1.2
        have y1 : ysum cur a + cur a ≤ ysum cur 120 := by
          have mono : ∀ d m, ysum cur m ≤ ysum cur (m + d) := by
            intro d
            induction d with
            | zero => intro m; exact Int.le_refl _
            | succ d ihd => intro m; have := ihd m; have := hcur.1 (m + d); show _ ≤ ysum cur (m + d) + cur (m + d); omega
          have := mono (120 - (a + 1)) (a + 1)
          rw [show a + 1 + (120 - (a + 1)) = 120 by omega] at this
          exact this
        have k1 : (k : Int) * cur a ≤ (Z : Int) * cur a := Int.mul_le_mul_of_nonneg_right (by omega) (hcur.1 a)
        have k2 : (Z : Int) * (ysum cur a + cur a) ≤ 8 * 100000000000000 := Int.mul_le_mul (by omega) (by omega) (by have := hcur.1 a; omega) (by omega)
        rw [Int.mul_add] at k2
        exact ⟨s1.1 j, by omega⟩
      obtain ⟨S1, q1, q2, q3⟩ := more_in (a := a) (acc := addA (nowG R g) stay cur Z a) hl3 hB hg hZ (by omega) ⟨hcur.1 a, by omega⟩ hb Z FU 0 S (by omega) (by unfold FU; omega) hC hS hR h52 h53
      have q1' : fX7_oneMore_L36 g 7 l3 a FU 0 S = some S1 := q1
      have f1 : ∀ b, (b < 31 ∨ 33 < b) ∧ b ≠ 53 → S1 b = S b := fun b hb => w_fX7_oneMore_L36 (by omega) _ _ _ _ q1
      rw [if_neg hl, q1', bnd_s, bnd_s, lt_ok]
      exact ih n (a + 1) S1 (by omega) (by omega) (core_fr (fun b hb => f1 b (by omega)) q2 hC) (stand_fr (f1 _ (by omega)) (f1 _ (by omega)) (f1 _ (by omega)) (f1 _ (by omega)) (f1 _ (by omega)) hS) ((f1 131 (by omega)).trans hR) (fun j hj => by rw [f1 52 (by omega)]; exact h52 j hj) (by rw [e1, if_neg c]; exact q3)
theorem oneMore_ok {R : Nat → Int} {g : Int} {Z : Nat} {cur : Nat → Int} {l3 : Int} {stay : Bool} {S : SS} (hl3 : (l3 = 0 ∧ stay = false) ∨ (l3 = 1 ∧ stay = true)) (hB : townB R) (hg : 0 ≤ g ∧ g < R 3) (hZ : Z = (R 2).toNat) (hcur : nnS cur 100000000000000) (hC : Core S) (hS : Stand S) (hR : S 131 = R) (h52 : ∀ j, j < 120 → S 52 j = cur j) :
    ∃ S', fX7_oneMore g 7 l3 S = some S' ∧ lanes S' ∧ (∀ j, j < 120 → S' 52 j = addA (nowG R g) stay cur Z 120 j) ∧ ∀ b, (b < 31 ∨ 33 < b) → b ≠ 52 → b ≠ 53 → S' b = S b := by
  obtain ⟨S1, e1, e2, e3⟩ := @fill_d0a16_120 53 0 S
  have f1 : ∀ b, b ≠ 53 → S1 b = S b := e3
  obtain ⟨S2, q1, q2, q3⟩ := more_out hl3 hB hg hZ hcur 120 FU 0 S1 (by omega) (by decide) (core_fr (fun b hb => f1 b (by omega)) (lanes_fr (f1 _ (by decide)) (f1 _ (by decide)) (f1 _ (by decide)) hC.2.2) hC) (stand_fr (f1 _ (by decide)) (f1 _ (by decide)) (f1 _ (by decide)) (f1 _ (by decide)) (f1 _ (by decide)) hS) ((f1 131 (by decide)).trans hR) (fun j hj => by rw [f1 52 (by decide)]; exact h52 j hj) (fun j hj => e2 j hj)
  have q1' : fX7_oneMore_L11 g 7 l3 FU 0 S1 = some S2 := q1
  have f2 : ∀ b, (b < 31 ∨ 33 < b) ∧ b ≠ 53 → S2 b = S1 b := fun b hb => w_fX7_oneMore_L11 (by omega) _ _ _ _ q1
  refine ⟨cpy S2 53 0 52 0 120, ?_, lanes_fr (cpy_row (by decide)) (cpy_row (by decide)) (cpy_row (by decide)) q2, fun j hj => ?_, fun b h1 h2 h3 => by rw [cpy_row h2, f2 b ⟨h1, h3⟩, f1 b h3]⟩
  · unfold fX7_oneMore
    rw [e1, bnd_s, q1', bnd_s, acp_ok (by omega)]
  · rw [cpy_at (by omega)]; exact q3 j hj
