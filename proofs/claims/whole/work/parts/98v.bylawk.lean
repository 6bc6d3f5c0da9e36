def otT (R : Nat → Int) (x : Int) (s : Nat) : Int := if R (40 + s) = 3 then 0 else if R (40 + s) = (if bit x s = true then 1 else 0) then 0 else 1
def otP (R : Nat → Int) (x : Int) : Int := ysum (otT R x) (R 2).toNat
theorem otT_v (R : Nat → Int) (x : Int) (s : Nat) : otT R x s = 0 ∨ otT R x s = 1 := by
  unfold otT
  by_cases c : R (40 + s) = 3
  · rw [if_pos c]; exact Or.inl rfl
  · rw [if_neg c]
    by_cases d : R (40 + s) = (if bit x s = true then 1 else 0)
    · rw [if_pos d]; exact Or.inl rfl
    · rw [if_neg d]; exact Or.inr rfl
theorem ot_b (R : Nat → Int) (x : Int) : ∀ k : Nat, 0 ≤ ysum (otT R x) k ∧ ysum (otT R x) k ≤ k := by
  intro k
  induction k with
  | zero => exact ⟨Int.le_refl _, Int.le_refl _⟩
  | succ k ih =>
    have := otT_v R x k
    show 0 ≤ ysum (otT R x) k + otT R x k ∧ ysum (otT R x) k + otT R x k ≤ _
    generalize ysum (otT R x) k = d at *
    generalize otT R x k = e at *
    omega
theorem otP_b {R : Nat → Int} {x : Int} (h2 : 0 ≤ R 2 ∧ R 2 ≤ 8) : 0 ≤ otP R x ∧ otP R x ≤ 8 := by
  have := ot_b R x (R 2).toNat
  unfold otP
  generalize ysum (otT R x) (R 2).toNat = d at *
  omega
theorem w32_1 {d : Int} {k : Nat} (h : 0 ≤ d ∧ d ≤ k) (hk : k < 100) : w32 (d + 1) = d + 1 := by rw [w32_eq (by omega) (by omega)]
theorem w32_0 {d : Int} {k : Nat} (h : 0 ≤ d ∧ d ≤ k) (hk : k < 100) : w32 (d + 0) = d + 0 := by rw [w32_eq (by omega) (by omega)]
theorem ots_c {S : SS} {R : Nat → Int} {x : Int} (h2 : 0 ≤ R 2 ∧ R 2 ≤ 8) (h6 : S 2 6 = R 2) (h8 : ∀ s, s < 8 → S 8 s = R (40 + s)) : ∀ (m n k : Nat), m + k = (R 2).toNat → m < n → fX11_otherSigns_L4 x S n (ysum (otT R x) k) k = some (otP R x) := by
  intro m
  induction m with
  | zero =>
    intro n k hk hn
    obtain ⟨n, rfl⟩ := suc_of hn
    unfold fX11_otherSigns_L4
    rw [h6, if_pos (by omega), show k = (R 2).toNat by omega]
    rfl
  | succ m ih =>
    intro n k hk hn
    obtain ⟨n, rfl⟩ := suc_of hn
    have k8 : k < 8 := by omega
    have hb := ot_b R x k
    have y := ih n (k + 1) (by omega) (by omega)
    rw [show ysum (otT R x) (k + 1) = ysum (otT R x) k + otT R x k from rfl] at y
    have sg : fX6_signOf 7 k S = some (R (40 + k)) := by
      unfold fX6_signOf
      rw [if_neg (by omega), if_neg (by omega), rdA_ok (by omega) (by omega), Int.toNat_natCast]
      exact congrArg some (h8 k k8)
    unfold fX11_otherSigns_L4
    rw [h6, if_neg (show ¬ R 2 ≤ (k : Int) by clear hb y ih; omega), sg, bnd_s, bit_shr (by omega), w32_1 hb (by omega), w32_k (by omega)]
    clear hb
    unfold otT at y
    by_cases c : R (40 + k) = 3
    · rw [if_pos c, bnd_s, lt_ok]
      rw [if_pos c, Int.add_zero] at y
      exact y
    · rw [if_neg c]
      rw [if_neg c] at y
      by_cases d : R (40 + k) = (if bit x k = true then 1 else 0)
      · rw [if_pos d, bnd_s, lt_ok]
        rw [if_pos d, Int.add_zero] at y
        exact y
      · rw [if_neg d, lt_ok, bnd_s, lt_ok]
        rw [if_neg d] at y
        exact y
theorem ots_m {S : SS} {R : Nat → Int} {x : Int} (h2 : 0 ≤ R 2 ∧ R 2 ≤ 8) (hR : S 131 = R) : ∀ (m n k : Nat), m + k = (R 2).toNat → m < n → fX12_othersBy_L4 x S n (ysum (otT R x) k) k = some (otP R x) := by
  intro m
  induction m with
  | zero =>
    intro n k hk hn
    obtain ⟨n, rfl⟩ := suc_of hn
    unfold fX12_othersBy_L4
    rw [rdA_ok (by decide) (by decide), show S 131 (2 : Int).toNat = R 2 by rw [hR]; rfl, if_pos (by omega), show k = (R 2).toNat by omega]
    rfl
  | succ m ih =>
    intro n k hk hn
    obtain ⟨n, rfl⟩ := suc_of hn
    have k8 : k < 8 := by omega
    have hb := ot_b R x k
    have y := ih n (k + 1) (by omega) (by omega)
    rw [show ysum (otT R x) (k + 1) = ysum (otT R x) k + otT R x k from rfl] at y
    have e40 := @e40_ok k k8
    unfold fX12_othersBy_L4
    rw [rdA_ok (by decide) (by decide), show S 131 (2 : Int).toNat = R 2 by rw [hR]; rfl, if_neg (show ¬ R 2 ≤ (k : Int) by clear hb y ih e40; omega), rdA_ok e40.1 e40.2.1, rdA_ok e40.1 e40.2.1, e40.2.2, hR, bit_shr (show k < 20 by clear hb y ih e40; omega), w32_k (show k < 1000000 by clear hb y ih e40; omega)]
    clear e40
    unfold otT at y
    by_cases c : R (40 + k) = 3
    · rw [if_pos c, bnd_s, w32_0 hb (by clear hb y ih; omega), lt_ok, lt_ok]
      rw [if_pos c] at y
      exact y
    · rw [if_neg c]
      rw [if_neg c] at y
      by_cases d : R (40 + k) = (if bit x k = true then 1 else 0)
      · rw [if_pos d, bnd_s, w32_0 hb (by clear hb y ih d; omega), lt_ok, lt_ok]
        rw [if_pos d] at y
        exact y
      · rw [if_neg d, bnd_s, w32_1 hb (by clear hb y ih d; omega), lt_ok, lt_ok]
        rw [if_neg d] at y
        exact y
theorem otherSigns_ok {S : SS} {x : Int} (hC : Core S) (hS : Stand S) : fX11_otherSigns x S = some (otP (S 131) x) := by
  have h := ots_c (S := S) (R := S 131) (x := x) hC.2.1.2.1 hC.1.1.2.1 (fun s hs => hS.1.2.2.1 s hs) (S 131 2).toNat FU 0 (by omega) (by have := hC.2.1.2.1; unfold FU; omega)
  have h' : fX11_otherSigns_L4 x S FU 0 0 = some (otP (S 131) x) := h
  unfold fX11_otherSigns
  rw [h', bnd_s]
theorem othersBy_ok {S : SS} {R : Nat → Int} {x : Int} (h2 : 0 ≤ R 2 ∧ R 2 ≤ 8) (hR : S 131 = R) : fX12_othersBy x S = some (otP R x) := by
  have h := ots_m (x := x) h2 hR (R 2).toNat FU 0 (by omega) (by unfold FU; omega)
  have h' : fX12_othersBy_L4 x S FU 0 0 = some (otP R x) := h
  unfold fX12_othersBy
  rw [h', bnd_s]
/-- the best of those below k, by how many other signs -/
def bsP (v : Nat → Prop) (ot : Nat → Int) (k : Nat) (b : Int) : Prop := (b = -1 ∧ ∀ y, y < k → ¬ v y) ∨ ∃ z : Nat, b = z ∧ z < k ∧ v z ∧ ∀ y, y < k → v y → ot z < ot y ∨ (ot z = ot y ∧ z ≤ y)
theorem bs_no {v : Nat → Prop} {ot : Nat → Int} {k : Nat} {b : Int} (h : bsP v ot k b) (hn : ¬ v k) : bsP v ot (k + 1) b := by
  rcases h with ⟨e, h⟩ | ⟨z, e, h1, h2, h3⟩
  · exact Or.inl ⟨e, fun y hy hv => by
      by_cases c : y = k
      · subst c; exact hn hv
      · exact h y (by omega) hv⟩
  · exact Or.inr ⟨z, e, by omega, h2, fun y hy hv => by
      by_cases c : y = k
      · subst c; exact absurd hv hn
      · exact h3 y (by omega) hv⟩
theorem bs_first {v : Nat → Prop} {ot : Nat → Int} {k : Nat} (h : bsP v ot k (-1)) (hv : v k) : bsP v ot (k + 1) k := by
  rcases h with ⟨_, h⟩ | ⟨z, e, _⟩
  · exact Or.inr ⟨k, rfl, by omega, hv, fun y hy hvy => by
      by_cases c : y = k
      · subst c; exact Or.inr ⟨rfl, Nat.le_refl _⟩
      · exact absurd hvy (h y (by omega))⟩
  · omega
theorem bs_keep {v : Nat → Prop} {ot : Nat → Int} {k z : Nat} (h : bsP v ot k z) (hle : ot z ≤ ot k) : bsP v ot (k + 1) z := by
  rcases h with ⟨e, _⟩ | ⟨z', e, h1, h2, h3⟩
  · omega
  · have : z' = z := by omega
    subst this
    exact Or.inr ⟨z', rfl, by omega, h2, fun y hy hv => by
      by_cases c : y = k
      · subst c
        by_cases d : ot z' = ot y
        · exact Or.inr ⟨d, by omega⟩
        · exact Or.inl (by omega)
      · exact h3 y (by omega) hv⟩
theorem bs_new {v : Nat → Prop} {ot : Nat → Int} {k z : Nat} (h : bsP v ot k z) (hlt : ot k < ot z) (hv : v k) : bsP v ot (k + 1) k := by
  rcases h with ⟨e, _⟩ | ⟨z', e, h1, h2, h3⟩
  · omega
  · have : z' = z := by omega
    subst this
    exact Or.inr ⟨k, rfl, by omega, hv, fun y hy hvy => by
      by_cases c : y = k
      · subst c; exact Or.inr ⟨rfl, Nat.le_refl _⟩
      · have := h3 y (by omega) hvy
        exact Or.inl (by omega)⟩
theorem bs_eq {v : Nat → Prop} {ot : Nat → Int} {j k : Nat} {b c : Int} (hjk : j ≤ k) (hno : ∀ y, j ≤ y → y < k → ¬ v y) (h : bsP v ot j b) (h' : bsP v ot k c) : b = c := by
  rcases h with ⟨e, h⟩ | ⟨z, e, h1, h2, h3⟩
  · rcases h' with ⟨e', _⟩ | ⟨z', e', g1, g2, g3⟩
    · omega
    · by_cases d : z' < j
      · exact absurd g2 (h z' d)
      · exact absurd g2 (hno z' (by omega) g1)
  · rcases h' with ⟨e', h'⟩ | ⟨z', e', g1, g2, g3⟩
    · exact absurd h2 (h' z (by omega))
    · have a := g3 z (by omega) h2
      have zj : z' < j := by
        by_cases d : z' < j
        · exact d
        · exact absurd g2 (hno z' (by omega) g1)
      have b := h3 z' zj g2
      omega
theorem by_c {R : Nat → Int} {g p : Int} {W : Nat} (h2 : 0 ≤ R 2 ∧ R 2 ≤ 8) (hg : 0 ≤ g ∧ g < R 3) (hW : openP R = W) (hw : W < 256) : ∀ (m n k : Nat) (S : SS) (b fw : Int), m + k = W + 1 → m < n → Core S → Stand S → S 131 = R → bsP (vP R g) (fun y => otP R y) k b → ((b = -1 ∧ fw = 9) ∨ (∃ z : Nat, b = z ∧ fw = otP R z)) → ∃ (b' fw' : Int) (S' : SS), fX11_bylaw_L58 g p W n b fw k S = some (b', fw', S') ∧ lanes S' ∧ bsP (vP R g) (fun y => otP R y) (W + 1) b' ∧ ((b' = -1 ∧ fw' = 9) ∨ (∃ z : Nat, b' = z ∧ fw' = otP R z)) := by
  intro m
  induction m with
  | zero =>
    intro n k S b fw hk hn hC hS hR hb hf
    obtain ⟨n, rfl⟩ := suc_of hn
    have ek : k = W + 1 := by omega
    unfold fX11_bylaw_L58
    rw [if_pos (show (W : Int) < k by clear hb hf; omega)]
    rw [ek] at hb
    exact ⟨b, fw, S, rfl, hC.2.2, hb, hf⟩
  | succ m ih =>
    intro n k S b fw hk hn hC hS hR hb hf
    obtain ⟨n, rfl⟩ := suc_of hn
    have sc := @sub_c R k
    rw [hW] at sc
    have hkW : ¬ (W : Int) < k := by clear hb hf; omega
    have k1 : w32 ((k : Int) + 1) = ((k + 1 : Nat) : Int) := w32_k (by clear hb hf; omega)
    have m1 : m + (k + 1) = W + 1 := by clear hb hf k1; omega
    have m2 : m < n := by clear hb hf k1; omega
    have oc : fX11_otherSigns k S = some (otP R k) := by rw [otherSigns_ok hC hS, hR]
    unfold fX11_bylaw_L58
    rw [if_neg hkW, k1]
    clear k1
    by_cases c : subP R k
    · rw [if_pos (sc.mpr c), oc, bnd_s]
      by_cases d : fw ≤ otP R k
      · rw [if_pos d, bnd_s, lt_ok]
        refine ih n (k + 1) S b fw m1 m2 hC hS hR ?_ hf
        rcases hf with ⟨e1, e2⟩ | ⟨z, e1, e2⟩
        · have := (otP_b (x := (k : Int)) h2).2
          rw [e2] at d
          exact absurd (Int.le_trans d this) (by decide)
        · rw [e1] at hb ⊢
          rw [e2] at d
          exact bs_keep hb d
      · obtain ⟨r, S1, x1, x2, x3, x4, x5⟩ := lw_c (k := k) hC hS (by rw [hR]; exact hg)
        rw [hR] at x5
        rw [if_neg d, x1, bnd_s]
        simp only
        by_cases q : r = true
        · have oc1 : fX11_otherSigns k S1 = some (otP R k) := by rw [otherSigns_ok x2 x3, x4, hR]
          rw [if_pos q, oc1, bnd_s, bnd_s, lt_ok]
          refine ih n (k + 1) S1 k (otP R k) m1 m2 x2 x3 (x4.trans hR) ?_ (Or.inr ⟨k, rfl, rfl⟩)
          have hv : vP R g k := ⟨c, x5.mp q⟩
          rcases hf with ⟨e1, e2⟩ | ⟨z, e1, e2⟩
          · rw [e1] at hb; exact bs_first hb hv
          · rw [e1] at hb
            rw [e2] at d
            exact bs_new hb (Int.not_le.mp d) hv
        · rw [if_neg q, bnd_s, lt_ok]
          exact ih n (k + 1) S1 b fw m1 m2 x2 x3 (x4.trans hR) (bs_no hb (fun z => q (x5.mpr z.2))) hf
    · rw [if_neg (fun z => c (sc.mp z)), bnd_s, lt_ok]
      exact ih n (k + 1) S b fw m1 m2 hC hS hR (bs_no hb (fun z => c z.1)) hf
theorem by_m {R : Nat → Int} {g p : Int} (hB : townB R) (hs : stBd R 34 (R 1)) (hg : 0 ≤ g ∧ g < R 3) : ∀ (m n k : Nat) (S : SS) (b : Int), m + k = 2 ^ (R 2).toNat → m < n → bthT R g (20 * R 1).toNat S → bsP (vP R g) (fun y => otP R y) k b → ∃ (b' : Int) (S' : SS), fX12_bylaw_L37 g p n b k S = some (b', S') ∧ bsP (vP R g) (fun y => otP R y) (2 ^ (R 2).toNat) b' := by
  have h2 := hB.2.1
  have ep : jshl 1 (R 2) = ((2 ^ (R 2).toNat : Nat) : Int) := by
    have := shl_pow (R 2).toNat (by omega)
    rw [show (((R 2).toNat : Nat) : Int) = R 2 by omega] at this
    exact this
  have p8 : 2 ^ (R 2).toNat ≤ 256 := Nat.pow_le_pow_right (show 2 > 0 by decide) (show (R 2).toNat ≤ 8 by omega)
  intro m
  induction m with
  | zero =>
    intro n k S b hk hn hT hb
    obtain ⟨n, rfl⟩ := suc_of hn
    unfold fX12_bylaw_L37
    rw [rdA_ok (by decide) (by decide), show S 131 (2 : Int).toNat = R 2 by rw [hT.1]; rfl, ep]
    clear ep
    have ek : k = 2 ^ (R 2).toNat := by clear hb; omega
    rw [if_pos (show ((2 ^ (R 2).toNat : Nat) : Int) ≤ (k : Int) by clear hb; omega)]
    rw [ek] at hb
    exact ⟨b, S, rfl, hb⟩
  | succ m ih =>
    intro n k S b hk hn hT hb
    obtain ⟨n, rfl⟩ := suc_of hn
    have hk2 : k < 2 ^ (R 2).toNat := by clear hb ep; omega
    have hkn : ¬ ((2 ^ (R 2).toNat : Nat) : Int) ≤ (k : Int) := by clear hb ep; omega
    have k1 : w32 ((k : Int) + 1) = ((k + 1 : Nat) : Int) := w32_k (by clear hb ep; omega)
    have m1 : m + (k + 1) = 2 ^ (R 2).toNat := by clear hb ep k1; omega
    have m2 : m < n := by clear hb ep k1; omega
    obtain ⟨r, S1, x1, x2, x3⟩ := lw_m (k := k) hB hs hg hk2 hT
    unfold fX12_bylaw_L37
    rw [rdA_ok (by decide) (by decide), show S 131 (2 : Int).toNat = R 2 by rw [hT.1]; rfl, ep, if_neg hkn, k1]
    clear ep k1
    by_cases c : b = -1
    · rw [if_pos c, x1, bnd_s]
      simp only
      by_cases q : r = true
      · rw [if_pos q, bnd_s, lt_ok]
        rw [c] at hb
        exact ih n (k + 1) S1 k m1 m2 x2 (bs_first hb (x3.mp q))
      · rw [if_neg q, bnd_s, lt_ok]
        exact ih n (k + 1) S1 b m1 m2 x2 (bs_no hb (fun z => q (x3.mpr z)))
    · obtain ⟨z, rfl⟩ : ∃ z : Nat, b = z := by
        rcases hb with ⟨e, _⟩ | ⟨z, e, _⟩
        · exact absurd e c
        · exact ⟨z, e⟩
      rw [if_neg c, othersBy_ok h2 hT.1, othersBy_ok h2 hT.1, bnd_s, bnd_s]
      by_cases d : otP R z ≤ otP R k
      · rw [if_pos d, bnd_s, lt_ok]
        exact ih n (k + 1) S z m1 m2 hT (bs_keep hb d)
      · rw [if_neg d, x1, bnd_s]
        simp only
        by_cases q : r = true
        · rw [if_pos q, bnd_s, lt_ok]
          exact ih n (k + 1) S1 k m1 m2 x2 (bs_new hb (Int.not_le.mp d) (x3.mp q))
        · rw [if_neg q, bnd_s, lt_ok]
          exact ih n (k + 1) S1 z m1 m2 x2 (bs_no hb (fun y => q (x3.mpr y)))
theorem k_bylaw : K_bylaw Inv := by
  intro g p cg cp S hI
  obtain ⟨i0, hC, hS, _⟩ := id hI
  obtain ⟨hR, hB, _⟩ := id hC
  have h1 := hB.1
  have h2 := hB.2.1
  have h3 := hB.2.2.1
  unfold fX11_bylaw
  rw [has_g hC, bnd_s]
  by_cases a : 0 ≤ g ∧ g < S 131 3
  · rw [if_pos (decide_eq_true a)]
    by_cases d : 0 ≤ p ∧ p ≤ 1
    · obtain ⟨W, hW, hw⟩ := open_b h2.1 h2.2
      have p8 : 2 ^ (S 131 2).toNat ≤ 256 := Nat.pow_le_pow_right (show 2 > 0 by decide) (show (S 131 2).toNat ≤ 8 by omega)
      have ea : fX8_allStreets 2 S = some (w32 ((jshl 1 (S 131 2)) - 1)) := by
        unfold fX8_allStreets
        rw [hR.1.2.1]
      have st0 : bsP (vP (S 131) g) (fun y => otP (S 131) y) 0 (-1) := Or.inl ⟨rfl, fun y hy => absurd hy (by omega)⟩
      obtain ⟨b, fw, S1, x1, x2, x3, x4⟩ := by_c (R := S 131) (p := p) h2 a hW (by omega) (W + 1) FU 0 S (-1) 9 (by omega) (by unfold FU; omega) hC hS rfl st0 (Or.inl ⟨rfl, rfl⟩)
      have x1' : fX11_bylaw_L58 g p W FU (-1) 9 0 S = some (b, fw, S1) := x1
      have f1 : ∀ z, (z < 15 ∨ 18 < z) ∧ (z < 30 ∨ 33 < z) ∧ (z < 35 ∨ 36 < z) ∧ (z < 40 ∨ 42 < z) → S1 z = S z := fun z hz => w_fX11_bylaw_L58 hz _ _ _ _ _ _ x1
      have e131 : S1 131 = S 131 := f1 131 (by decide)
      obtain ⟨S2, y1, y2⟩ := laysBoth_ok (R := S 131) (g := g) (S := S1) rfl hB hS.2.2.2.2 a e131
      obtain ⟨c, S3, z1, z2⟩ := by_m (R := S 131) (g := g) (p := p) hB hS.2 a (2 ^ (S 131 2).toNat) FU 0 S2 (-1) (by omega) (by unfold FU; omega) y2 st0
      have z1' : fX12_bylaw_L37 g p FU (-1) 0 S2 = some (c, S3) := z1
      have ebc : b = c := bs_eq (by omega) (fun y h h' hv => by
        have := sub_le hW (show y < 256 by omega) (by omega) hv.1
        omega) x3 z2
      subst ebc
      have f2 : ∀ z, (z < 135 ∨ 136 < z) ∧ z ≠ 144 → S2 z = S1 z := fun z hz => w_fX12_laysBoth y1 hz
      have f3 : ∀ z, z ≠ 140 ∧ z ≠ 145 → S3 z = S2 z := fun z hz => w_fX12_bylaw_L37 hz _ _ _ _ _ z1
      have R3 : S3 131 = S 131 := (f3 131 (by decide)).trans ((f2 131 (by decide)).trans e131)
      have hI3 : Inv S3 := inv_q hI x2 (fun z hz => by unfold keepA at hz; exact f1 z (by clear x3 x4 z2; omega)) (fun z hz => by unfold keepA at hz; exact (f3 z (by clear x3 x4 z2; omega)).trans (f2 z (by clear x3 x4 z2; omega)))
      have hm : fX12_bylaw g p S1 = (if b = -1 then some (b, S3) else if p = 1 then some (b, S3) else some (otP (S 131) b, S3)) := by
        unfold fX12_bylaw
        rw [lt_ok, up_same (by rw [f1 130 (by decide)]; exact i0), is_g (by rw [e131]; exact hB), e131, bnd_s, if_pos (decide_eq_true a), within_ok, bnd_s, if_pos (decide_eq_true d), y1, bnd_s, lt_ok, z1', bnd_s]
        simp only
        rw [othersBy_ok h2 R3, bnd_s]
      rw [if_neg (show ¬ p < 0 by clear x3 x4 z2; omega), if_pos d.2, ea, bnd_s, shut_now hC hS, bnd_s, open_ok h2.1 h2.2, lt_ok, hW, lt_ok, x1', bnd_s]
      simp only
      by_cases q : b = -1
      · rw [if_pos q]
        refine ⟨-1, S1, S3, rfl, ?_, hI3⟩
        rw [hm, if_pos q, q]
      · obtain ⟨z, e1, e2⟩ : ∃ z : Nat, b = z ∧ fw = otP (S 131) z := by
          rcases x4 with ⟨e, _⟩ | h
          · exact absurd e q
          · exact h
        rw [if_neg q]
        by_cases p0 : p = 0
        · rw [if_pos p0]
          refine ⟨fw, S1, S3, rfl, ?_, hI3⟩
          rw [hm, if_neg q, if_neg (show ¬ p = 1 by rw [p0]; decide), e2, e1]
        · rw [if_neg p0]
          refine ⟨b, S1, S3, rfl, ?_, hI3⟩
          rw [hm, if_neg q, if_pos (show p = 1 by clear x3 x4 z2 e2; omega)]
    · have e : ∀ X : Option (Int × SS), (if p < 0 then some ((-2 : Int), S) else (if p ≤ 1 then X else some ((-2), S))) = some (-2, S) := fun X => by
        by_cases p0 : p < 0
        · rw [if_pos p0]
        · rw [if_neg p0, if_neg (by omega)]
      rw [e]
      refine ⟨_, S, S, rfl, ?_, hI⟩
      unfold fX12_bylaw
      rw [lt_ok, up_same i0, is_g hB, bnd_s, if_pos (decide_eq_true a), within_ok, bnd_s, if_neg (by rw [decide_eq_true_eq]; exact d)]
  · rw [if_neg (by rw [decide_eq_true_eq]; exact a)]
    refine ⟨_, S, S, rfl, ?_, hI⟩
    unfold fX12_bylaw
    rw [lt_ok, up_same i0, is_g hB, bnd_s, if_neg (by rw [decide_eq_true_eq]; exact a)]
