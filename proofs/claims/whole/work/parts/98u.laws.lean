/-! laws, bylaw -/
def vP (R : Nat → Int) (g : Int) (x : Nat) : Prop := subP R x ∧ ¬ RingP (lwG R g x) (spotP R g).toNat
noncomputable def vB (R : Nat → Int) (g : Int) (x : Nat) : Int := if @decide (vP R g x) (Classical.propDecidable _) = true then 1 else 0
theorem vB_1 {R : Nat → Int} {g : Int} {x : Nat} (h : vP R g x) : vB R g x = 1 := by
  unfold vB
  rw [if_pos (@decide_eq_true _ (Classical.propDecidable _) h)]
theorem vB_0 {R : Nat → Int} {g : Int} {x : Nat} (h : ¬ vP R g x) : vB R g x = 0 := by
  unfold vB
  rw [if_neg (fun z => h (@of_decide_eq_true _ (Classical.propDecidable _) z))]
theorem cV_b {R : Nat → Int} {g : Int} : ∀ k : Nat, 0 ≤ ysum (vB R g) k ∧ ysum (vB R g) k ≤ k := by
  intro k
  induction k with
  | zero => exact ⟨Int.le_refl _, Int.le_refl _⟩
  | succ k ih =>
    show 0 ≤ ysum (vB R g) k + vB R g k ∧ ysum (vB R g) k + vB R g k ≤ _
    by_cases c : vP R g k
    · rw [vB_1 c]; generalize ysum (vB R g) k = d at *; omega
    · rw [vB_0 c]; generalize ysum (vB R g) k = d at *; omega
theorem lw_c {S : SS} {g : Int} {k : Nat} (hC : Core S) (hS : Stand S) (hg : 0 ≤ g ∧ g < S 131 3) : ∃ b S', fX11_isBylaw g k S = some (b, S') ∧ Core S' ∧ Stand S' ∧ S' 131 = S 131 ∧ (b = true ↔ ¬ RingP (lwG (S 131) g k) (spotP (S 131) g).toNat) := by
  obtain ⟨S', x1, x2⟩ := isBylaw_ok (x := (k : Int)) hC hS hg
  have fr : ∀ a, (a < 15 ∨ 18 < a) ∧ (a < 30 ∨ 33 < a) ∧ (a < 35 ∨ 36 < a) ∧ (a < 40 ∨ 42 < a) → S' a = S a := fun a ha => w_fX11_isBylaw x1 ha
  refine ⟨_, S', x1, core_fr (fun a ha => fr a (by omega)) x2 hC, stand_fr (fr _ (by omega)) (fr _ (by omega)) (fr _ (by omega)) (fr _ (by omega)) (fr _ (by omega)) hS, fr _ (by omega), ?_⟩
  have := @ringB_iff (S 131) g k
  cases h : ringB (S 131) g k with
  | true => exact ⟨fun z => absurd z (by decide), fun z => absurd (this.mp h) z⟩
  | false => exact ⟨fun _ z => absurd (this.mpr z) (by rw [h]; decide), fun _ => rfl⟩
theorem laws_c {R : Nat → Int} {g : Int} {W : Nat} (hg : 0 ≤ g ∧ g < R 3) (hW : openP R = W) (hw : W < 256) : ∀ (m n k : Nat) (S : SS), m + k = W + 1 → m < n → Core S → Stand S → S 131 = R → ∃ S', fX11_laws_L44 g W n (ysum (vB R g) k) k S = some (ysum (vB R g) (W + 1), S') ∧ lanes S' := by
  intro m
  induction m with
  | zero =>
    intro n k S hk hn hC hS hR
    obtain ⟨n, rfl⟩ := suc_of hn
    unfold fX11_laws_L44
    rw [if_pos (by omega), show k = W + 1 by omega]
    exact ⟨S, rfl, hC.2.2⟩
  | succ m ih =>
    intro n k S hk hn hC hS hR
    obtain ⟨n, rfl⟩ := suc_of hn
    have sc := @sub_c R k
    rw [hW] at sc
    have cb := cV_b (R := R) (g := g) k
    have e1 : w32 (ysum (vB R g) k + 1) = ysum (vB R g) k + 1 := by
      generalize ysum (vB R g) k = d at *
      rw [w32_eq (by omega) (by omega)]
    unfold fX11_laws_L44
    rw [if_neg (by omega), e1, w32_k (by omega)]
    clear e1 cb
    by_cases c : subP R k
    · obtain ⟨b, S1, x1, x2, x3, x4, x5⟩ := lw_c (k := k) hC hS (by rw [hR]; exact hg)
      rw [hR] at x5
      rw [if_pos (sc.mpr c), x1, bnd_s]
      simp only
      by_cases d : b = true
      · rw [if_pos d, lt_ok, bnd_s, lt_ok]
        have := ih n (k + 1) S1 (by omega) (by omega) x2 x3 (x4.trans hR)
        rw [show ysum (vB R g) (k + 1) = ysum (vB R g) k + vB R g k from rfl, vB_1 ⟨c, x5.mp d⟩] at this
        exact this
      · rw [if_neg d, bnd_s, lt_ok]
        have := ih n (k + 1) S1 (by omega) (by omega) x2 x3 (x4.trans hR)
        rw [show ysum (vB R g) (k + 1) = ysum (vB R g) k + vB R g k from rfl, vB_0 (fun z => d (x5.mpr z.2)), Int.add_zero] at this
        exact this
    · rw [if_neg (fun z => c (sc.mp z)), bnd_s, lt_ok]
      have := ih n (k + 1) S (by omega) (by omega) hC hS hR
      rw [show ysum (vB R g) (k + 1) = ysum (vB R g) k + vB R g k from rfl, vB_0 (fun z => c z.1), Int.add_zero] at this
      exact this
theorem lwG_nn {R : Nat → Int} {g x : Int} (a s : Nat) : lwG R g x a s = -1 ∨ 0 ≤ lwG R g x a s := gr_v
theorem lwG_z {R : Nat → Int} {g x : Int} (a s : Nat) (h : R 2 ≤ (s : Int)) : lwG R g x a s = -1 := by
  unfold lwG gr
  rw [if_neg (fun z => absurd z.1 (Int.not_lt.mpr h))]
theorem lw_m {R : Nat → Int} {g : Int} {k : Nat} {S : SS} (hB : townB R) (hs : stBd R 34 (R 1)) (hg : 0 ≤ g ∧ g < R 3) (hk : k < 2 ^ (R 2).toNat) (hT : bthT R g (20 * R 1).toNat S) : ∃ b S', fX12_isByLaw g k S = some (b, S') ∧ bthT R g (20 * R 1).toNat S' ∧ (b = true ↔ vP R g k) := by
  have h1 := hB.1
  have h2 := hB.2.1
  have h3 := hB.2.2.1
  have hg3 : g < 3 := by omega
  have hM : (20 * R 1).toNat ≤ 120 := by omega
  obtain ⟨p0, p1⟩ := spotP_b hs hg.1 hg3
  have es : ((spotP R g).toNat : Int) = spotP R g := Int.toNat_of_nonneg p0
  have ps : (spotP R g).toNat < (20 * R 1).toNat := by omega
  have sm := sub_m h2.1 h2.2 hk
  unfold fX12_isByLaw
  rw [shutNow_ok (by rw [hT.1]; exact h2.1) (by rw [hT.1]; exact h2.2), hT.1, bnd_s]
  by_cases c : subP R k
  · obtain ⟨b, S', x1, x2⟩ := noRing_ok (R := R) (g := g) (x := (k : Int)) (st := (spotP R g).toNat) (nx := lwG R g k) (S := S) rfl h1 h2 (gr_lt hB) lwG_nn lwG_z (fun S a s hT ha hs => lawTo_ok hM hB hT ha hs) (fun S hR => by rw [standOf_ok (by rw [hR]; exact hs) (by rw [hR]; exact hB) hg.1 hg3, hR, es]) ps hT
    rw [if_pos (sm.mpr c), x1, bnd_s]
    have T' : bthT R g (20 * R 1).toNat S' := bthT_fr (w_fX12_noRing x1 (by decide)) (w_fX12_noRing x1 (by decide)) hT
    simp only
    by_cases d : b = true
    · rw [if_pos d]
      exact ⟨true, S', rfl, T', fun _ => ⟨c, x2.mp d⟩, fun _ => rfl⟩
    · rw [if_neg d]
      exact ⟨false, S', rfl, T', fun z => absurd z (by decide), fun z => absurd (x2.mpr z.2) d⟩
  · rw [if_neg (fun z => c (sm.mp z))]
    exact ⟨false, S, rfl, hT, fun z => absurd z (by decide), fun z => absurd z.1 c⟩
theorem laws_m {R : Nat → Int} {g : Int} (hB : townB R) (hs : stBd R 34 (R 1)) (hg : 0 ≤ g ∧ g < R 3) : ∀ (m n k : Nat) (S : SS), m + k = 2 ^ (R 2).toNat → m < n → bthT R g (20 * R 1).toNat S → ∃ S', fX12_laws_L26 g n (ysum (vB R g) k) k S = some (ysum (vB R g) (2 ^ (R 2).toNat), S') := by
  have h2 := hB.2.1
  have ep : jshl 1 (R 2) = ((2 ^ (R 2).toNat : Nat) : Int) := by
    have := shl_pow (R 2).toNat (by omega)
    rw [show (((R 2).toNat : Nat) : Int) = R 2 by omega] at this
    exact this
  have p8 : 2 ^ (R 2).toNat ≤ 256 := Nat.pow_le_pow_right (show 2 > 0 by decide) (show (R 2).toNat ≤ 8 by omega)
  intro m
  induction m with
  | zero =>
    intro n k S hk hn hT
    obtain ⟨n, rfl⟩ := suc_of hn
    unfold fX12_laws_L26
    rw [rdA_ok (by decide) (by decide), show S 131 (2 : Int).toNat = R 2 by rw [hT.1]; rfl, ep]
    clear ep
    rw [if_pos (by omega), show k = 2 ^ (R 2).toNat by omega]
    exact ⟨S, rfl⟩
  | succ m ih =>
    intro n k S hk hn hT
    obtain ⟨n, rfl⟩ := suc_of hn
    obtain ⟨b, S1, x1, x2, x3⟩ := lw_m (k := k) hB hs hg (by omega) hT
    have cb := cV_b (R := R) (g := g) k
    have e1 : w32 (ysum (vB R g) k + 1) = ysum (vB R g) k + 1 := by
      clear ep
      generalize ysum (vB R g) k = d at *
      rw [w32_eq (by omega) (by omega)]
    have e0 : w32 (ysum (vB R g) k + 0) = ysum (vB R g) k := by
      clear ep e1
      generalize ysum (vB R g) k = d at *
      rw [w32_eq (by omega) (by omega)]; omega
    have y := ih n (k + 1) S1 (by omega) (by omega) x2
    rw [show ysum (vB R g) (k + 1) = ysum (vB R g) k + vB R g k from rfl] at y
    unfold fX12_laws_L26
    rw [rdA_ok (by decide) (by decide), show S 131 (2 : Int).toNat = R 2 by rw [hT.1]; rfl, ep]
    clear ep
    rw [if_neg (show ¬ ((2 ^ (R 2).toNat : Nat) : Int) ≤ (k : Int) by clear e1 e0 cb y ih; omega), x1, bnd_s]
    simp only
    by_cases d : b = true
    · rw [if_pos d, bnd_s, e1, lt_ok, lt_ok, w32_k (by clear e1 e0 cb y ih; omega)]
      rw [vB_1 (x3.mp d)] at y
      exact y
    · rw [if_neg d, bnd_s, e0, lt_ok, lt_ok, w32_k (by clear e1 e0 cb y ih; omega)]
      rw [vB_0 (fun z => d (x3.mpr z)), Int.add_zero] at y
      exact y
theorem cV_eq {R : Nat → Int} {g : Int} {W : Nat} (h2 : 0 ≤ R 2 ∧ R 2 ≤ 8) (hW : openP R = W) (hw : W < 2 ^ (R 2).toNat) : ysum (vB R g) (2 ^ (R 2).toNat) = ysum (vB R g) (W + 1) := by
  have p8 : 2 ^ (R 2).toNat ≤ 256 := Nat.pow_le_pow_right (show 2 > 0 by decide) (show (R 2).toNat ≤ 8 by omega)
  have e := ysum_more (f := vB R g) (M := W + 1) (2 ^ (R 2).toNat - (W + 1)) (fun k h h' => vB_0 (fun z => by
    have := sub_le hW (show k < 256 by omega) (by omega) z.1
    omega))
  rw [show W + 1 + (2 ^ (R 2).toNat - (W + 1)) = 2 ^ (R 2).toNat by omega] at e
  exact e
theorem k_laws : K_laws Inv := by
  intro g cg S hI
  obtain ⟨i0, hC, hS, _⟩ := id hI
  obtain ⟨hR, hB, _⟩ := id hC
  have h1 := hB.1
  have h2 := hB.2.1
  have h3 := hB.2.2.1
  unfold fX11_laws fX12_laws
  rw [has_g hC, bnd_s]
  by_cases a : 0 ≤ g ∧ g < S 131 3
  · rw [if_pos (decide_eq_true a)]
    obtain ⟨W, hW, hw⟩ := open_b h2.1 h2.2
    have p8 : 2 ^ (S 131 2).toNat ≤ 256 := Nat.pow_le_pow_right (show 2 > 0 by decide) (show (S 131 2).toNat ≤ 8 by omega)
    have ea : fX8_allStreets 2 S = some (w32 ((jshl 1 (S 131 2)) - 1)) := by
      unfold fX8_allStreets
      rw [hR.1.2.1]
    obtain ⟨S1, x1, x2⟩ := laws_c (R := S 131) a hW (by omega) (W + 1) FU 0 S (by omega) (by unfold FU; omega) hC hS rfl
    have x1' : fX11_laws_L44 g W FU 0 0 S = some (ysum (vB (S 131) g) (W + 1), S1) := x1
    have f1 : ∀ z, (z < 15 ∨ 18 < z) ∧ (z < 30 ∨ 33 < z) ∧ (z < 35 ∨ 36 < z) ∧ (z < 40 ∨ 42 < z) → S1 z = S z := fun z hz => w_fX11_laws_L44 hz _ _ _ _ _ x1
    have e131 : S1 131 = S 131 := f1 131 (by omega)
    obtain ⟨S2, y1, y2⟩ := laysBoth_ok (R := S 131) (g := g) (S := S1) rfl hB hS.2.2.2.2 a e131
    obtain ⟨S3, z1⟩ := laws_m (R := S 131) (g := g) hB hS.2 a (2 ^ (S 131 2).toNat) FU 0 S2 (by omega) (by unfold FU; omega) y2
    have z1' : fX12_laws_L26 g FU 0 0 S2 = some (ysum (vB (S 131) g) (2 ^ (S 131 2).toNat), S3) := z1
    have f2 : ∀ z, (z < 135 ∨ 136 < z) ∧ z ≠ 144 → S2 z = S1 z := fun z hz => w_fX12_laysBoth y1 hz
    have f3 : ∀ z, z ≠ 140 ∧ z ≠ 145 → S3 z = S2 z := fun z hz => w_fX12_laws_L26 hz _ _ _ _ _ z1
    rw [ea, bnd_s, shut_now hC hS, bnd_s, open_ok h2.1 h2.2, lt_ok, hW, x1', bnd_s]
    refine ⟨_, S1, S3, rfl, ?_, inv_q hI x2 (fun z hz => by unfold keepA at hz; exact f1 z (by omega)) (fun z hz => by unfold keepA at hz; exact (f3 z (by omega)).trans (f2 z (by omega)))⟩
    rw [lt_ok, up_same (by rw [f1 130 (by omega)]; exact i0), is_g (by rw [e131]; exact hB), e131, bnd_s, if_pos (decide_eq_true a), y1, bnd_s, z1', bnd_s, cV_eq h2 hW hw]
  · rw [if_neg (by rw [decide_eq_true_eq]; exact a)]
    refine ⟨_, S, S, rfl, ?_, hI⟩
    rw [lt_ok, up_same i0, is_g hB, bnd_s, if_neg (by rw [decide_eq_true_eq]; exact a)]
