/-! with streets shut -/
def shG (R : Nat → Int) (g bits : Int) : Nat → Nat → Int := gr R g (sgB R bits) (R 48)
def canP (R : Nat → Int) (g c bits : Int) : Prop := ∃ n b, rIn (shG R g bits) n (spotP R g).toNat b ∧ ((b : Nat) : Int) / 20 = c
noncomputable def canB (R : Nat → Int) (g c bits : Int) : Bool := @decide (canP R g c bits) (Classical.propDecidable _)
theorem canB_iff {R : Nat → Int} {g c bits : Int} : canB R g c bits = true ↔ canP R g c bits := by
  unfold canB
  exact @decide_eq_true_iff (canP R g c bits) (Classical.propDecidable _)
def shV (v : Nat → Int) (bits : Int) (Z : Nat) : Nat → Int := fun k => if (6 ≤ k ∧ k < 6 + Z) ∧ bit bits (k - 6) = true then 3 else v k
theorem shutAll_L {p Z : Nat} {bits : Int} {v : Nat → Int} (hZ : Z ≤ 8) : ∀ (m n k : Nat) (S : SS), m + k = Z → m < n → stV S p (shV v bits k) → ∃ S', fX6_shutAll_L2 p bits Z n k S = some S' ∧ stV S' p (shV v bits Z) := by
  intro m
  induction m with
  | zero =>
    intro n k S hk hn h
    obtain ⟨n, rfl⟩ := suc_of hn
    have ek : k = Z := by omega
    unfold fX6_shutAll_L2
    rw [if_pos (by omega)]
    rw [ek] at h
    exact ⟨S, rfl, h⟩
  | succ m ih =>
    intro n k S hk hn h
    obtain ⟨n, rfl⟩ := suc_of hn
    unfold fX6_shutAll_L2
    rw [if_neg (by omega), if_neg (by omega), bit_shr (by omega), w32_k (by omega)]
    by_cases c : bit bits k = true
    · rw [if_pos c, if_pos rfl, wrA_ok (by omega) (by omega), Int.toNat_natCast, bnd_s, lt_ok]
      refine ih n (k + 1) (up S (p + 1) k 3) (by omega) (by omega) ⟨fun i hi => ?_, fun i hi => ?_, fun i hi => ?_, ?_⟩
      · rw [up_row (by omega), h.1 i hi]; unfold shV; rw [if_neg (by omega), if_neg (by omega)]
      · rw [up_row (by omega), h.2.1 i hi]; unfold shV; rw [if_neg (by omega), if_neg (by omega)]
      · rw [up_at]
        by_cases d : i = k
        · rw [if_pos d]; unfold shV; rw [if_pos ⟨by omega, by rw [show 6 + i - 6 = k by omega]; exact c⟩]
        · rw [if_neg d, h.2.2.1 i hi]
          unfold shV
          by_cases e : (6 ≤ 6 + i ∧ 6 + i < 6 + k) ∧ bit bits (6 + i - 6) = true
          · rw [if_pos e, if_pos ⟨by omega, e.2⟩]
          · rw [if_neg e, if_neg (fun x => e ⟨by omega, x.2⟩)]
      · rw [up_row (by omega), h.2.2.2]; unfold shV
        rw [if_neg (by omega), if_neg (by omega)]
    · rw [if_neg c, if_neg (by decide), bnd_s, lt_ok]
      refine ih n (k + 1) S (by omega) (by omega) (stV_c (fun j hj => ?_) h)
      unfold shV
      by_cases e : (6 ≤ j ∧ j < 6 + k) ∧ bit bits (j - 6) = true
      · rw [if_pos e, if_pos ⟨by omega, e.2⟩]
      · rw [if_neg e]
        by_cases f : (6 ≤ j ∧ j < 6 + (k + 1)) ∧ bit bits (j - 6) = true
        · exfalso
          have : j - 6 = k := by
            by_cases z : j < 6 + k
            · exact absurd ⟨⟨f.1.1, z⟩, f.2⟩ e
            · omega
          rw [this] at f
          exact c f.2
        · rw [if_neg f]
theorem shV_0 {v : Nat → Int} {bits : Int} : ∀ k, k < 15 → shV v bits 0 k = v k := fun k _ => by unfold shV; rw [if_neg (by omega)]
theorem shV_bd {v : Nat → Int} {bits C : Int} {Z : Nat} (hZ : Z ≤ 8) (h : bdV v C) : bdV (shV v bits Z) C := by
  refine ⟨fun i hi => ?_, fun i hi => ?_, fun i hi => ?_, ?_⟩
  · unfold shV; rw [if_neg (by omega)]; exact h.1 i hi
  · unfold shV; rw [if_neg (by omega)]; exact h.2.1 i hi
  · unfold shV; split
    · omega
    · exact h.2.2.1 i hi
  · unfold shV; rw [if_neg (by omega)]; exact h.2.2.2
theorem shV_gr {R : Nat → Int} {g bits : Int} (h8 : R 2 ≤ 8) : gr R g (fun s => shV (sft R 34) bits (R 2).toNat (6 + s)) (shV (sft R 34) bits (R 2).toNat 14) = shG R g bits := by
  have e14 : shV (sft R 34) bits (R 2).toNat 14 = R 48 := by
    unfold shV; rw [if_neg (by omega)]; rfl
  rw [e14]
  funext a s
  unfold shG gr
  by_cases c : (s : Int) < R 2
  · have es : shV (sft R 34) bits (R 2).toNat (6 + s) = sgB R bits s := by
      unfold shV sgB
      by_cases b : bit bits s = true
      · rw [if_pos ⟨by omega, by rw [show 6 + s - 6 = s by omega]; exact b⟩, if_pos b]
      · rw [if_neg (fun x => b (by rw [show 6 + s - 6 = s by omega] at x; exact x.2)), if_neg b]
        exact congrArg R (by omega)
    simp only [es]
  · rw [if_neg (fun h => c h.1), if_neg (fun h => c h.1)]
theorem shutsOff_ok {S : SS} {g c bits : Int} (hC : Core S) (hS : Stand S) (hg : 0 ≤ g ∧ g < S 131 3) (hc : 0 ≤ c ∧ c < S 131 1) : ∃ S', fX11_shutsOff g c bits S = some (!canB (S 131) g c bits, S') ∧ lanes S' ∧ ∀ a, (a < 15 ∨ 18 < a) ∧ (a < 30 ∨ 40 < a) → S' a = S a := by
  obtain ⟨hR, hB, hL⟩ := id hC
  have h1 := hB.1
  have h2 := hB.2.1
  have h3 := hB.2.2.1
  obtain ⟨S1, c1, c2⟩ := @copySt S 15 7 (by omega)
  have f1 : ∀ a, (a < 15 ∨ 18 < a) → S1 a = S a := fun a ha => w_fX6_copyOf c1 (by omega)
  obtain ⟨S2, d1, d2⟩ := shutAll_L (p := 15) (Z := (S 131 2).toNat) (bits := bits) (v := sft (S 131) 34) (by omega) (S 131 2).toNat FU 0 S1 (by omega) (by unfold FU; omega) (stV_c shV_0 (stV_of (c2 _ _ hS.1)))
  rw [show (((S 131 2).toNat : Nat) : Int) = S 131 2 by omega] at d1
  have d1' : fX6_shutAll 15 bits (S1 2 6) S1 = some S2 := by
    have e : S1 2 6 = S 131 2 := by rw [f1 2 (by omega)]; exact hR.1.2.1
    have d1'' : fX6_shutAll_L2 15 bits (S 131 2) FU 0 S1 = some S2 := d1
    unfold fX6_shutAll; rw [e, d1'', bnd_s]
  have f2 : ∀ a, (a < 15 ∨ 18 < a) → S2 a = S a := fun a ha => (w_fX6_shutAll d1' (by omega)).trans (f1 a ha)
  have e2 : S2 131 = S 131 := f2 131 (by omega)
  have bd := shV_bd (bits := bits) (Z := (S 131 2).toNat) (by omega) (bdV_of hS.2)
  have C2 : Core S2 := core_fr (fun a ha => f2 a (by omega)) (lanes_fr (f2 _ (by omega)) (f2 _ (by omega)) e2 hL) hC
  obtain ⟨s1, s2, s3⟩ := spot_now hS hB hg.1 (show g < 3 by omega)
  have sp : fX6_spotOf 15 g S2 = some (spotP (S 131) g) := by
    obtain ⟨a1, a2, a3, a4⟩ := now_c hS hg.1 (show g < 3 by omega)
    have z1 := d2.1 g.toNat (by omega)
    have z2 := d2.2.1 g.toNat (by omega)
    have y1 : shV (sft (S 131) 34) bits (S 131 2).toNat g.toNat = S 131 (34 + g).toNat := by
      unfold shV; rw [if_neg (by omega)]; exact congrArg (S 131) (by omega)
    have y2 : shV (sft (S 131) 34) bits (S 131 2).toNat (3 + g.toNat) = S 131 (37 + g).toNat := by
      unfold shV; rw [if_neg (by omega)]; exact congrArg (S 131) (by omega)
    rw [y1] at z1
    rw [y2] at z2
    exact spotOf_ok hg.1 (by omega) z1 z2 a3.1 (by omega) a4.1 a4.2
  have es : ((spotP (S 131) g).toNat : Int) = spotP (S 131) g := by omega
  obtain ⟨S3, a1, a2, found, o, L, pr, a3, a4, a5⟩ := spread_ok (t := 35) (p := 15) (st := (spotP (S 131) g).toNat) (g := g) (by omega) (by omega) C2 d2 (by rw [e2]; exact bd) (by rw [e2]; exact hg) (by rw [e2]; omega)
  rw [e2, shV_gr h2.2] at a3
  rw [es] at a1
  have f3 : ∀ a, (a < 30 ∨ 40 < a) → S3 a = S2 a := fun a ha => w_fX10_spread a1 (by omega)
  have hf : found ≤ (20 * S 131 1).toNat := pigeon _ found o a3.2.1 a3.2.2.1
  have fin : ∀ x b, fX10_firstAt 35 c (-1) S3 = some x → ((x = -1) ↔ b = true) → fX11_shutsOff g c bits S = some (b, S3) := by
    intro x b hx hb
    unfold fX11_shutsOff fX11_comesTo
    rw [c1, bnd_s, d1', bnd_s, sp, bnd_s, a1, bnd_s, hx, bnd_s, bnd_s]
    simp only
    by_cases z : x = -1
    · rw [if_pos z, hb.mp z]
    · rw [if_neg z]
      have : b = false := by
        cases b with
        | false => rfl
        | true => exact absurd (hb.mpr rfl) z
      rw [this]
  refine ⟨S3, ?_, a2, fun a ha => (f3 a ha.2).trans (f2 a ha.1)⟩
  obtain ⟨x1, x2⟩ | ⟨p, p1, p2, p3, p4⟩ := firstAt_ok (c := c) (y := -1) a4 (by omega) (fun p hp => by have := a3.2.1 p hp; omega)
  · refine fin _ _ x1 ⟨fun _ => ?_, fun _ => rfl⟩
    have : canB (S 131) g c bits = false := by
      rw [Bool.eq_false_iff]
      intro hb
      obtain ⟨n, b, b1, b2⟩ := canB_iff.mp hb
      obtain ⟨q, w1, w2, _⟩ := BI_least a3 (Nat.le_refl _) n b b1
      have := x2 q w1
      unfold goalP at this
      rw [← w2, decide_eq_true ⟨b2, Or.inl rfl⟩] at this
      cases this
    rw [this]; rfl
  · have cb : canB (S 131) g c bits = true := by
      rw [canB_iff]
      refine ⟨L p, o p, (BI_reach a3 p p1).1, ?_⟩
      unfold goalP at p3
      rw [decide_eq_true_eq] at p3
      exact p3.1
    refine fin _ _ p2 ⟨fun h => by omega, fun h => ?_⟩
    rw [cb] at h; cases h
theorem canCome_ok {S : SS} {g c bits : Int} (hB : townB (S 131)) (hb : stBd (S 131) 34 (S 131 1)) (hg : 0 ≤ g ∧ g < S 131 3) (hc : 0 ≤ c ∧ c < S 131 1) : ∃ S', fX12_canCome g c bits S = some (canB (S 131) g c bits, S') ∧ ∀ a, (a < 135 ∨ 136 < a) ∧ a ≠ 138 ∧ a ≠ 140 → S' a = S a := by
  have h1 := hB.1
  have h3 := hB.2.2.1
  have sp := spotP_b hb hg.1 (show g < 3 by omega)
  have es : ((spotP (S 131) g).toNat : Int) = spotP (S 131) g := by omega
  obtain ⟨S1, a1, a2, a3⟩ := laysThen_ok (S := S) (g := g) (x := bits) hB hb.2.2.2 (by omega)
  have e1 : S1 131 = S 131 := a3 131 (by omega) (by omega)
  obtain ⟨S2, b1, b2, b3⟩ := laysGone_ok (nx := shG (S 131) g bits) (st := (spotP (S 131) g).toNat) (M := (20 * S 131 1).toNat) (c := 140) (S := S1) (by rw [e1]) (by rw [e1]; exact h1) (gr_lt hB) (fun _ _ => gr_v) (by omega) (Or.inl rfl) a2
  rw [es] at b1
  have e2 : S2 131 = S 131 := (b3 131 (by decide)).trans e1
  have st := standOf_ok (S := S1) (g := g) (by rw [e1]; exact hb) (by rw [e1]; exact hB) hg.1 (by omega)
  rw [e1] at st
  have cg := cornersGone_ok (S := S2) (by rw [e2]; exact h1)
  rw [e2] at cg
  obtain ⟨k, rfl⟩ : ∃ k : Nat, c = k := ⟨c.toNat, by omega⟩
  have eb : bit (orb (anyB (fun a => a / 20) (fun a => decide (S2 140 a < 268435456)) (20 * S 131 1).toNat) 6) k = canB (S 131) g k bits := by
    rw [bit_orb 6 (by decide), decide_eq_true (show k < 6 by omega), Bool.true_and, Bool.eq_iff_iff, anyB_iff, canB_iff]
    constructor
    · rintro ⟨a, q1, q2, q3⟩
      rw [decide_eq_true_eq] at q2
      obtain ⟨d, d1, d2, d3⟩ | ⟨_, d2⟩ := b2 a (by omega)
      · exact ⟨d, a, d1.1, by omega⟩
      · omega
    · rintro ⟨n, b, q1, q2⟩
      have hbM : b < (20 * S 131 1).toNat := rIn_lt (gr_lt hB) (by omega) q1
      refine ⟨b, hbM, ?_, by omega⟩
      obtain ⟨d, d1, d2, d3⟩ | ⟨d1, _⟩ := b2 b (by omega)
      · exact decide_eq_true (by omega)
      · exact absurd q1 (d1 n)
  have e : fX12_canCome g k bits S = some (canB (S 131) g k bits, S2) := by
    unfold fX12_canCome
    rw [a1, bnd_s, st, bnd_s, b1, bnd_s, cg, bnd_s, isIn_ok (by omega), bnd_s, eb]
  exact ⟨S2, e, fun a ha => (b3 a ha.2.2).trans (a3 a ha.1 ha.2.1)⟩
theorem need_c {R : Nat → Int} {g c : Int} {Z : Nat} (hg : 0 ≤ g ∧ g < R 3) (hc : 0 ≤ c ∧ c < R 1) (hZ : R 2 = Z) : ∀ (m n k : Nat) (S : SS), m + k = Z → m < n → Core S → Stand S → S 131 = R → ∃ S', fX11_needed_L47 g c n (orb (fun s => decide (R (40 + s) ≠ 3) && !canB R g c (jshl 1 (s : Nat))) k) k S = some (orb (fun s => decide (R (40 + s) ≠ 3) && !canB R g c (jshl 1 (s : Nat))) Z, S') ∧ lanes S' := by
  intro m
  induction m with
  | zero =>
    intro n k S hk hn hC hS hR
    obtain ⟨n, rfl⟩ := suc_of hn
    have ek : k = Z := by omega
    unfold fX11_needed_L47
    rw [hC.1.1.2.1, hR, hZ, if_pos (by omega), ek]
    exact ⟨S, rfl, hC.2.2⟩
  | succ m ih =>
    intro n k S hk hn hC hS hR
    obtain ⟨n, rfl⟩ := suc_of hn
    have h8 := hC.2.1.2.1
    rw [hR] at h8
    have sg : S (7 + 1) ((k : Int)).toNat = R (40 + k) := by
      have := (now_s hS (s := (k : Int)) (by omega) (by omega)).1
      rw [hR, show (40 + (k : Int)).toNat = 40 + k by omega] at this
      exact this
    have eo : orb (fun s => decide (R (40 + s) ≠ 3) && !canB R g c (jshl 1 (s : Nat))) (k + 1) = if (decide (R (40 + k) ≠ 3) && !canB R g c (jshl 1 (k : Nat))) = true then jor (orb (fun s => decide (R (40 + s) ≠ 3) && !canB R g c (jshl 1 (s : Nat))) k) (jshl 1 k) else orb (fun s => decide (R (40 + s) ≠ 3) && !canB R g c (jshl 1 (s : Nat))) k := rfl
    unfold fX11_needed_L47
    rw [hC.1.1.2.1, hR, hZ, if_neg (by omega), spotSign (by omega) (by omega), bnd_s, sg]
    by_cases d : R (40 + k) = 3
    · rw [if_pos d, bnd_s, lt_ok, w32_k (by omega)]
      rw [decide_eq_false (show ¬ R (40 + k) ≠ 3 from fun h => h d), Bool.false_and, if_neg (by decide)] at eo
      have r := ih n (k + 1) S (by omega) (by omega) hC hS hR
      rw [eo] at r
      exact r
    · obtain ⟨S1, q1, q2, f1⟩ := shutsOff_ok (S := S) (g := g) (c := c) (bits := jshl 1 (k : Nat)) hC hS (by rw [hR]; exact hg) (by rw [hR]; exact hc)
      rw [hR] at q1
      rw [decide_eq_true (show R (40 + k) ≠ 3 from d), Bool.true_and] at eo
      rw [if_neg d, q1, bnd_s]
      simp only
      have r := ih n (k + 1) S1 (by omega) (by omega) (core_fr (fun b hb => f1 b (by omega)) q2 hC) (stand_fr (f1 _ (by omega)) (f1 _ (by omega)) (f1 _ (by omega)) (f1 _ (by omega)) (f1 _ (by omega)) hS) ((f1 131 (by omega)).trans hR)
      by_cases z : (!canB R g c (jshl 1 (k : Nat))) = true
      · rw [if_pos z, lt_ok, bnd_s, lt_ok, w32_k (by omega)]
        rw [eo, if_pos z] at r
        exact r
      · rw [if_neg z, bnd_s, lt_ok, w32_k (by omega)]
        rw [eo, if_neg z] at r
        exact r
theorem need_m {R : Nat → Int} {g c : Int} {Z : Nat} (hB : townB R) (hb : stBd R 34 (R 1)) (hg : 0 ≤ g ∧ g < R 3) (hc : 0 ≤ c ∧ c < R 1) (hZ : R 2 = Z) : ∀ (m n k : Nat) (S : SS), m + k = Z → m < n → S 131 = R → ∃ S', fX12_needed_L43 g c n (orb (fun s => decide (R (40 + s) ≠ 3) && !canB R g c (jshl 1 (s : Nat))) k) k S = some (orb (fun s => decide (R (40 + s) ≠ 3) && !canB R g c (jshl 1 (s : Nat))) Z, S') := by
  have h8 := hB.2.1
  intro m
  induction m with
  | zero =>
    intro n k S hk hn hR
    obtain ⟨n, rfl⟩ := suc_of hn
    have ek : k = Z := by omega
    have r2 : S 131 (2 : Int).toNat = Z := by rw [hR]; exact hZ
    unfold fX12_needed_L43
    rw [rdA_ok (by decide) (by decide), r2, if_pos (by omega), ek]
    exact ⟨S, rfl⟩
  | succ m ih =>
    intro n k S hk hn hR
    obtain ⟨n, rfl⟩ := suc_of hn
    have r2 : S 131 (2 : Int).toNat = Z := by rw [hR]; exact hZ
    have ex : (40 + (k : Int)).toNat = 40 + k := by omega
    have eo : orb (fun s => decide (R (40 + s) ≠ 3) && !canB R g c (jshl 1 (s : Nat))) (k + 1) = if (decide (R (40 + k) ≠ 3) && !canB R g c (jshl 1 (k : Nat))) = true then jor (orb (fun s => decide (R (40 + s) ≠ 3) && !canB R g c (jshl 1 (s : Nat))) k) (jshl 1 k) else orb (fun s => decide (R (40 + s) ≠ 3) && !canB R g c (jshl 1 (s : Nat))) k := rfl
    unfold fX12_needed_L43
    rw [rdA_ok (by decide) (by decide), r2, if_neg (by omega), w32_eq (x := 40 + (k : Int)) (by omega) (by omega), rdA_ok (by omega) (by omega), ex, hR]
    by_cases d : R (40 + k) = 3
    · rw [if_pos d, bnd_s, lt_ok, w32_k (by omega)]
      rw [decide_eq_false (show ¬ R (40 + k) ≠ 3 from fun h => h d), Bool.false_and, if_neg (by decide)] at eo
      have r := ih n (k + 1) S (by omega) (by omega) hR
      rw [eo] at r
      exact r
    · obtain ⟨S1, q1, f1⟩ := canCome_ok (S := S) (g := g) (c := c) (bits := jshl 1 (k : Nat)) (by rw [hR]; exact hB) (by rw [hR]; exact hb) (by rw [hR]; exact hg) (by rw [hR]; exact hc)
      rw [hR] at q1
      rw [decide_eq_true (show R (40 + k) ≠ 3 from d), Bool.true_and] at eo
      rw [if_neg d, q1, bnd_s]
      simp only
      have r := ih n (k + 1) S1 (by omega) (by omega) ((f1 131 (by omega)).trans hR)
      by_cases z : canB R g c (jshl 1 (k : Nat)) = true
      · rw [if_pos z, bnd_s, lt_ok, w32_k (by omega)]
        rw [eo, if_neg (by rw [z]; decide)] at r
        exact r
      · rw [if_neg z, lt_ok, bnd_s, lt_ok, w32_k (by omega)]
        rw [eo, if_pos (by rw [Bool.eq_false_iff.mpr z]; rfl)] at r
        exact r
theorem shG_0 {R : Nat → Int} {g : Int} : shG R g 0 = nowG R g := nowG_0
theorem k_needed : K_needed Inv := by
  intro g c cg cc S hI
  obtain ⟨i0, hC, hS, _⟩ := id hI
  obtain ⟨_, hB, _⟩ := id hC
  have h1 := hB.1
  have h2 := hB.2.1
  unfold fX11_needed fX12_needed
  rw [has_g hC, bnd_s]
  by_cases a : 0 ≤ g ∧ g < S 131 3
  · rw [if_pos (decide_eq_true a), has_c hC, bnd_s]
    by_cases b : 0 ≤ c ∧ c < S 131 1
    · obtain ⟨S1, found, o, L, pr, _, x, q1, q2, q3, q4, q5, q6, q7, _, _, _, _, _, _⟩ := come_both (c := c) (y := -1) hI a
      have e131 : S1 131 = S 131 := q7 131 (by omega)
      obtain ⟨Z, hZ⟩ : ∃ Z : Nat, S 131 2 = Z := ⟨(S 131 2).toNat, by omega⟩
      have cb : canB (S 131) g c 0 = true ↔ x ≠ -1 := by
        rw [canB_iff]
        unfold canP
        rw [shG_0]
        constructor
        · rintro ⟨n, bb, b1, b2⟩ hx
          obtain ⟨x1, x2⟩ | ⟨p, p1, p2, _, _⟩ := q6
          · obtain ⟨q, w1, w2, _⟩ := BI_least q3 (Nat.le_refl _) n bb b1
            have := x2 q w1
            unfold goalP at this
            rw [← w2, decide_eq_true ⟨b2, Or.inl rfl⟩] at this
            cases this
          · omega
        · intro hx
          obtain ⟨x1, _⟩ | ⟨p, p1, p2, p3, _⟩ := q6
          · exact absurd x1 hx
          · unfold goalP at p3
            rw [decide_eq_true_eq] at p3
            exact ⟨L p, o p, (BI_reach q3 p p1).1, p3.1⟩
      rw [if_pos (decide_eq_true b), q1, bnd_s]
      simp only
      by_cases hx : x = -1
      · rw [if_pos hx]
        obtain ⟨S2, m1, m2⟩ := canCome_ok (S := S1) (g := g) (c := c) (bits := 0) (by rw [e131]; exact hB) (by rw [e131]; exact hS.2) (by rw [e131]; exact a) (by rw [e131]; exact b)
        rw [e131] at m1
        refine ⟨_, S1, S2, rfl, ?_, inv_q hI q2 (fun z hz => by unfold keepA at hz; exact q7 z (by omega)) (fun z hz => by unfold keepA at hz; exact m2 z (by omega))⟩
        rw [lt_ok, up_same (by rw [q7 130 (by omega)]; exact i0), is_g (by rw [e131]; exact hB), e131, bnd_s, if_pos (decide_eq_true a), is_c (by rw [e131]; exact hB), e131, bnd_s, if_pos (decide_eq_true b), m1, bnd_s]
        simp only
        rw [if_neg (fun h => (cb.mp h) hx)]
      · rw [if_neg hx]
        obtain ⟨S2, n1, n2⟩ := need_c (R := S 131) (g := g) (c := c) a b hZ Z FU 0 S1 (by omega) (by unfold FU; omega) (core_fr (fun z hz => q7 z (by omega)) q2 hC) (stand_fr (q7 _ (by omega)) (q7 _ (by omega)) (q7 _ (by omega)) (q7 _ (by omega)) e131 hS) e131
        have n1' : fX11_needed_L47 g c FU 0 0 S1 = some (orb (fun s => decide (S 131 (40 + s) ≠ 3) && !canB (S 131) g c (jshl 1 (s : Nat))) Z, S2) := n1
        have f2 : ∀ z, (z < 15 ∨ 18 < z) ∧ (z < 30 ∨ 33 < z) ∧ (z < 35 ∨ 40 < z) → S2 z = S1 z := fun z hz => w_fX11_needed_L47 hz _ _ _ _ _ n1
        have fz : ∀ z, (z < 15 ∨ 18 < z) ∧ (z < 30 ∨ 40 < z) → S2 z = S z := fun z hz => (f2 z (by omega)).trans (q7 z (by omega))
        have e2 : S2 131 = S 131 := fz 131 (by omega)
        obtain ⟨S3, m1, m2⟩ := canCome_ok (S := S2) (g := g) (c := c) (bits := 0) (by rw [e2]; exact hB) (by rw [e2]; exact hS.2) (by rw [e2]; exact a) (by rw [e2]; exact b)
        rw [e2] at m1
        have e3 : S3 131 = S 131 := (m2 131 (by omega)).trans e2
        obtain ⟨S4, p1⟩ := need_m (R := S 131) (g := g) (c := c) hB hS.2 a b hZ Z FU 0 S3 (by omega) (by unfold FU; omega) e3
        have p1' : fX12_needed_L43 g c FU 0 0 S3 = some (orb (fun s => decide (S 131 (40 + s) ≠ 3) && !canB (S 131) g c (jshl 1 (s : Nat))) Z, S4) := p1
        have f4 : ∀ z, (z < 135 ∨ 136 < z) ∧ z ≠ 138 ∧ z ≠ 140 → S4 z = S3 z := fun z hz => w_fX12_needed_L43 hz _ _ _ _ _ p1
        rw [n1', bnd_s]
        refine ⟨_, S2, S4, rfl, ?_, inv_q hI n2 (fun z hz => by unfold keepA at hz; exact fz z (by omega)) (fun z hz => by unfold keepA at hz; exact (f4 z (by omega)).trans (m2 z (by omega)))⟩
        rw [lt_ok, up_same (by rw [fz 130 (by omega)]; exact i0), is_g (by rw [e2]; exact hB), e2, bnd_s, if_pos (decide_eq_true a), is_c (by rw [e2]; exact hB), e2, bnd_s, if_pos (decide_eq_true b), m1, bnd_s]
        simp only
        rw [if_pos (cb.mpr hx), p1', bnd_s]
    · rw [if_neg (by rw [decide_eq_true_eq]; exact b)]
      refine ⟨_, S, S, rfl, ?_, hI⟩
      rw [lt_ok, up_same i0, is_g hB, bnd_s, if_pos (decide_eq_true a), is_c hB, bnd_s, if_neg (by rw [decide_eq_true_eq]; exact b)]
  · rw [if_neg (by rw [decide_eq_true_eq]; exact a)]
    refine ⟨_, S, S, rfl, ?_, hI⟩
    rw [lt_ok, up_same i0, is_g hB, bnd_s, if_neg (by rw [decide_eq_true_eq]; exact a)]
