theorem hasRing_ok {S : SS} {v : Nat → Int} {g : Int} {st : Nat} {nx : Nat → Nat → Int} (hG : nx = gr (S 131) g (fun s => v (6 + s)) (v 14)) (hC : Core S) (hv : stV S 15 v) (hb : bdV v (S 131 1)) (hg : 0 ≤ g ∧ g < S 131 3) (hst : st < (20 * S 131 1).toNat) : ∃ b S', fX10_hasRing 35 g st 15 S = some (b, S') ∧ lanes S' ∧ (b = true ↔ RingP nx st) := by
  obtain ⟨hR, hB, hL⟩ := id hC
  have h1 := hB.1
  obtain ⟨S1, e1, e2, e3, e4, e5⟩ := begin_ok (t := 35) (p := 15) (by omega) (by omega) hC hv hb
  obtain ⟨S2, d1, d2, d3⟩ := @fill_53178_120 (35 + 6) 0 S1
  obtain ⟨S3, h3⟩ : ∃ X, X = up S2 35 8 0 := ⟨_, rfl⟩
  have f3 : ∀ a, a ≠ 30 → a ≠ 33 → a ≠ 35 → a ≠ 40 → a ≠ 41 → S3 a = S a := fun a a1 a2 a3 a4 a5 => by rw [h3, up_row a3, d3 a a5, e5 a a1 a2 a4]
  have z41 : ∀ j, j < 120 → S3 41 j = 0 := fun j hj => by rw [h3, up_row (by decide)]; exact d2 j hj
  have st120 : st < 120 := by omega
  obtain ⟨S4, y1, y2, y3, y4, y5, y6⟩ := open_new (S := S3) (w := st) (f := 0) st120 (z41 st st120) (by omega) (by rw [h3, up_self]; rfl)
  have f4 : ∀ a, a ≠ 30 → a ≠ 33 → a ≠ 35 → a ≠ 36 → a ≠ 40 → a ≠ 41 → a ≠ 42 → S4 a = S a := fun a a1 a2 a3 a4 a5 a6 a7 => (y6 a a3 a4 a6 a7).trans (f3 a a1 a2 a3 a5 a6)
  have g40 : ∀ c : Nat, c < 6 → S4 40 c = lvP (S 131) v c := fun c hc => by rw [y6 40 (by decide) (by decide) (by decide) (by decide), h3, up_row (by decide), d3 40 (by decide)]; exact e2 c hc
  have g40' : ∀ c : Nat, c < 6 → S3 40 c = lvP (S 131) v c := fun c hc => by rw [h3, up_row (by decide), d3 40 (by decide)]; exact e2 c hc
  have l4 : lanes S4 := by
    have q : ∀ a, a = 30 ∨ a = 33 ∨ a = 131 → S4 a = S1 a := fun a h => by rw [y6 a (by omega) (by omega) (by omega) (by omega), h3, up_row (by omega), d3 a (by omega)]
    exact lanes_fr (q _ (by omega)) (q _ (by omega)) (q _ (by omega)) e3
  have C4 : Core S4 := core_fr (fun a ha => f4 a (by omega) (by omega) (by omega) (by omega) (by omega) (by omega) (by omega)) l4 hC
  obtain ⟨L, l1, l2⟩ := lv_b (R := S 131) (v := v) (c := ((st / 20 : Nat) : Int)) hB.2.1.2
  rw [g40' _ (by omega), l1] at y3
  have hbit : ∀ k, bit (L : Int) k = (decide (k < (S 131 2).toNat) && decide (sideP (S 131) k ((st / 20 : Nat) : Int) (v (6 + k)) ≠ -1)) := fun k => by
    rw [← l1]; unfold lvP; rw [bit_orb _ (by have := hB.2.1; omega)]
  have ed : ((st / 20 : Nat) : Int) = (st : Int) / 20 := by omega
  have zs : S4 41 st = 1 := by rw [y2, pt_h]
  have zo : ∀ w, w < 120 → w ≠ st → S4 41 w = 0 := fun w hw c => by rw [y2, pt_o c]; exact z41 w hw
  have D4 : DI nx st (20 * S 131 1).toNat (S 131 2).toNat 1 (fun _ => st) (S4 41) (S4 42) (fun _ => 0) 0 := by
    refine ⟨fun j hj => ⟨hst, zs⟩, fun i j hi hj _ => by omega, fun w hw e => ⟨0, by omega, ?_⟩, fun j hj => by omega, fun j hj => ?_, fun w hw e => ?_, fun w hw e => ⟨0, ?_⟩, by rw [zs]; decide, fun w hw => ?_⟩
    · by_cases c : w = st
      · exact c
      · rw [zo w hw c] at e; exact absurd e (by decide)
    · show (∃ W : Nat, S4 42 st = W ∧ W < 256) ∧ _
      rw [y3, pt_h]
      refine ⟨⟨L, rfl, l2⟩, fun k hk e => ?_, fun k hk e => Or.inl ?_⟩
      · rw [hbit k, Bool.and_eq_true] at e
        exact of_decide_eq_true e.1
      · rw [hG]
        refine gr_none (fun h => ?_)
        rw [hbit k, decide_eq_true (show k < (S 131 2).toNat by omega), Bool.true_and, ed] at e
        exact (of_decide_eq_false e) h.2
    · by_cases c : w = st
      · rw [c, zs] at e; exact absurd e (by decide)
      · rw [zo w hw c] at e; exact absurd e (by decide)
    · by_cases c : w = st
      · exact c.symm
      · exact absurd (zo w hw c) e
    · by_cases c : w = st
      · rw [c]; exact Or.inr (Or.inl zs)
      · exact Or.inl (zo w hw c)
  have ms : ysum (phi (S4 41) (S4 42)) 120 + ((0 : Nat) : Int) ≤ 1080 := by
    have b : ∀ k, k < 120 → phi (S4 41) (S4 42) k ≤ 9 := fun k hk => by
      have := c8_b (S4 42 k)
      unfold phi
      generalize c8 (S4 42 k) = c at *
      split
      · decide
      · split <;> omega
    have := ysum_le (h := fun _ => 9) 120 b
    have e : ysum (fun _ => (9 : Int)) 120 = 1080 := by decide +kernel
    omega
  obtain ⟨r, S5, x1, x2, x3⟩ := dfs_loop hG rfl hst 1080 FU 0 S4 1 (fun _ => st) (fun _ => 0) 0 (by omega) (by unfold FU; omega) C4 (f4 131 (by decide) (by decide) (by decide) (by decide) (by decide) (by decide) (by decide)) (stV_fr (f4 _ (by decide) (by decide) (by decide) (by decide) (by decide) (by decide) (by decide)) (f4 _ (by decide) (by decide) (by decide) (by decide) (by decide) (by decide) (by decide)) (f4 _ (by decide) (by decide) (by decide) (by decide) (by decide) (by decide) (by decide)) (f4 _ (by decide) (by decide) (by decide) (by decide) (by decide) (by decide) (by decide)) hv) hb hg g40 y5 (fun j hj => by rw [y4, show j = 0 by omega, pt_h]) D4 ms
  have x1' : fX10_hasRing_L26 35 g 15 FU 0 S4 = some (r, S5) := x1
  unfold fX10_hasRing
  rw [e1, bnd_s, d1, bnd_s, lt_ok, ← h3, y1, bnd_s, x1', bnd_s]
  simp only
  rcases x3 with ⟨rfl, z⟩ | ⟨rfl, z⟩
  · rw [if_pos rfl]
    exact ⟨true, S5, rfl, x2, fun _ => z, fun _ => rfl⟩
  · rw [if_neg (by decide)]
    exact ⟨false, S5, rfl, x2, fun h => absurd h (by decide), fun h => absurd h z⟩
/-! by-laws -/
def sgL (R : Nat → Int) (x : Int) (s : Nat) : Int := if R (40 + s) = 3 then 3 else if bit x s = true then 1 else 0
def lwG (R : Nat → Int) (g x : Int) : Nat → Nat → Int := gr R g (sgL R x) (R 48)
def lwV (v : Nat → Int) (x : Int) (Z : Nat) : Nat → Int := fun k => if (6 ≤ k ∧ k < 6 + Z) ∧ v k ≠ 3 then (if bit x (k - 6) = true then 1 else 0) else v k
theorem signAll_L {p Z : Nat} {x : Int} {v : Nat → Int} (hZ : Z ≤ 8) : ∀ (m n k : Nat) (S : SS), m + k = Z → m < n → stV S p (lwV v x k) → ∃ S', fX6_signAll_L2 p x Z n k S = some S' ∧ stV S' p (lwV v x Z) := by
  intro m
  induction m with
  | zero =>
    intro n k S hk hn h
    obtain ⟨n, rfl⟩ := suc_of hn
    have ek : k = Z := by omega
    unfold fX6_signAll_L2
    rw [if_pos (by omega)]
    rw [ek] at h
    exact ⟨S, rfl, h⟩
  | succ m ih =>
    intro n k S hk hn h
    obtain ⟨n, rfl⟩ := suc_of hn
    have h6 : S (p + 1) k = v (6 + k) := by
      rw [h.2.2.1 k (by omega)]; unfold lwV; rw [if_neg (by omega)]
    unfold fX6_signAll_L2
    rw [if_neg (by omega), if_neg (by omega), rdA_ok (by omega) (by omega), Int.toNat_natCast, h6, bit_shr (by omega), w32_k (by omega)]
    by_cases c : v (6 + k) = 3
    · rw [if_pos c, bnd_s, lt_ok]
      refine ih n (k + 1) S (by omega) (by omega) (stV_c (fun j hj => ?_) h)
      unfold lwV
      by_cases d : j = 6 + k
      · rw [d, if_neg (fun z => z.2 c), if_neg (fun z => z.2 c)]
      · by_cases e : (6 ≤ j ∧ j < 6 + k) ∧ v j ≠ 3
        · rw [if_pos e, if_pos ⟨by omega, e.2⟩]
        · rw [if_neg e, if_neg (fun z => e ⟨by omega, z.2⟩)]
    · rw [if_neg c, wrA_ok (by omega) (by omega), Int.toNat_natCast, bnd_s, lt_ok]
      refine ih n (k + 1) _ (by omega) (by omega) ⟨fun i hi => ?_, fun i hi => ?_, fun i hi => ?_, ?_⟩
      · rw [up_row (by omega), h.1 i hi]; unfold lwV; rw [if_neg (by omega), if_neg (by omega)]
      · rw [up_row (by omega), h.2.1 i hi]; unfold lwV; rw [if_neg (by omega), if_neg (by omega)]
      · rw [up_at]
        by_cases d : i = k
        · subst d
          rw [if_pos rfl]; unfold lwV; rw [if_pos (show (6 ≤ 6 + i ∧ 6 + i < 6 + (i + 1)) ∧ v (6 + i) ≠ 3 from ⟨by omega, c⟩), show 6 + i - 6 = i by omega]
        · rw [if_neg d, h.2.2.1 i hi]
          unfold lwV
          by_cases e : (6 ≤ 6 + i ∧ 6 + i < 6 + k) ∧ v (6 + i) ≠ 3
          · rw [if_pos e, if_pos (show (6 ≤ 6 + i ∧ 6 + i < 6 + (k + 1)) ∧ v (6 + i) ≠ 3 from ⟨by omega, e.2⟩)]
          · rw [if_neg e, if_neg (show ¬ ((6 ≤ 6 + i ∧ 6 + i < 6 + (k + 1)) ∧ v (6 + i) ≠ 3) from fun z => e ⟨by omega, z.2⟩)]
      · rw [up_row (by omega), h.2.2.2]; unfold lwV
        rw [if_neg (by omega), if_neg (by omega)]
theorem lwV_0 {v : Nat → Int} {x : Int} : ∀ k, k < 15 → lwV v x 0 k = v k := fun k _ => by unfold lwV; rw [if_neg (by omega)]
theorem lwV_bd {v : Nat → Int} {x C : Int} {Z : Nat} (hZ : Z ≤ 8) (h : bdV v C) : bdV (lwV v x Z) C := by
  refine ⟨fun i hi => ?_, fun i hi => ?_, fun i hi => ?_, ?_⟩
  · unfold lwV; rw [if_neg (by omega)]; exact h.1 i hi
  · unfold lwV; rw [if_neg (by omega)]; exact h.2.1 i hi
  · unfold lwV; split
    · split <;> decide
    · exact h.2.2.1 i hi
  · unfold lwV; rw [if_neg (by omega)]; exact h.2.2.2
theorem lwV_gr {R : Nat → Int} {g x : Int} (h8 : R 2 ≤ 8) : gr R g (fun s => lwV (sft R 34) x (R 2).toNat (6 + s)) (lwV (sft R 34) x (R 2).toNat 14) = lwG R g x := by
  have e14 : lwV (sft R 34) x (R 2).toNat 14 = R 48 := by
    unfold lwV; rw [if_neg (by omega)]; rfl
  rw [e14]
  funext a s
  unfold lwG gr
  by_cases c : (s : Int) < R 2
  · have e0 : sft R 34 (6 + s) = R (40 + s) := congrArg R (by omega)
    have es : lwV (sft R 34) x (R 2).toNat (6 + s) = sgL R x s := by
      unfold lwV sgL
      rw [e0]
      by_cases b : R (40 + s) = 3
      · rw [if_neg (fun z => z.2 b), if_pos b]; exact b
      · rw [if_pos ⟨by omega, b⟩, if_neg b, show 6 + s - 6 = s by omega]
    simp only [es]
  · rw [if_neg (fun h => c h.1), if_neg (fun h => c h.1)]
noncomputable def ringB (R : Nat → Int) (g x : Int) : Bool := @decide (RingP (lwG R g x) (spotP R g).toNat) (Classical.propDecidable _)
theorem ringB_iff {R : Nat → Int} {g x : Int} : ringB R g x = true ↔ RingP (lwG R g x) (spotP R g).toNat := by
  unfold ringB
  exact @decide_eq_true_iff (RingP (lwG R g x) (spotP R g).toNat) (Classical.propDecidable _)
theorem isBylaw_ok {S : SS} {g x : Int} (hC : Core S) (hS : Stand S) (hg : 0 ≤ g ∧ g < S 131 3) : ∃ S', fX11_isBylaw g x S = some (!ringB (S 131) g x, S') ∧ lanes S' := by
  obtain ⟨hR, hB, hL⟩ := id hC
  have h1 := hB.1
  have h2 := hB.2.1
  have h3 := hB.2.2.1
  obtain ⟨S1, c1, c2⟩ := @copySt S 15 7 (by omega)
  have f1 : ∀ a, (a < 15 ∨ 18 < a) → S1 a = S a := fun a ha => w_fX6_copyOf c1 (by omega)
  obtain ⟨S2, d1, d2⟩ := signAll_L (p := 15) (Z := (S 131 2).toNat) (x := x) (v := sft (S 131) 34) (by omega) (S 131 2).toNat FU 0 S1 (by omega) (by unfold FU; omega) (stV_c lwV_0 (stV_of (c2 _ _ hS.1)))
  rw [show (((S 131 2).toNat : Nat) : Int) = S 131 2 by omega] at d1
  have d1' : fX6_signAll 15 x (S1 2 6) S1 = some S2 := by
    have e : S1 2 6 = S 131 2 := by rw [f1 2 (by omega)]; exact hR.1.2.1
    have d1'' : fX6_signAll_L2 15 x (S 131 2) FU 0 S1 = some S2 := d1
    unfold fX6_signAll; rw [e, d1'', bnd_s]
  have f2 : ∀ a, (a < 15 ∨ 18 < a) → S2 a = S a := fun a ha => (w_fX6_signAll d1' (by omega)).trans (f1 a ha)
  have e2 : S2 131 = S 131 := f2 131 (by omega)
  have bd := lwV_bd (x := x) (Z := (S 131 2).toNat) (by omega) (bdV_of hS.2)
  have C2 : Core S2 := core_fr (fun a ha => f2 a (by omega)) (lanes_fr (f2 _ (by omega)) (f2 _ (by omega)) e2 hL) hC
  obtain ⟨s1, s2, s3⟩ := spot_now hS hB hg.1 (show g < 3 by omega)
  have sp : fX6_spotOf 15 g S2 = some (spotP (S 131) g) := by
    obtain ⟨a1, a2, a3, a4⟩ := now_c hS hg.1 (show g < 3 by omega)
    have z1 := d2.1 g.toNat (by omega)
    have z2 := d2.2.1 g.toNat (by omega)
    have y1 : lwV (sft (S 131) 34) x (S 131 2).toNat g.toNat = S 131 (34 + g).toNat := by
      unfold lwV; rw [if_neg (by omega)]; exact congrArg (S 131) (by omega)
    have y2 : lwV (sft (S 131) 34) x (S 131 2).toNat (3 + g.toNat) = S 131 (37 + g).toNat := by
      unfold lwV; rw [if_neg (by omega)]; exact congrArg (S 131) (by omega)
    rw [y1] at z1
    rw [y2] at z2
    exact spotOf_ok hg.1 (by omega) z1 z2 a3.1 (by omega) a4.1 a4.2
  have es : ((spotP (S 131) g).toNat : Int) = spotP (S 131) g := by omega
  obtain ⟨b, S3, a1, a2, a3⟩ := hasRing_ok (S := S2) (g := g) (st := (spotP (S 131) g).toNat) (nx := lwG (S 131) g x) (by rw [e2]; exact (lwV_gr h2.2).symm) C2 d2 (by rw [e2]; exact bd) (by rw [e2]; exact hg) (by rw [e2]; omega)
  rw [es] at a1
  refine ⟨S3, ?_, a2⟩
  unfold fX11_isBylaw
  rw [c1, bnd_s, d1', bnd_s, sp, bnd_s, a1, bnd_s]
  simp only
  by_cases c : b = true
  · rw [if_pos c, (ringB_iff.mpr (a3.mp c))]; rfl
  · have : ringB (S 131) g x = false := by
      rw [Bool.eq_false_iff]
      exact fun h => c (a3.mpr (ringB_iff.mp h))
    rw [if_neg c, this]; rfl
