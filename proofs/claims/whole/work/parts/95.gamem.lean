/-! the game: the model's -/
def WM (R : Nat → Int) (g c : Int) (rc : Nat → Int → Int → Int → Int → Int → Int → SS → Option (Bool × SS)) (t : Nat) : Prop := ∀ (x spot : Int) (S : SS), S 131 = R → 0 ≤ spot → spot < 120 → ∃ S', rc 0 g spot x c (t : Int) 0 S = some (wP R g c t x spot, S') ∧ S' 131 = R
def VM (R : Nat → Int) (g c : Int) (rc : Nat → Int → Int → Int → Int → Int → Int → SS → Option (Bool × SS)) (t : Nat) : Prop := ∀ (x spot : Int) (S : SS), S 131 = R → 0 ≤ spot → spot < 120 → ∃ S', rc 2 g spot x c (t : Int) 0 S = some (vF R c (wP R g c t) t x spot, S') ∧ S' 131 = R
def BM (R : Nat → Int) (g c : Int) (rc : Nat → Int → Int → Int → Int → Int → Int → SS → Option (Bool × SS)) (t : Nat) : Prop := ∀ (x spot : Int) (s : Nat) (S : SS), s < (R 2).toNat → S 131 = R → 0 ≤ spot → spot < 120 → ∃ S', rc 1 g spot x s c ((t + 1 : Nat) : Int) S = some (byF R g c (wP R g c t) t x s spot, S') ∧ S' 131 = R
theorem ward_m {R : Nat → Int} {g c x spot : Int} {t : Nat} {rc : Nat → Int → Int → Int → Int → Int → Int → SS → Option (Bool × SS)} (hB : townB R) (hW : WM R g c rc t) (h0 : 0 ≤ spot) (h1 : spot < 120) : ∀ (m n k : Nat) (S : SS), m + k = (R 2).toNat → m < n → S 131 = R → ∃ S', fX12_wardens_L35 rc g spot x c t n k S = some ((if alN (fun s => if sgB R x s = 3 then true else wP R g c t (jor x (jshl 1 (s : Nat))) spot) m k = true then 1 else 0), S') ∧ S' 131 = R := by
  have h2 := hB.2.1
  intro m
  induction m with
  | zero =>
    intro n k S hk hn hR
    obtain ⟨n, rfl⟩ := suc_of hn
    unfold fX12_wardens_L35
    rw [rdA_ok (by decide) (by decide), hR, if_pos (show R (2 : Int).toNat ≤ (k : Int) by show R 2 ≤ _; omega)]
    exact ⟨S, rfl, hR⟩
  | succ m ih =>
    intro n k S hk hn hR
    obtain ⟨n, rfl⟩ := suc_of hn
    obtain ⟨S', a1, a2⟩ := ih n (k + 1) S (by omega) (by omega) hR
    unfold fX12_wardens_L35
    rw [rdA_ok (by decide) (by decide), hR, if_neg (show ¬ R (2 : Int).toNat ≤ (k : Int) by show ¬ R 2 ≤ _; omega), isIn_ok (by omega), bnd_s, lt_ok, w32_k (by omega)]
    by_cases b : bit x k = true
    · have c3 : sgB R x k = 3 := by unfold sgB; rw [if_pos b]
      rw [if_pos b, a1]
      refine ⟨S', ?_, a2⟩
      rw [alN_s, if_pos c3, Bool.true_and]
    · have es : sgB R x k = R (40 + k) := by unfold sgB; rw [if_neg b]
      have e40 : (w32 (40 + (k : Int))).toNat = 40 + k := by rw [w32_eq (by omega) (by omega)]; omega
      rw [if_neg b, rdA_ok (by rw [w32_eq (by omega) (by omega)]; omega) (by rw [w32_eq (by omega) (by omega)]; omega), e40, hR, ← es]
      by_cases c3 : sgB R x k = 3
      · rw [if_pos c3, a1]
        refine ⟨S', ?_, a2⟩
        rw [alN_s, if_pos c3, Bool.true_and]
      · rw [if_neg c3]
        obtain ⟨S4, b1, b2⟩ := hW (jor x (jshl 1 (k : Nat))) spot S hR h0 h1
        rw [b1, bnd_s]
        simp only
        by_cases w : wP R g c t (jor x (jshl 1 (k : Nat))) spot = true
        · rw [if_pos w, lt_ok]
          obtain ⟨S5, d1, d2⟩ := ih n (k + 1) S4 (by omega) (by omega) b2
          rw [d1]
          refine ⟨S5, ?_, d2⟩
          rw [alN_s, if_neg c3, w, Bool.true_and]
        · rw [if_neg w]
          refine ⟨S4, ?_, b2⟩
          rw [alN_s, if_neg c3, Bool.eq_false_iff.mpr w, Bool.false_and, if_neg (by decide)]
theorem v_m {R : Nat → Int} {g c x spot : Int} {t : Nat} {rc : Nat → Int → Int → Int → Int → Int → Int → SS → Option (Bool × SS)} {S : SS} (hB : townB R) (hW : t ≠ 0 → WM R g c rc t) (h0 : 0 ≤ spot) (h1 : spot < 120) (hR : S 131 = R) : ∃ S', fX12_wardens rc g spot x c t S = some (vF R c (wP R g c t) t x spot, S') ∧ S' 131 = R := by
  have h2 := hB.2.1
  unfold fX12_wardens vF
  rw [tdiv20 h0, w32_eq (by omega) (by omega)]
  by_cases e : spot / 20 = c
  · rw [if_pos e, if_pos e]
    exact ⟨S, rfl, hR⟩
  · rw [if_neg e, if_neg e]
    by_cases z : t = 0
    · rw [if_pos (by omega), if_pos z]
      exact ⟨S, rfl, hR⟩
    · rw [if_neg (by omega), if_neg z]
      obtain ⟨S1, a1, a2⟩ := hW z x spot S hR h0 h1
      rw [a1, bnd_s]
      simp only
      by_cases w : wP R g c t x spot = true
      · rw [if_pos w, w, Bool.true_and]
        obtain ⟨S2, b1, b2⟩ := ward_m (x := x) hB (hW z) h0 h1 (R 2).toNat FU 0 S1 (by omega) (by unfold FU; omega) a2
        have b1' : fX12_wardens_L35 rc g spot x c t FU 0 S1 = _ := b1
        rw [b1', bnd_s]
        simp only
        by_cases y : alN (fun s => if sgB R x s = 3 then true else wP R g c t (jor x (jshl 1 (s : Nat))) spot) (R 2).toNat 0 = true
        · rw [if_pos y, if_neg (by decide), y]
          exact ⟨S2, rfl, b2⟩
        · rw [if_neg y, if_pos rfl, Bool.eq_false_iff.mpr y]
          exact ⟨S2, rfl, b2⟩
      · rw [if_neg w, Bool.eq_false_iff.mpr w, Bool.false_and]
        exact ⟨S1, rfl, a2⟩
theorem e40_ok {s : Nat} (h : s < 8) : 0 ≤ w32 (40 + (s : Int)) ∧ w32 (40 + (s : Int)) < (3303 : Nat) ∧ (w32 (40 + (s : Int))).toNat = 40 + s := by
  rw [w32_eq (by omega) (by omega)]
  omega
theorem neg_if {a : Int} (z : 0 ≤ a) : (if a < 0 then -a else 0) = 0 := by rw [if_neg (by omega)]
theorem pos_if {a : Int} (z : ¬ 0 ≤ a) : ¬ (if a < 0 then -a else 0) = 0 := by rw [if_pos (by omega)]; omega
theorem b_m {R : Nat → Int} {g c : Int} {t : Nat} {rc : Nat → Int → Int → Int → Int → Int → Int → SS → Option (Bool × SS)} {n : Nat} (hB : townB R) (hb : 0 ≤ R 48 ∧ R 48 ≤ 9) (hg : 0 ≤ g ∧ g < R 3) (ht : t < 5) (hV : VM R g c rc t) (hn : ∀ a b d e f h S, fGX12_childs n 1 a b d e f h S = fX12_childsBy rc a b d e f h S) : BM R g c (fGX12_childs n) t := by
  have h1 := hB.1
  have h2 := hB.2.1
  have h3 := hB.2.2.1
  intro x spot s S hs hR p0 p1
  have hs0 : 0 ≤ (s : Int) := by omega
  have hs1 : (s : Int) < R 2 := by omega
  have hg3 : g < 3 := by omega
  have hlt : (-2 : Int) < 20 * R 1 := by omega
  have hs8 : s < 8 := by omega
  rw [hn]
  unfold fX12_childsBy byF afB
  rw [isIn_ok (by omega), bnd_s]
  by_cases b : bit x s = true
  · have c3 : sgB R x s = 3 := by unfold sgB; rw [if_pos b]
    rw [if_pos b, c3, aft3, if_neg (by decide)]
    exact ⟨S, rfl, hR⟩
  · have es : sgB R x s = R (40 + s) := by unfold sgB; rw [if_neg b]
    have e40 := @e40_ok s hs8
    rw [if_neg b, rdA_ok e40.1 e40.2.1, e40.2.2, hR, ← es]
    clear es e40
    obtain ⟨S1, a1⟩ := whyBy_ok (S := S) (g := g) (s := s) (at1 := spot) (sg := sgB R x s) (by rw [hR]; exact hB) ⟨hg.1, hg3⟩ (by rw [hR]; exact ⟨hs0, hs1⟩) ⟨p0, p1⟩ (by rw [hR]; exact hb)
    rw [hR] at a1
    have r1 : S1 131 = R := (w_fX12_whyBy a1 (by decide)).trans hR
    have ub : aftP R g s spot (sgB R x s) (R 48) < 20 * R 1 := by
      rcases @aftP_b R g s spot (sgB R x s) (R 48) hB ⟨hs0, hs1⟩ with bb | bb
      · exact Int.lt_of_le_of_lt bb.2 hlt
      · exact bb.2
    have gt : 0 ≤ aftP R g s spot (sgB R x s) (R 48) → ∃ S2, fX12_goneTo g spot s S1 = some (aftP R g s spot (sgB R x s) (R 48), S2) := fun z => by
      obtain ⟨S2, d1⟩ := goneTo_ok (S := S1) (g := g) (s := s) (at1 := spot) (sg := sgB R x s) (by rw [r1]; exact hB) ⟨hg.1, hg3⟩ (by rw [r1]; exact ⟨hs0, hs1⟩) ⟨p0, p1⟩ (by rw [r1]; exact hb) (by rw [r1]; exact z)
      rw [r1] at d1
      exact ⟨S2, d1⟩
    rw [a1, bnd_s]
    clear a1
    generalize aftP R g s spot (sgB R x s) (R 48) = v at ub gt ⊢
    simp only
    by_cases z : 0 ≤ v
    · rw [if_pos (neg_if z), if_pos z]
      obtain ⟨S2, d1⟩ := gt z
      have r2 : S2 131 = R := (w_fX12_goneTo d1 (by omega)).trans r1
      obtain ⟨S3, f1, f2⟩ := hV x _ S2 r2 z (by omega)
      rw [d1, bnd_s]
      simp only
      rw [show w32 (((t + 1 : Nat) : Int) - 1) = (t : Int) by rw [w32_eq (by omega) (by omega)]; omega, f1, bnd_s]
      simp only
      refine ⟨S3, ?_, f2⟩
      cases vF R c (wP R g c t) t x v with
      | true => rfl
      | false => rfl
    · rw [if_neg (pos_if z), if_neg z]
      exact ⟨S1, rfl, r1⟩
