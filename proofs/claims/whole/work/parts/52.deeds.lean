/-! deeds: standings as rows of fifteen numbers (corners, years, signs, bollards) -/
def eqT (Q Q' : Nat → Int) : Prop := ∀ k, k < 34 ∨ 200 ≤ k → Q' k = Q k
theorem codeP_t {Q Q' : Nat → Int} (h : eqT Q Q') {l : Nat} (hl : l ≤ 1) : codeP Q' l = codeP Q l := by
  funext k; unfold codeP; rw [h (6 + l) (by omega)]; exact h _ (by omega)
theorem lawP_t {Q Q' : Nat → Int} (h : eqT Q Q') {l : Nat} (hl : l ≤ 1) {g s year ag bol : Int} (h0 : 0 ≤ s) (h8 : s < 8) : lawP Q' l g s year ag bol = lawP Q l g s year ag bol := by
  have : wdP Q' g s year ag bol = wdP Q g s year ag bol := by
    funext j; unfold wdP; rw [h (26 + s).toNat (by omega)]
  unfold lawP; rw [codeP_t h hl, this, h (8 + l) (by omega)]
theorem yearP_t {Q Q' : Nat → Int} (h : eqT Q Q') {g s side year bol : Int} (h0 : 0 ≤ s) (h8 : s < 8) : yearP Q' g s side year bol = yearP Q g s side year bol := by
  unfold yearP shP
  rw [lawP_t h (by omega) h0 h8, lawP_t h (by omega) h0 h8, h 4 (by omega), h 5 (by omega), h (26 + s).toNat (by omega)]
theorem aftP_t {Q Q' : Nat → Int} (h : eqT Q Q') {g s spot sg bol : Int} (h0 : 0 ≤ s) (h8 : s < 8) : aftP Q' g s spot sg bol = aftP Q g s spot sg bol := by
  have e : sideP Q' s (spot / 20) sg = sideP Q s (spot / 20) sg := by
    unfold sideP; rw [h (10 + s).toNat (by omega), h (18 + s).toNat (by omega)]
  unfold aftP
  rw [e, yearP_t h h0 h8, h (10 + s).toNat (by omega), h (18 + s).toNat (by omega)]
theorem lawB_t {Q Q' : Nat → Int} (h : eqT Q Q') {l : Nat} (hl : l ≤ 1) {b : Bool} (hB : lawB Q l b) : lawB Q' l b := by
  unfold lawB; rw [codeP_t h hl, h (4 + l) (by omega), h (6 + l) (by omega), h (8 + l) (by omega), h 200 (by omega)]; exact hB
theorem townB_t {Q Q' : Nat → Int} (h : eqT Q Q') (hB : townB Q) : townB Q' := by
  obtain ⟨h1, h2, h3, h4, h5, h6, h7, h8⟩ := hB
  unfold townB
  rw [h 0 (by omega), h 1 (by omega), h 2 (by omega), h 3 (by omega), h 200 (by omega)]
  refine ⟨h1, h2, h3, h4, h5, fun s hs => ?_, lawB_t h (by omega) h7, lawB_t h (by omega) h8⟩
  rw [h (10 + s) (by omega), h (18 + s) (by omega), h (26 + s) (by omega)]
  exact h6 s hs
theorem townR_t {S : SS} {t : Nat} {Q Q' : Nat → Int} (h : eqT Q Q') (h8 : Q 2 ≤ 8) (hR : townR S t Q) : townR S t Q' := by
  obtain ⟨h1, h2, h3, h4, h5⟩ := hR
  unfold townR
  rw [h 0 (by omega), h 1 (by omega), h 2 (by omega), h 3 (by omega), h 4 (by omega), h 5 (by omega), h 6 (by omega), h 7 (by omega), h 8 (by omega), h 9 (by omega), h 200 (by omega)]
  refine ⟨h1, fun s hs => ?_, fun k hk => ?_, h4, h5⟩
  · rw [h (10 + s) (by omega), h (18 + s) (by omega), h (26 + s) (by omega)]
    exact h2 s hs
  · rw [h (201 + k) (by omega)]; exact h3 k hk
theorem lanes_t {S S' : SS} (h30 : S' 30 = S 30) (h33 : S' 33 = S 33) (h : eqT (S 131) (S' 131)) (h8 : S 131 2 ≤ 8) (hL : lanes S) : lanes S' := by
  unfold lanes
  rw [h30, h33, h 2 (by omega), h 3 (by omega)]
  obtain hl | ⟨h1, h2⟩ := hL
  · exact Or.inl hl
  · refine Or.inr ⟨h1, fun g s side year a b c d e f i j => ?_⟩
    rw [yearP_t h c (by omega)]
    exact h2 g s side year a b c d e f i j
def stV (S : SS) (r : Nat) (v : Nat → Int) : Prop := (∀ i, i < 3 → S (r + 2) i = v i) ∧ (∀ i, i < 3 → S (r + 3) i = v (3 + i)) ∧ (∀ i, i < 8 → S (r + 1) i = v (6 + i)) ∧ S r 3 = v 14
def bdV (v : Nat → Int) (C : Int) : Prop := (∀ i, i < 3 → 0 ≤ v i ∧ v i < C) ∧ (∀ i, i < 3 → 0 ≤ v (3 + i) ∧ v (3 + i) ≤ 19) ∧ (∀ i, i < 8 → 0 ≤ v (6 + i) ∧ v (6 + i) ≤ 3) ∧ (0 ≤ v 14 ∧ v 14 ≤ 9)
theorem stV_of {S : SS} {r o : Nat} {Q : Nat → Int} (h : stEq S r Q o) : stV S r (sft Q o) := by
  refine ⟨h.1, fun i hi => ?_, fun i hi => ?_, h.2.2.2⟩
  · show _ = Q (o + (3 + i)); rw [← Nat.add_assoc]; exact h.2.1 i hi
  · show _ = Q (o + (6 + i)); rw [← Nat.add_assoc]; exact h.2.2.1 i hi
theorem stEq_of {S : SS} {r o : Nat} {Q : Nat → Int} (h : stV S r (sft Q o)) : stEq S r Q o := by
  refine ⟨h.1, fun i hi => ?_, fun i hi => ?_, h.2.2.2⟩
  · rw [h.2.1 i hi]; show Q (o + (3 + i)) = _; rw [← Nat.add_assoc]
  · rw [h.2.2.1 i hi]; show Q (o + (6 + i)) = _; rw [← Nat.add_assoc]
theorem bdV_of {o : Nat} {Q : Nat → Int} {C : Int} (h : stBd Q o C) : bdV (sft Q o) C := by
  refine ⟨h.1, fun i hi => ?_, fun i hi => ?_, h.2.2.2⟩
  · show 0 ≤ Q (o + (3 + i)) ∧ Q (o + (3 + i)) ≤ 19; rw [← Nat.add_assoc]; exact h.2.1 i hi
  · show 0 ≤ Q (o + (6 + i)) ∧ Q (o + (6 + i)) ≤ 3; rw [← Nat.add_assoc]; exact h.2.2.1 i hi
theorem stBd_of {o : Nat} {Q : Nat → Int} {C : Int} (h : bdV (sft Q o) C) : stBd Q o C := by
  refine ⟨h.1, fun i hi => ?_, fun i hi => ?_, h.2.2.2⟩
  · have := h.2.1 i hi; rw [Nat.add_assoc]; exact this
  · have := h.2.2.1 i hi; rw [Nat.add_assoc]; exact this
theorem stV_fr {S S' : SS} {r : Nat} {v : Nat → Int} (h0 : S' r = S r) (h1 : S' (r + 1) = S (r + 1)) (h2 : S' (r + 2) = S (r + 2)) (h3 : S' (r + 3) = S (r + 3)) (h : stV S r v) : stV S' r v := by
  unfold stV; rw [h0, h1, h2, h3]; exact h
theorem stV_c {S : SS} {r : Nat} {v w : Nat → Int} (e : ∀ k, k < 15 → w k = v k) (h : stV S r v) : stV S r w := by
  refine ⟨fun i hi => ?_, fun i hi => ?_, fun i hi => ?_, ?_⟩
  · rw [e _ (by omega)]; exact h.1 i hi
  · rw [e _ (by omega)]; exact h.2.1 i hi
  · rw [e _ (by omega)]; exact h.2.2.1 i hi
  · rw [e _ (by omega)]; exact h.2.2.2
theorem bdV_c {v w : Nat → Int} {C : Int} (e : ∀ k, k < 15 → w k = v k) (h : bdV v C) : bdV w C := by
  refine ⟨fun i hi => ?_, fun i hi => ?_, fun i hi => ?_, ?_⟩
  · rw [e _ (by omega)]; exact h.1 i hi
  · rw [e _ (by omega)]; exact h.2.1 i hi
  · rw [e _ (by omega)]; exact h.2.2.1 i hi
  · rw [e _ (by omega)]; exact h.2.2.2
def setG (v : Nat → Int) (g c y : Int) : Nat → Int := fun k => if k = g.toNat then c else if k = 3 + g.toNat then y else v k
def setS (v : Nat → Int) (s n : Int) : Nat → Int := fun k => if k = 6 + s.toNat then n else v k
def setB (v : Nat → Int) (n : Int) : Nat → Int := fun k => if k = 14 then n else v k
def rowV (R v : Nat → Int) : Nat → Int := fun j => if 34 ≤ j ∧ j < 49 then v (j - 34) else R j
theorem rowV_t {R v : Nat → Int} : eqT R (rowV R v) := fun k hk => by unfold rowV; rw [if_neg (by omega)]
theorem rowV_at {R v : Nat → Int} {k : Nat} (h : k < 15) : rowV R v (34 + k) = v k := by unfold rowV; rw [if_pos (by omega)]; congr 1; omega
theorem rowV_self {R : Nat → Int} : rowV R (sft R 34) = R := by
  funext j; unfold rowV sft; split
  · congr 1; omega
  · rfl
theorem rowV_bd {R v : Nat → Int} {C : Int} (h : bdV v C) : stBd (rowV R v) 34 C := stBd_of (bdV_c (v := v) (fun k hk => rowV_at hk) h)
theorem stV_setG {S : SS} {r : Nat} {v : Nat → Int} {g c y : Int} (h0 : 0 ≤ g) (h3 : g < 3) (h : stV S r v) : ∃ S', fX6_setGoer r g c y S = some S' ∧ stV S' r (setG v g c y) := by
  unfold fX6_setGoer
  rw [if_neg (by omega), if_neg (by omega), if_neg (by omega), wrA_ok h0 (by omega), wrA_ok h0 (by omega)]
  refine ⟨_, rfl, fun i hi => ?_, fun i hi => ?_, fun i hi => ?_, ?_⟩
  · rw [up_row (by omega), up_at]
    unfold setG
    by_cases cc : i = g.toNat
    · rw [if_pos cc, if_pos cc]
    · rw [if_neg cc, if_neg cc, if_neg (by omega)]; exact h.1 i hi
  · rw [up_at, up_row (by omega)]
    unfold setG
    by_cases cc : i = g.toNat
    · rw [if_pos cc, if_neg (by omega), if_pos (by omega)]
    · rw [if_neg cc, if_neg (by omega), if_neg (by omega)]; exact h.2.1 i hi
  · rw [up_row (by omega), up_row (by omega)]
    unfold setG
    rw [if_neg (by omega), if_neg (by omega)]; exact h.2.2.1 i hi
  · rw [up_row (by omega), up_row (by omega)]
    unfold setG
    rw [if_neg (by omega), if_neg (by omega)]; exact h.2.2.2
theorem stV_setS {S : SS} {r : Nat} {v : Nat → Int} {s n : Int} (h0 : 0 ≤ s) (h8 : s < 8) (h : stV S r v) : ∃ S', fX6_setSign r s n S = some S' ∧ stV S' r (setS v s n) := by
  unfold fX6_setSign
  rw [if_neg (by omega), if_neg (by omega), wrA_ok h0 (by omega)]
  refine ⟨_, rfl, fun i hi => ?_, fun i hi => ?_, fun i hi => ?_, ?_⟩
  · rw [up_row (by omega)]; unfold setS; rw [if_neg (by omega)]; exact h.1 i hi
  · rw [up_row (by omega)]; unfold setS; rw [if_neg (by omega)]; exact h.2.1 i hi
  · rw [up_at]
    unfold setS
    by_cases cc : i = s.toNat
    · rw [if_pos cc, if_pos (by omega)]
    · rw [if_neg cc, if_neg (by omega)]; exact h.2.2.1 i hi
  · rw [up_row (by omega)]; unfold setS; rw [if_neg (by omega)]; exact h.2.2.2
theorem stV_setB {S : SS} {r : Nat} {v : Nat → Int} {n : Int} (h : stV S r v) : stV (up S r 3 n) r (setB v n) := by
  refine ⟨fun i hi => ?_, fun i hi => ?_, fun i hi => ?_, ?_⟩
  · rw [up_row (by omega)]; unfold setB; rw [if_neg (by omega)]; exact h.1 i hi
  · rw [up_row (by omega)]; unfold setB; rw [if_neg (by omega)]; exact h.2.1 i hi
  · rw [up_row (by omega)]; unfold setB; rw [if_neg (by omega)]; exact h.2.2.1 i hi
  · rw [up_self]; rfl
theorem bdV_setG {v : Nat → Int} {g c y C : Int} (h0 : 0 ≤ g) (h3 : g < 3) (hc : 0 ≤ c ∧ c < C) (hy : 0 ≤ y ∧ y ≤ 19) (h : bdV v C) : bdV (setG v g c y) C := by
  refine ⟨fun i hi => ?_, fun i hi => ?_, fun i hi => ?_, ?_⟩
  · unfold setG
    by_cases cc : i = g.toNat
    · rw [if_pos cc]; exact hc
    · rw [if_neg cc, if_neg (by omega)]; exact h.1 i hi
  · unfold setG
    by_cases cc : i = g.toNat
    · rw [if_neg (by omega), if_pos (by omega)]; exact hy
    · rw [if_neg (by omega), if_neg (by omega)]; exact h.2.1 i hi
  · unfold setG; rw [if_neg (by omega), if_neg (by omega)]; exact h.2.2.1 i hi
  · unfold setG; rw [if_neg (by omega), if_neg (by omega)]; exact h.2.2.2
theorem bdV_setS {v : Nat → Int} {s n C : Int} (h0 : 0 ≤ s) (h8 : s < 8) (hn : 0 ≤ n ∧ n ≤ 3) (h : bdV v C) : bdV (setS v s n) C := by
  refine ⟨fun i hi => ?_, fun i hi => ?_, fun i hi => ?_, ?_⟩
  · unfold setS; rw [if_neg (by omega)]; exact h.1 i hi
  · unfold setS; rw [if_neg (by omega)]; exact h.2.1 i hi
  · unfold setS
    by_cases cc : i = s.toNat
    · rw [if_pos (by omega)]; exact hn
    · rw [if_neg (by omega)]; exact h.2.2.1 i hi
  · unfold setS; rw [if_neg (by omega)]; exact h.2.2.2
theorem bdV_setB {v : Nat → Int} {n C : Int} (hn : 0 ≤ n ∧ n ≤ 9) (h : bdV v C) : bdV (setB v n) C := by
  refine ⟨fun i hi => ?_, fun i hi => ?_, fun i hi => ?_, ?_⟩
  · unfold setB; rw [if_neg (by omega)]; exact h.1 i hi
  · unfold setB; rw [if_neg (by omega)]; exact h.2.1 i hi
  · unfold setB; rw [if_neg (by omega)]; exact h.2.2.1 i hi
  · exact hn
theorem rowV_setG {R v : Nat → Int} {g c y : Int} {S : SS} (h0 : 0 ≤ g) (h3 : g < 3) (h : S 131 = rowV R v) : up (up S 131 (34 + g).toNat c) 131 (37 + g).toNat y 131 = rowV R (setG v g c y) := by
  funext j
  rw [up_at, up_at, h]
  unfold rowV setG
  by_cases c1 : j = (37 + g).toNat
  · rw [if_pos c1, if_pos (by omega), if_neg (by omega), if_pos (by omega)]
  · rw [if_neg c1]
    by_cases c2 : j = (34 + g).toNat
    · rw [if_pos c2, if_pos (by omega), if_pos (by omega)]
    · rw [if_neg c2]
      by_cases c3 : 34 ≤ j ∧ j < 49
      · rw [if_pos c3, if_pos c3, if_neg (by omega), if_neg (by omega)]
      · rw [if_neg c3, if_neg c3]
theorem rowV_setS {R v : Nat → Int} {s n : Int} {S : SS} (h0 : 0 ≤ s) (h8 : s < 8) (h : S 131 = rowV R v) : up S 131 (40 + s).toNat n 131 = rowV R (setS v s n) := by
  funext j
  rw [up_at, h]
  unfold rowV setS
  by_cases c1 : j = (40 + s).toNat
  · rw [if_pos c1, if_pos (by omega), if_pos (by omega)]
  · rw [if_neg c1]
    by_cases c3 : 34 ≤ j ∧ j < 49
    · rw [if_pos c3, if_pos c3, if_neg (by omega)]
    · rw [if_neg c3, if_neg c3]
theorem rowV_setB {R v : Nat → Int} {n : Int} {S : SS} (h : S 131 = rowV R v) : up S 131 48 n 131 = rowV R (setB v n) := by
  funext j
  rw [up_at, h]
  unfold rowV setB
  by_cases c1 : j = 48
  · rw [if_pos c1, if_pos (by omega), if_pos (by omega)]
  · rw [if_neg c1]
    by_cases c3 : 34 ≤ j ∧ j < 49
    · rw [if_pos c3, if_pos c3, if_neg (by omega)]
    · rw [if_neg c3, if_neg c3]
/-! a going in a standing -/
def goV (R v : Nat → Int) (g s : Int) : Int := if (0 ≤ g ∧ g < R 3) ∧ (0 ≤ s ∧ s < R 2) then aftP R g s (v g.toNat * 20 + v (3 + g.toNat)) (v (6 + s.toNat)) (v 14) else -1
theorem goP_row {R v : Nat → Int} (h2 : R 2 ≤ 8) (h3 : R 3 ≤ 3) {g s : Int} : goP (rowV R v) g s = goV R v g s := by
  unfold goP goV
  have e2 : rowV R v 2 = R 2 := rowV_t 2 (by omega)
  have e3 : rowV R v 3 = R 3 := rowV_t 3 (by omega)
  rw [e2, e3]
  by_cases c : (0 ≤ g ∧ g < R 3) ∧ (0 ≤ s ∧ s < R 2)
  · rw [if_pos c, if_pos c, aftP_t rowV_t c.2.1 (by omega)]
    have k1 : (34 + g).toNat = 34 + g.toNat := by omega
    have k2 : (37 + g).toNat = 34 + (3 + g.toNat) := by omega
    have k3 : (40 + s).toNat = 34 + (6 + s.toNat) := by omega
    unfold spotP
    rw [k1, k2, k3, rowV_at (by omega), rowV_at (by omega), rowV_at (by omega), show (48 : Nat) = 34 + 14 from rfl, rowV_at (by omega)]
  · rw [if_neg c, if_neg c]
theorem goV_self {R : Nat → Int} (h2 : R 2 ≤ 8) (h3 : R 3 ≤ 3) {g s : Int} : goV R (sft R 34) g s = goP R g s := by
  rw [← goP_row h2 h3, rowV_self]
theorem goV_b {R v : Nat → Int} (hB : townB R) {g s : Int} : (-4 ≤ goV R v g s ∧ goV R v g s ≤ -1) ∨ ((0 ≤ goV R v g s ∧ goV R v g s < 20 * R 1) ∧ (0 ≤ g ∧ g < R 3) ∧ (0 ≤ s ∧ s < R 2)) := by
  unfold goV
  split
  · rename_i h
    have := @aftP_b R g s (v g.toNat * 20 + v (3 + g.toNat)) (v (6 + s.toNat)) (v 14) hB h.2
    omega
  · omega
theorem goV_ok {S : SS} {p : Nat} {v : Nat → Int} (hC : Core S) (hv : stV S p v) (hb : bdV v (S 131 1)) {g s : Int} : ∃ x S', fX6_spotOf p g S = some x ∧ fX5_after g s x p S = some (goV (S 131) v g s, S') ∧ lanes S' := by
  obtain ⟨hR, hB, hL⟩ := id hC
  have h2 := hB.2.1
  have h3 := hB.2.2.1
  have h1 := hB.1
  unfold goV
  by_cases c3 : 0 ≤ g ∧ g < 3
  · have a1 := hv.1 g.toNat (by omega)
    have a2 := hv.2.1 g.toNat (by omega)
    have b1 := hb.1 g.toNat (by omega)
    have b2 := hb.2.1 g.toNat (by omega)
    have e := spotOf_ok (S := S) (p := p) c3.1 c3.2 a1 a2 b1.1 (by omega) b2.1 b2.2
    by_cases c : (0 ≤ g ∧ g < S 131 3) ∧ (0 ≤ s ∧ s < S 131 2)
    · rw [if_pos c]
      obtain ⟨S', e1, e2⟩ := after_ok (spot := v g.toNat * 20 + v (3 + g.toNat)) (p := p) hC c.1 c.2 (by omega) (hv.2.2.1 s.toNat (by omega)) hv.2.2.2 hb.2.2.2
      exact ⟨_, S', e, e1, e2⟩
    · rw [if_neg c]
      exact ⟨_, S, e, after_no hR hB (by omega), hL⟩
  · rw [if_neg (by omega)]
    exact ⟨_, S, spotOf_no c3, after_no hR hB (by omega), hL⟩
theorem walks_ok {S : SS} {p : Nat} {v : Nat → Int} (hp : p + 3 < 30) (hC : Core S) (hv : stV S p v) (hb : bdV v (S 131 1)) {g s : Int} :
    ∃ S', fX0_walks g s p S = some (if goV (S 131) v g s < 0 then - goV (S 131) v g s else 0, S') ∧ lanes S' ∧ stV S' p (if goV (S 131) v g s < 0 then v else setG v g (goV (S 131) v g s / 20) (goV (S 131) v g s % 20)) := by
  obtain ⟨x, S1, e1, e2, e3⟩ := goV_ok (g := g) (s := s) hC hv hb
  have f1 : ∀ a, (a < 31 ∨ 33 < a) → S1 a = S a := fun a ha => w_fX5_after e2 ha
  have hv1 : stV S1 p v := stV_fr (f1 _ (by omega)) (f1 _ (by omega)) (f1 _ (by omega)) (f1 _ (by omega)) hv
  have gb := @goV_b (S 131) v hC.2.1 g s
  have h1 := hC.2.1.1
  have h3 := hC.2.1.2.2.1
  unfold fX0_walks
  rw [e1, bnd_s, e2, bnd_s]
  simp only
  by_cases c : goV (S 131) v g s < 0
  · rw [if_neg (by omega), if_pos c, if_pos c, w32_eq (by omega) (by omega)]
    exact ⟨S1, rfl, e3, hv1⟩
  · rw [if_pos (by omega), if_neg c, if_neg c, tdiv20 (by omega), tmod20 (by omega), w32_eq (by omega) (by omega)]
    obtain ⟨S2, q1, q2⟩ := stV_setG (c := goV (S 131) v g s / 20) (y := goV (S 131) v g s % 20) (show 0 ≤ g by omega) (show g < 3 by omega) hv1
    rw [q1, bnd_s]
    have f2 : ∀ a, a ≠ p + 2 ∧ a ≠ p + 3 → S2 a = S1 a := fun a ha => w_fX6_setGoer q1 ha
    refine ⟨S2, rfl, ?_, q2⟩
    exact lanes_fr (f2 30 (by omega)) (f2 33 (by omega)) (f2 131 (by omega)) e3
