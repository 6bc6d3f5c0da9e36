/-! told deeds, one by one -/
def didP (R v : Nat → Int) (x : Int) : Int × (Nat → Int) :=
  if x < 0 ∨ 3999 < x then (1, v)
  else if x < 100 then (if goV R v (x / 10) (x % 10) < 0 then (- goV R v (x / 10) (x % 10), v) else (0, setG v (x / 10) (goV R v (x / 10) (x % 10) / 20) (goV R v (x / 10) (x % 10) % 20)))
  else if x < 200 then (if (0 ≤ (x - 100) / 10 ∧ (x - 100) / 10 < R 2) ∧ (0 ≤ x % 10 ∧ x % 10 ≤ 3) then (0, setS v ((x - 100) / 10) (x % 10)) else (1, v))
  else if x < 1000 then (if 0 ≤ x - 200 ∧ x - 200 ≤ 9 then (0, setB v (x - 200)) else (1, v))
  else (if (0 ≤ (x - 1000) / 1000 ∧ (x - 1000) / 1000 < R 3) ∧ (0 ≤ x % 1000 / 100 ∧ x % 1000 / 100 < R 1) ∧ (0 ≤ x % 100 ∧ x % 100 ≤ 19) then (0, setG v ((x - 1000) / 1000) (x % 1000 / 100) (x % 100)) else (1, v))
theorem did_same {R v : Nat → Int} {x : Int} (h : (didP R v x).1 ≠ 0) : (didP R v x).2 = v := by
  unfold didP at h ⊢
  split
  · rfl
  rename_i c1
  rw [if_neg c1] at h
  split
  · rename_i c2
    rw [if_pos c2] at h
    split
    · rfl
    · rename_i c3; rw [if_neg c3] at h; exact absurd rfl h
  rename_i c2
  rw [if_neg c2] at h
  split
  · rename_i c3
    rw [if_pos c3] at h
    split
    · rename_i c4; rw [if_pos c4] at h; exact absurd rfl h
    · rfl
  rename_i c3
  rw [if_neg c3] at h
  split
  · rename_i c4
    rw [if_pos c4] at h
    split
    · rename_i c5; rw [if_pos c5] at h; exact absurd rfl h
    · rfl
  rename_i c4
  rw [if_neg c4] at h
  split
  · rename_i c5; rw [if_pos c5] at h; exact absurd rfl h
  · rfl
theorem did_bd {R v : Nat → Int} {x : Int} (hB : townB R) (hb : bdV v (R 1)) : bdV (didP R v x).2 (R 1) := by
  have h1 := hB.1
  have h2 := hB.2.1
  have h3 := hB.2.2.1
  unfold didP
  split
  · exact hb
  split
  · have gb := @goV_b R v hB (x / 10) (x % 10)
    split
    · exact hb
    · exact bdV_setG (by omega) (by omega) (by omega) (by omega) hb
  split
  · split
    · exact bdV_setS (by omega) (by omega) (by omega) hb
    · exact hb
  split
  · split
    · exact bdV_setB (by omega) hb
    · exact hb
  split
  · exact bdV_setG (by omega) (by omega) (by omega) (by omega) hb
  · exact hb
theorem signs_ok {S : SS} {p : Nat} {v : Nat → Int} {s n : Int} (hR : townR S 2 (S 131)) (hB : townB (S 131)) (hv : stV S p v) :
    ∃ S', fX0_signs s n p S = some (if (0 ≤ s ∧ s < S 131 2) ∧ (0 ≤ n ∧ n ≤ 3) then 0 else 1, S') ∧ stV S' p (if (0 ≤ s ∧ s < S 131 2) ∧ (0 ≤ n ∧ n ≤ 3) then setS v s n else v) ∧ ∀ a, a ≠ p + 1 → S' a = S a := by
  have h2 := hB.2.1
  unfold fX0_signs
  rw [hasStreet_ok (by rw [hR.1.2.1]; exact h2.2), hR.1.2.1, bnd_s]
  by_cases c : 0 ≤ s ∧ s < S 131 2
  · rw [if_pos (decide_eq_true c)]
    by_cases d : 0 ≤ n ∧ n ≤ 3
    · obtain ⟨S2, q1, q2⟩ := stV_setS (n := n) c.1 (show s < 8 by omega) hv
      rw [if_neg (by omega), if_pos d.2, q1, bnd_s, if_pos ⟨c, d⟩, if_pos ⟨c, d⟩]
      exact ⟨S2, rfl, q2, fun a ha => w_fX6_setSign q1 ha⟩
    · rw [if_neg (c := (0 ≤ s ∧ s < S 131 2) ∧ (0 ≤ n ∧ n ≤ 3)) (fun h => d h.2), if_neg (c := (0 ≤ s ∧ s < S 131 2) ∧ (0 ≤ n ∧ n ≤ 3)) (fun h => d h.2)]
      by_cases e : n < 0
      · rw [if_pos e]; exact ⟨S, rfl, hv, fun a _ => rfl⟩
      · rw [if_neg e, if_neg (by omega)]; exact ⟨S, rfl, hv, fun a _ => rfl⟩
  · rw [if_neg (by rw [decide_eq_true_eq]; exact c), if_neg (fun h => c h.1), if_neg (fun h => c h.1)]
    exact ⟨S, rfl, hv, fun a _ => rfl⟩
theorem plants_ok {S : SS} {p : Nat} {v : Nat → Int} {n : Int} (hv : stV S p v) :
    ∃ S', fX0_plants n p S = some (if 0 ≤ n ∧ n ≤ 9 then 0 else 1, S') ∧ stV S' p (if 0 ≤ n ∧ n ≤ 9 then setB v n else v) ∧ ∀ a, a ≠ p → S' a = S a := by
  unfold fX0_plants
  by_cases d : 0 ≤ n ∧ n ≤ 9
  · rw [if_neg (by omega), if_pos d.2, lt_ok, if_pos d, if_pos d]
    exact ⟨_, rfl, stV_setB hv, fun a ha => up_row ha⟩
  · rw [if_neg (c := 0 ≤ n ∧ n ≤ 9) d, if_neg (c := 0 ≤ n ∧ n ≤ 9) d]
    by_cases e : n < 0
    · rw [if_pos e]; exact ⟨S, rfl, hv, fun a _ => rfl⟩
    · rw [if_neg e, if_neg (by omega)]; exact ⟨S, rfl, hv, fun a _ => rfl⟩
theorem moves_ok {S : SS} {p : Nat} {v : Nat → Int} {g c y : Int} (hR : townR S 2 (S 131)) (hB : townB (S 131)) (hv : stV S p v) :
    ∃ S', fX0_moves g c y p S = some (if (0 ≤ g ∧ g < S 131 3) ∧ (0 ≤ c ∧ c < S 131 1) ∧ (0 ≤ y ∧ y ≤ 19) then 0 else 1, S') ∧ stV S' p (if (0 ≤ g ∧ g < S 131 3) ∧ (0 ≤ c ∧ c < S 131 1) ∧ (0 ≤ y ∧ y ≤ 19) then setG v g c y else v) ∧ ∀ a, a ≠ p + 2 ∧ a ≠ p + 3 → S' a = S a := by
  have h1 := hB.1
  have h3 := hB.2.2.1
  unfold fX0_moves
  rw [hasGoer_ok (by rw [hR.1.2.2.1]; exact h3.2), hR.1.2.2.1, bnd_s]
  by_cases a : 0 ≤ g ∧ g < S 131 3
  · rw [if_pos (decide_eq_true a), hasCorner_ok (by rw [hR.1.1]; exact h1.2), hR.1.1, bnd_s]
    by_cases b : 0 ≤ c ∧ c < S 131 1
    · rw [if_pos (decide_eq_true b), cisYear_ok, bnd_s]
      by_cases e : 0 ≤ y ∧ y ≤ 19
      · obtain ⟨S2, q1, q2⟩ := stV_setG (c := c) (y := y) a.1 (show g < 3 by omega) hv
        rw [if_pos (decide_eq_true e), q1, bnd_s, if_pos ⟨a, b, e⟩, if_pos ⟨a, b, e⟩]
        exact ⟨S2, rfl, q2, fun a ha => w_fX6_setGoer q1 ha⟩
      · rw [if_neg (by rw [decide_eq_true_eq]; exact e), if_neg (fun h => e h.2.2), if_neg (fun h => e h.2.2)]
        exact ⟨S, rfl, hv, fun a _ => rfl⟩
    · rw [if_neg (by rw [decide_eq_true_eq]; exact b), if_neg (fun h => b h.2.1), if_neg (fun h => b h.2.1)]
      exact ⟨S, rfl, hv, fun a _ => rfl⟩
  · rw [if_neg (by rw [decide_eq_true_eq]; exact a), if_neg (fun h => a h.1), if_neg (fun h => a h.1)]
    exact ⟨S, rfl, hv, fun a _ => rfl⟩
theorem tdv {x : Int} {n : Int} (h : 0 ≤ x) : x.tdiv n = x / n := Int.tdiv_eq_ediv_of_nonneg h
theorem tmd {x : Int} {n : Int} (h : 0 ≤ x) : x.tmod n = x % n := Int.tmod_eq_emod_of_nonneg h
theorem told_ok {S : SS} {p : Nat} {v : Nat → Int} {x : Int} (hp : p + 3 < 30) (hC : Core S) (hv : stV S p v) (hb : bdV v (S 131 1)) :
    ∃ S', fX0_told x p S = some ((didP (S 131) v x).1, S') ∧ lanes S' ∧ stV S' p (didP (S 131) v x).2 := by
  obtain ⟨hR, hB, hL⟩ := id hC
  unfold fX0_told didP
  by_cases c1 : x < 0 ∨ 3999 < x
  · rw [if_pos c1]
    by_cases c : x < 0
    · rw [if_pos (lc_lt.mpr c)]; exact ⟨S, rfl, hL, hv⟩
    · rw [if_neg (fun h => c (lc_lt.mp h)), if_neg (fun h => by have := lc_le.mp h; omega)]; exact ⟨S, rfl, hL, hv⟩
  · rw [if_neg c1, if_neg (fun h => by have := lc_lt.mp h; omega), if_pos (lc_le.mpr (by omega)), lt_ok, w32_eq (x := x) (by omega) (by omega)]
    by_cases c2 : x < 100
    · rw [if_pos c2, if_neg (by omega), tdv (by omega), tmd (by omega), w32_eq (x := x / 10) (by omega) (by omega)]
      obtain ⟨S', q1, q2, q3⟩ := walks_ok (g := x / 10) (s := x % 10) hp hC hv hb
      rw [q1, bnd_s]
      refine ⟨S', ?_, q2, ?_⟩
      · split <;> rfl
      · split
        · rename_i c; rw [if_pos c] at q3; exact q3
        · rename_i c; rw [if_neg c] at q3; exact q3
    · rw [if_neg c2, if_pos (by omega)]
      by_cases c3 : x < 200
      · rw [if_pos c3, if_neg (by omega), w32_eq (x := x - 100) (by omega) (by omega), tdv (by omega), tmd (by omega), w32_eq (x := (x - 100) / 10) (by omega) (by omega)]
        obtain ⟨S', q1, q2, q3⟩ := signs_ok (s := (x - 100) / 10) (n := x % 10) hR hB hv
        rw [q1, bnd_s]
        refine ⟨S', ?_, lanes_fr (q3 _ (by omega)) (q3 _ (by omega)) (q3 _ (by omega)) hL, ?_⟩
        · split <;> rfl
        · split
          · rename_i c; rw [if_pos c] at q2; exact q2
          · rename_i c; rw [if_neg c] at q2; exact q2
      · rw [if_neg c3, if_pos (by omega)]
        by_cases c4 : x < 1000
        · rw [if_pos c4, if_neg (by omega), w32_eq (x := x - 200) (by omega) (by omega)]
          obtain ⟨S', q1, q2, q3⟩ := plants_ok (n := x - 200) hv
          rw [q1, bnd_s]
          refine ⟨S', ?_, lanes_fr (q3 _ (by omega)) (q3 _ (by omega)) (q3 _ (by omega)) hL, ?_⟩
          · split <;> rfl
          · split
            · rename_i c; rw [if_pos c] at q2; exact q2
            · rename_i c; rw [if_neg c] at q2; exact q2
        · rw [if_neg c4, if_pos (by omega), w32_eq (x := x - 1000) (by omega) (by omega), tdv (x := x - 1000) (by omega), tmd (by omega), tmd (by omega), tdv (by omega), w32_eq (x := (x - 1000) / 1000) (by omega) (by omega), w32_eq (x := x % 1000 / 100) (by omega) (by omega)]
          obtain ⟨S', q1, q2, q3⟩ := moves_ok (g := (x - 1000) / 1000) (c := x % 1000 / 100) (y := x % 100) hR hB hv
          rw [q1, bnd_s]
          refine ⟨S', ?_, lanes_fr (q3 _ (by omega)) (q3 _ (by omega)) (q3 _ (by omega)) hL, ?_⟩
          · split <;> rfl
          · split
            · rename_i c; rw [if_pos c] at q2; exact q2
            · rename_i c; rw [if_neg c] at q2; exact q2
/-! the reference's -/
theorem row_goP {S : SS} {R v : Nat → Int} (hr : S 131 = rowV R v) (hB : townB R) {g s : Int} : goP (S 131) g s = goV R v g s := by
  rw [hr]; exact goP_row hB.2.1.2 hB.2.2.1.2
theorem row_B {S : SS} {R v : Nat → Int} (hr : S 131 = rowV R v) (hB : townB R) : townB (S 131) := by rw [hr]; exact townB_t rowV_t hB
theorem row_bd {S : SS} {R v : Nat → Int} (hr : S 131 = rowV R v) (hb : bdV v (R 1)) : stBd (S 131) 34 (S 131 1) := by
  rw [hr, show rowV R v 1 = R 1 from rowV_t 1 (by omega)]; exact rowV_bd hb
theorem whyNot_ok {S : SS} {R v : Nat → Int} {x : Int} (hr : S 131 = rowV R v) (hB : townB R) (hb : bdV v (R 1)) : ∃ S', fX12_whyNot x S = some ((didP R v x).1, S') := by
  have B := row_B hr hB
  have b := row_bd hr hb
  have h1 := hB.1
  have h2 := hB.2.1
  have h3 := hB.2.2.1
  have r1 : S 131 1 = R 1 := by rw [hr]; exact rowV_t 1 (by omega)
  have r2 : S 131 2 = R 2 := by rw [hr]; exact rowV_t 2 (by omega)
  have r3 : S 131 3 = R 3 := by rw [hr]; exact rowV_t 3 (by omega)
  unfold fX12_whyNot didP
  rw [within_ok, bnd_s]
  by_cases c1 : x < 0 ∨ 3999 < x
  · rw [if_pos c1, if_neg (by rw [decide_eq_true_eq]; omega), within_ok, bnd_s, if_neg (by rw [decide_eq_true_eq]; omega), within_ok, bnd_s, if_neg (by rw [decide_eq_true_eq]; omega), within_ok, bnd_s, if_neg (by rw [decide_eq_true_eq]; omega)]
    exact ⟨S, rfl⟩
  · rw [if_neg c1]
    by_cases c2 : x < 100
    · rw [if_pos c2, if_pos (decide_eq_true (by omega)), tdv (by omega), tmd (by omega), w64_eq (x := x / 10) (by omega) (by omega)]
      obtain ⟨S', q⟩ := whyGo_ok (S := S) (g := x / 10) (s := x % 10) B b (by unfold cI; omega) (by unfold cI; omega)
      rw [row_goP hr hB] at q
      rw [q, bnd_s]
      refine ⟨S', ?_⟩
      split <;> rfl
    · rw [if_neg c2, if_neg (by rw [decide_eq_true_eq]; omega), within_ok, bnd_s]
      by_cases c3 : x < 200
      · rw [if_pos c3, if_pos (decide_eq_true (by omega)), w64_eq (x := x - 100) (by omega) (by omega), tdv (by omega), w64_eq (x := (x - 100) / 10) (by omega) (by omega), isStreet_ok (by rw [r2]; exact h2.1) (by rw [r2]; exact h2.2), bnd_s, r2, tmd (by omega)]
        refine ⟨S, ?_⟩
        by_cases d : 0 ≤ (x - 100) / 10 ∧ (x - 100) / 10 < R 2
        · rw [if_pos (decide_eq_true d)]
          by_cases e : x % 10 ≤ 3
          · rw [if_neg (fun h => by have := lc_gt.mp h; omega), if_pos ⟨d, by omega⟩]
          · rw [if_pos (lc_gt.mpr (by omega)), if_neg (fun h => by omega)]
        · rw [if_neg (by rw [decide_eq_true_eq]; exact d), if_neg (fun h => d h.1)]
      · rw [if_neg c3, if_neg (by rw [decide_eq_true_eq]; omega), within_ok, bnd_s]
        by_cases c4 : x < 1000
        · rw [if_pos c4]
          by_cases d : 200 ≤ x ∧ x ≤ 209
          · rw [if_pos (decide_eq_true d), if_pos (by omega)]; exact ⟨S, rfl⟩
          · rw [if_neg (by rw [decide_eq_true_eq]; exact d), within_ok, bnd_s, if_neg (by rw [decide_eq_true_eq]; omega), if_neg (by omega)]; exact ⟨S, rfl⟩
        · rw [if_neg c4, if_neg (by rw [decide_eq_true_eq]; omega), within_ok, bnd_s, if_pos (decide_eq_true (by omega)), w64_eq (x := x - 1000) (by omega) (by omega), tdv (x := x - 1000) (by omega), w64_eq (x := (x - 1000) / 1000) (by omega) (by omega), isGoer_ok (by rw [r3]; exact h3.1) (by rw [r3]; exact h3.2), bnd_s, r3]
          refine ⟨S, ?_⟩
          by_cases d : 0 ≤ (x - 1000) / 1000 ∧ (x - 1000) / 1000 < R 3
          · rw [if_pos (decide_eq_true d), tmd (by omega), tmd (by omega), tdv (by omega), w64_eq (x := x % 1000 / 100) (by omega) (by omega), isCorner_ok (by rw [r1]; omega) (by rw [r1]; exact h1.2), bnd_s, r1]
            by_cases e : 0 ≤ x % 1000 / 100 ∧ x % 1000 / 100 < R 1
            · rw [if_pos (decide_eq_true e), isYear_ok, bnd_s]
              by_cases f : 0 ≤ x % 100 ∧ x % 100 ≤ 19
              · rw [if_pos (decide_eq_true f), if_pos ⟨d, e, f⟩]
              · rw [if_neg (by rw [decide_eq_true_eq]; exact f), if_neg (fun h => f h.2.2)]
            · rw [if_neg (by rw [decide_eq_true_eq]; exact e), if_neg (fun h => e h.2.1)]
          · rw [if_neg (by rw [decide_eq_true_eq]; exact d), if_neg (fun h => d h.1)]
theorem isAt_ok {S : SS} {R v : Nat → Int} {g a : Int} (hr : S 131 = rowV R v) (h0 : 0 ≤ g) (h3 : g < 3) (a0 : 0 ≤ a) (a1 : a < 1000) : ∃ S', fX12_isAt g a S = some S' ∧ S' 131 = rowV R (setG v g (a / 20) (a % 20)) := by
  refine ⟨_, ?_, rowV_setG (S := S) h0 h3 hr⟩
  unfold fX12_isAt
  rw [w32_eq (x := 34 + g) (by omega) (by omega), w32_eq (x := 37 + g) (by omega) (by omega), tdiv20 a0, tmod20 a0, w32_eq (by omega) (by omega), wrA_ok (by omega) (by omega), wrA_ok (by omega) (by omega)]
theorem does_ok {S : SS} {R v : Nat → Int} {x : Int} (hr : S 131 = rowV R v) (hB : townB R) (hb : bdV v (R 1)) (hd : (didP R v x).1 = 0) : ∃ S', fX12_does x S = some S' ∧ S' 131 = rowV R (didP R v x).2 := by
  have B := row_B hr hB
  have b := row_bd hr hb
  have h1 := hB.1
  have h2 := hB.2.1
  have h3 := hB.2.2.1
  unfold didP at hd ⊢
  by_cases c1 : x < 0 ∨ 3999 < x
  · rw [if_pos c1] at hd; simp at hd
  rw [if_neg c1] at hd ⊢
  unfold fX12_does
  by_cases c2 : x < 100
  · rw [if_pos c2] at hd ⊢
    have gb := @goV_b R v hB (x / 10) (x % 10)
    by_cases c : goV R v (x / 10) (x % 10) < 0
    · rw [if_pos c] at hd; simp only at hd; omega
    rw [if_neg c]
    have ge : aftP (S 131) (x / 10) (x % 10) (spotP (S 131) (x / 10)) (S 131 (40 + x % 10).toNat) (S 131 48) = goV R v (x / 10) (x % 10) := by
      rw [← row_goP hr hB]
      have r2 : S 131 2 = R 2 := by rw [hr]; exact rowV_t 2 (by omega)
      have r3 : S 131 3 = R 3 := by rw [hr]; exact rowV_t 3 (by omega)
      unfold goP
      rw [if_pos (by rw [r2, r3]; omega)]
    have sp := spotP_b b (g := x / 10) (by omega) (by omega)
    have hb1 : S 131 1 = R 1 := by rw [hr]; exact rowV_t 1 (by omega)
    have r2 : S 131 2 = R 2 := by rw [hr]; exact rowV_t 2 (by omega)
    obtain ⟨S6, q6⟩ := goneTo_ok (S := S) (g := x / 10) (s := x % 10) (at1 := spotP (S 131) (x / 10)) (sg := S 131 (40 + x % 10).toNat) B (by omega) (by rw [r2]; omega) (by omega) b.2.2.2 (by rw [ge]; omega)
    rw [ge] at q6
    have f6 : S6 131 = S 131 := w_fX12_goneTo q6 (a := 131) (by omega)
    obtain ⟨S7, q7, q8⟩ := isAt_ok (S := S6) (a := goV R v (x / 10) (x % 10)) (g := x / 10) (f6.trans hr) (by omega) (by omega) (by omega) (by omega)
    rw [if_neg (by omega), tdv (by omega), tmd (by omega), w32_eq (x := x / 10) (by omega) (by omega), standOf_ok b B (by omega) (by omega), bnd_s, q6, bnd_s]
    simp only
    rw [q7, bnd_s]
    exact ⟨S7, rfl, q8⟩
  rw [if_neg c2] at hd ⊢
  rw [if_pos (by omega)]
  by_cases c3 : x < 200
  · rw [if_pos c3] at hd ⊢
    by_cases c : (0 ≤ (x - 100) / 10 ∧ (x - 100) / 10 < R 2) ∧ (0 ≤ x % 10 ∧ x % 10 ≤ 3)
    · rw [if_pos c, if_neg (by omega), w32_eq (x := x - 100) (by omega) (by omega), tdv (by omega), tmd (by omega), w32_eq (x := (x - 100) / 10) (by omega) (by omega), w32_eq (x := 40 + (x - 100) / 10) (by omega) (by omega), wrA_ok (by omega) (by omega)]
      exact ⟨_, rfl, rowV_setS c.1.1 (by omega) hr⟩
    · rw [if_neg c] at hd; simp at hd
  rw [if_neg c3] at hd ⊢
  rw [if_pos (by omega)]
  by_cases c4 : x < 1000
  · rw [if_pos c4] at hd ⊢
    by_cases c : 0 ≤ x - 200 ∧ x - 200 ≤ 9
    · rw [if_pos c, if_neg (by omega), w32_eq (x := x - 200) (by omega) (by omega), wrA_ok (by decide) (by decide)]
      exact ⟨_, rfl, rowV_setB hr⟩
    · rw [if_neg c] at hd; simp at hd
  rw [if_neg c4] at hd ⊢
  by_cases c : (0 ≤ (x - 1000) / 1000 ∧ (x - 1000) / 1000 < R 3) ∧ (0 ≤ x % 1000 / 100 ∧ x % 1000 / 100 < R 1) ∧ (0 ≤ x % 100 ∧ x % 100 ≤ 19)
  · rw [if_pos c, if_pos (by omega), w32_eq (x := x - 1000) (by omega) (by omega), tdv (x := x - 1000) (by omega), tmd (by omega), tmd (by omega), tdv (by omega), w32_eq (x := (x - 1000) / 1000) (by omega) (by omega), w32_eq (x := x % 1000 / 100) (by omega) (by omega), w32_eq (x := 20 * (x % 1000 / 100)) (by omega) (by omega), w32_eq (by omega) (by omega)]
    obtain ⟨S7, q7, q8⟩ := isAt_ok (S := S) (a := 20 * (x % 1000 / 100) + x % 100) (g := (x - 1000) / 1000) hr c.1.1 (by omega) (by omega) (by omega)
    have e1 : (20 * (x % 1000 / 100) + x % 100) / 20 = x % 1000 / 100 := by omega
    have e2 : (20 * (x % 1000 / 100) + x % 100) % 20 = x % 100 := by omega
    rw [e1, e2] at q8
    rw [q7, bnd_s]
    exact ⟨S7, rfl, q8⟩
  · rw [if_neg c] at hd; simp at hd
