/-! a going, by the class (with its lanes) and by the reference -/
theorem tdiv20 {x : Int} (h : 0 ≤ x) : x.tdiv 20 = x / 20 := Int.tdiv_eq_ediv_of_nonneg h
theorem tmod20 {x : Int} (h : 0 ≤ x) : x.tmod 20 = x % 20 := Int.tmod_eq_emod_of_nonneg h
theorem lanes_fr {S S' : SS} (h30 : S' 30 = S 30) (h33 : S' 33 = S 33) (h131 : S' 131 = S 131) (h : lanes S) : lanes S' := by
  unfold lanes; rw [h30, h33, h131]; exact h
theorem townR_fr {S S' : SS} {Q : Nat → Int} {t : Nat} (h0 : S' t = S t) (h1 : S' (t + 1) = S (t + 1)) (h2 : S' (t + 2) = S (t + 2)) (h3 : S' (t + 3) = S (t + 3)) (h4 : S' (t + 4) = S (t + 4)) (h : townR S t Q) : townR S' t Q := by
  unfold townR; rw [h0, h1, h2, h3, h4]; exact h
theorem yearP_b {Q : Nat → Int} {g s side year bol : Int} : -4 ≤ yearP Q g s side year bol ∧ yearP Q g s side year bol ≤ 19 := by
  unfold yearP
  split
  · omega
  split <;> omega
theorem setGoing_ok {S : SS} {p1 p2 p3 p4 p5 p6 : Int} : ∃ M, fX4_setGoing p1 p2 p3 p4 p5 p6 S = some M ∧ (M 31 1 = p2 ∧ M 31 2 = p3 ∧ M 31 3 = p5 ∧ M 31 4 = p4 ∧ M 31 5 = p6 ∧ M 31 6 = p1) ∧ ∀ a, a ≠ 31 → M a = S a := by
  refine ⟨_, rfl, ⟨by simp [up], by simp [up], by simp [up], by simp [up], by simp [up], by simp [up]⟩, fun a ha => ?_⟩
  rw [up_row ha, up_row ha, up_row ha, up_row ha, up_row ha, up_row ha]
theorem yaT_fr {s side year : Int} {M : SS} {rr : Int × SS} (h : yaT s side year M = some rr) {a : Nat} (ha : a ≠ 32) : rr.2 a = M a := by
  unfold yaT at h
  obtain ⟨q11, _, h⟩ := bnd_e h
  obtain ⟨q17, h1, h⟩ := bnd_e h
  obtain ⟨q20, _, h⟩ := bnd_e h
  obtain ⟨q21, _, h⟩ := bnd_e h
  cases h
  obtain ⟨_, h1⟩ | ⟨_, h1⟩ := ite_e h1
  · cases h1; rfl
  · obtain ⟨q18, h2, h1⟩ := bnd_e h1
    cases h1
    exact w_fX4_valueOf_900 h2 ha
theorem yaB_fr {s side year : Int} {M : SS} {rr : Int × SS} (h : yaB s side year M = some rr) {a : Nat} (ha : a ≠ 32) : rr.2 a = M a := by
  unfold yaB at h
  obtain ⟨_, h1⟩ | ⟨_, h1⟩ := ite_e h
  · exact yaT_fr h1 ha
  · obtain ⟨q23, h2, h1⟩ := bnd_e h1
    rw [← w_fX4_valueOf_900 h2 ha]
    obtain ⟨_, h1⟩ | ⟨_, h1⟩ := ite_e h1
    · cases h1; rfl
    · exact yaT_fr h1 ha
theorem yearAfter_ok {S : SS} {g s side year bol : Int} (hC : Core S) (hg : 0 ≤ g ∧ g < S 131 3) (hs : 0 ≤ s ∧ s < S 131 2) (ha : 0 ≤ side ∧ side ≤ 1) (hy : 0 ≤ year ∧ year ≤ 19) (hbo : 0 ≤ bol ∧ bol ≤ 9) :
    ∃ S', fX5_yearAfter g s side year bol S = some (yearP (S 131) g s side year bol, S') ∧ lanes S' := by
  obtain ⟨hR, hB, hL⟩ := hC
  have hS := hB.2.1
  have hG := hB.2.2.1
  have h5 : S 5 s.toNat = S 131 (26 + s).toNat := (st_r hR hs.1 hs.2).2.2
  have hyb := @yearP_b (S 131) g s side year bol
  have hx : 0 ≤ ((g * 8 + s) * 2 + side) * 20 + year ∧ ((g * 8 + s) * 2 + side) * 20 + year < 960 := by omega
  have ex : w32 ((w32 ((w32 ((w32 ((w32 ((w32 (g * 8)) + s)) * 2)) + side)) * 20)) + year) = ((g * 8 + s) * 2 + side) * 20 + year := by
    rw [w32_eq (x := g * 8) (by omega) (by omega), w32_eq (x := g * 8 + s) (by omega) (by omega), w32_eq (x := (g * 8 + s) * 2) (by omega) (by omega), w32_eq (x := (g * 8 + s) * 2 + side) (by omega) (by omega), w32_eq (x := ((g * 8 + s) * 2 + side) * 20) (by omega) (by omega), w32_eq (by omega) (by omega)]
  obtain ⟨M, m1, m2, m3⟩ := @setGoing_ok S g s (S 131 (26 + s).toNat) side year bol
  have hRM : townR M 2 (S 131) := townR_fr (m3 _ (by decide)) (m3 _ (by decide)) (m3 _ (by decide)) (m3 _ (by decide)) (m3 _ (by decide)) hR
  obtain ⟨S3, y1⟩ := yaB_ok (M := M) hRM hB (show 0 ≤ g ∧ g < 3 by omega) hs hy ha hbo m2
  have fr : ∀ a, a ≠ 31 → a ≠ 32 → S3 a = S a := fun a h1 h2 => (yaB_fr y1 h2).trans (m3 a h1)
  unfold fX5_yearAfter
  rw [lt_ok, ex]
  by_cases c : bol = S 30 3
  · rw [if_pos c, if_neg (by omega), if_neg (by omega), bnd_s, if_neg (by decide), rdA_ok hx.1 hx.2]
    obtain hl | ⟨hl1, hl2⟩ := hL
    · omega
    obtain hz | hz := hl2 g s side year hg.1 hg.2 hs.1 hs.2 ha.1 ha.2 hy.1 hy.2
    · unfold yaB at y1
      rw [if_pos hz, rdA_ok hs.1 (by omega), h5, m1, bnd_s, lt_ok, y1, bnd_s, if_neg (by decide)]
      simp only
      rw [wrA_ok hx.1 hx.2, bnd_s]
      refine ⟨_, rfl, ?_⟩
      refine Or.inr ⟨?_, ?_⟩
      · rw [up_ne (by decide), fr 30 (by decide) (by decide)]; exact hl1
      · rw [up_row (a := 131) (by decide), up_row (a := 30) (by decide), fr 131 (by decide) (by decide), fr 30 (by decide) (by decide)]
        intro g' s' side' year' k1 k2 k3 k4 k5 k6 k7 k8
        unfold up
        by_cases cc : (((g' * 8 + s') * 2 + side') * 20 + year').toNat = (((g * 8 + s) * 2 + side) * 20 + year).toNat
        · have q1 : g' = g := by omega
          have q2 : s' = s := by omega
          have q3 : side' = side := by omega
          have q4 : year' = year := by omega
          subst q1 q2 q3 q4
          rw [if_pos ⟨rfl, rfl⟩, w32_eq (by omega) (by omega), ← c]
          exact Or.inr rfl
        · rw [if_neg (fun x => cc x.2), fr 33 (by decide) (by decide)]
          exact hl2 g' s' side' year' k1 k2 k3 k4 k5 k6 k7 k8
    · rw [← c] at hz
      rw [if_neg (by rw [hz]; omega), rdA_ok hx.1 hx.2, hz, w32_eq (by omega) (by omega), Int.add_sub_cancel]
      refine ⟨_, rfl, ?_⟩
      exact Or.inr ⟨hl1, hl2⟩
  · rw [if_neg c, bnd_s, if_pos rfl, rdA_ok hs.1 (by omega), h5, m1, bnd_s, lt_ok]
    unfold yaB at y1
    rw [y1, bnd_s, if_pos rfl, bnd_s]
    exact ⟨_, rfl, lanes_fr (fr 30 (by decide) (by decide)) (fr 33 (by decide) (by decide)) (fr 131 (by decide) (by decide)) hL⟩
theorem spotSign {S : SS} {p : Nat} {s : Int} (h0 : 0 ≤ s) (h1 : s < 8) : fX6_signOf p s S = some (S (p + 1) s.toNat) := by
  unfold fX6_signOf
  rw [if_neg (by omega), if_neg (by omega), rdA_ok h0 (by omega)]
theorem sideOf_ok {S : SS} {s c sg : Int} (hR : townR S 2 (S 131)) (hS : S 131 2 ≤ 8) (hs : 0 ≤ s ∧ s < S 131 2) : fX5_sideOf s c sg S = some (sideP (S 131) s c sg) := by
  obtain ⟨r1, r2, _⟩ := st_r hR hs.1 hs.2
  have r1' : S 3 s.toNat = S 131 (10 + s).toNat := r1
  have r2' : S 4 s.toNat = S 131 (18 + s).toNat := r2
  unfold fX5_sideOf sideP
  rw [rdA_ok hs.1 (by omega), r1', rdA_ok hs.1 (by omega), r2']
  by_cases c1 : c = S 131 (10 + s).toNat
  · rw [if_pos c1, if_pos c1]
    by_cases c2 : sg = 0
    · rw [if_pos c2, if_pos (Or.inl c2)]
    · by_cases c3 : sg = 2
      · rw [if_neg c2, if_pos c3, if_pos (Or.inr c3)]
      · rw [if_neg c2, if_neg c3, if_neg (by omega)]
  · rw [if_neg c1, if_neg c1]
    by_cases c0 : c = S 131 (18 + s).toNat
    · rw [if_pos c0, if_pos c0]
      by_cases c2 : sg = 1
      · rw [if_pos c2, if_pos (Or.inl c2)]
      · by_cases c3 : sg = 2
        · rw [if_neg c2, if_pos c3, if_pos (Or.inr c3)]
        · rw [if_neg c2, if_neg c3, if_neg (by omega)]
    · rw [if_neg c0, if_neg c0]
theorem sideP_v {Q : Nat → Int} {s c sg : Int} : sideP Q s c sg = -1 ∨ sideP Q s c sg = 0 ∨ sideP Q s c sg = 1 := by
  unfold sideP
  split
  · split <;> simp
  split
  · split <;> simp
  · simp
theorem after_ok {S : SS} {g s spot sg bol : Int} {p : Nat} (hC : Core S) (hg : 0 ≤ g ∧ g < S 131 3) (hs : 0 ≤ s ∧ s < S 131 2) (hsp : 0 ≤ spot ∧ spot < 120) (hsg : S (p + 1) s.toNat = sg) (hbe : S p 3 = bol) (hbo : 0 ≤ bol ∧ bol ≤ 9) :
    ∃ S', fX5_after g s spot p S = some (aftP (S 131) g s spot sg bol, S') ∧ lanes S' := by
  obtain ⟨hR, hB, hL⟩ := id hC
  have hS := hB.2.1
  have hG := hB.2.2.1
  have e1 : fX8_hasGoer 2 g S = some true := by
    rw [hasGoer_ok (by rw [hR.1.2.2.1]; omega), hR.1.2.2.1, decide_eq_true hg]
  have e2 : fX8_hasStreet 2 s S = some true := by
    rw [hasStreet_ok (by rw [hR.1.2.1]; omega), hR.1.2.1, decide_eq_true hs]
  have d1 : w32 (Int.tdiv spot 20) = spot / 20 := by rw [tdiv20 hsp.1, w32_eq (by omega) (by omega)]
  unfold fX5_after aftP
  rw [e1, bnd_s, if_pos rfl, e2, bnd_s, if_pos rfl, spot_y hsp.1 hsp.2, bnd_s, if_pos rfl, spotSign hs.1 (by omega), bnd_s, hsg, d1, sideOf_ok hR hS.2 hs, bnd_s, tmod20 hsp.1, hbe]
  have hv := @sideP_v (S 131) s (spot / 20) sg
  generalize sideP (S 131) s (spot / 20) sg = side at hv
  by_cases c1 : side = -1
  · rw [if_pos c1, if_pos c1]; exact ⟨_, rfl, hL⟩
  rw [if_neg c1, if_neg c1]
  obtain ⟨S', y1, y2⟩ := yearAfter_ok (side := side) (year := spot % 20) (bol := bol) hC hg hs (by omega) (by omega) hbo
  have hyb := @yearP_b (S 131) g s side (spot % 20) bol
  have r1 := w_fX5_yearAfter y1 (a := 3) (by decide)
  have r2 := w_fX5_yearAfter y1 (a := 4) (by decide)
  simp only at r1 r2
  rw [y1, bnd_s]
  simp only
  by_cases c2 : yearP (S 131) g s side (spot % 20) bol < 0
  · rw [if_neg (by omega), if_pos c2]; exact ⟨_, rfl, y2⟩
  rw [if_pos (by omega), if_neg c2]
  obtain ⟨b1, b2, _⟩ := st_b hB hs.1 hs.2
  obtain ⟨t1, t2, _⟩ := st_r hR hs.1 hs.2
  have t1' : S' 3 s.toNat = S 131 (10 + s).toNat := by rw [r1]; exact t1
  have t2' : S' 4 s.toNat = S 131 (18 + s).toNat := by rw [r2]; exact t2
  have e3 : (if side = 0 then (rdA S' 4 8 s fun v7 => some v7) else (rdA S' 3 8 s fun v9 => some v9) : Option Int) = some (if side = 0 then S 131 (18 + s).toNat else S 131 (10 + s).toNat) := by
    split
    · rw [rdA_ok hs.1 (by omega), t2']
    · rw [rdA_ok hs.1 (by omega), t1']
  have hc : 0 ≤ (if side = 0 then S 131 (18 + s).toNat else S 131 (10 + s).toNat) ∧ (if side = 0 then S 131 (18 + s).toNat else S 131 (10 + s).toNat) < 6 := by
    have := hB.1
    split <;> omega
  rw [e3, bnd_s]
  generalize (if side = 0 then S 131 (18 + s).toNat else S 131 (10 + s).toNat) = cc at hc
  rw [w32_eq (x := cc * 20) (by omega) (by omega), w32_eq (by omega) (by omega)]
  exact ⟨_, rfl, y2⟩
theorem after_no {S : SS} {g s spot : Int} {p : Nat} (hR : townR S 2 (S 131)) (hB : townB (S 131)) (h : ¬ (0 ≤ g ∧ g < S 131 3) ∨ ¬ (0 ≤ s ∧ s < S 131 2)) : fX5_after g s spot p S = some (-1, S) := by
  have hS := hB.2.1
  have hG := hB.2.2.1
  unfold fX5_after
  rw [hasGoer_ok (by rw [hR.1.2.2.1]; omega), hR.1.2.2.1, bnd_s]
  by_cases c : 0 ≤ g ∧ g < S 131 3
  · rw [if_pos (decide_eq_true c), hasStreet_ok (by rw [hR.1.2.1]; omega), hR.1.2.1, bnd_s, if_neg (by rw [decide_eq_true_eq]; omega)]
  · rw [if_neg (by rw [decide_eq_true_eq]; exact c)]
theorem aftP_b {Q : Nat → Int} {g s spot sg bol : Int} (hB : townB Q) (hs : 0 ≤ s ∧ s < Q 2) : (-4 ≤ aftP Q g s spot sg bol ∧ aftP Q g s spot sg bol ≤ -2) ∨ (0 ≤ aftP Q g s spot sg bol ∧ aftP Q g s spot sg bol < 20 * Q 1) := by
  obtain ⟨b1, b2, _⟩ := st_b hB hs.1 hs.2
  unfold aftP
  generalize hsd : sideP Q s (spot / 20) sg = side
  have hyb := @yearP_b Q g s side (spot % 20) bol
  split
  · omega
  split
  · rename_i c
    have : yearP Q g s side (spot % 20) bol ≠ -1 := by
      unfold yearP
      split
      · omega
      split <;> omega
    left
    refine ⟨by omega, ?_⟩
    unfold yearP at *
    split
    · omega
    · split <;> omega
  · right
    split <;> omega
theorem yearBy_ok {S : SS} {g s year ag : Int} (hB : townB (S 131)) (hg : 0 ≤ g ∧ g < 3) (hs : 0 ≤ s ∧ s < S 131 2) (hy : 0 ≤ year ∧ year ≤ 19) (ha : 0 ≤ ag ∧ ag ≤ 1) (hbo : 0 ≤ S 131 48 ∧ S 131 48 ≤ 9) :
    ∃ S', fX12_yearBy g s year ag S = some (year + shP (S 131) g s ag year (S 131 48), S') := by
  have hS := hB.2.1
  have hsp := (st_b hB hs.1 hs.2).2.2.2
  unfold fX12_yearBy shP
  rw [rdA_ok (by decide) (by decide)]
  show ∃ S', Option.bind (if S 131 4 = 1 then _ else _) _ = _
  by_cases c : S 131 4 = 1
  · obtain ⟨S', e⟩ := reckons_ok (l := 0) (li := 0) rfl (by omega) hB c hg hs hy ha hbo
    have hb := lawP_b hB c hg hs hy ha hbo
    rw [if_pos c, if_pos c, e, bnd_s, bnd_s]
    simp only
    rw [w32_eq (by omega) (by omega)]
    exact ⟨_, rfl⟩
  · rw [if_neg c, if_neg c]
    by_cases c2 : ag = 1
    · rw [if_pos c2, if_pos c2, w32_eq (x := 26 + s) (by omega) (by omega), rdA_ok (by omega) (by omega), bnd_s]
      simp only
      rw [w32_eq (x := - S 131 (26 + s).toNat) (by omega) (by omega), w32_eq (by omega) (by omega)]
      exact ⟨_, rfl⟩
    · rw [if_neg c2, if_neg c2, w32_eq (x := 26 + s) (by omega) (by omega), rdA_ok (by omega) (by omega), bnd_s]
      simp only
      rw [w32_eq (by omega) (by omega)]
      exact ⟨_, rfl⟩
theorem whyBy_ok {S : SS} {g s at1 sg : Int} (hB : townB (S 131)) (hg : 0 ≤ g ∧ g < 3) (hs : 0 ≤ s ∧ s < S 131 2) (hsp : 0 ≤ at1 ∧ at1 < 120) (hbo : 0 ≤ S 131 48 ∧ S 131 48 ≤ 9) :
    ∃ S', fX12_whyBy g at1 s sg S = some (if aftP (S 131) g s at1 sg (S 131 48) < 0 then - aftP (S 131) g s at1 sg (S 131 48) else 0, S') := by
  obtain ⟨b1, b2, b3, b4⟩ := st_b hB hs.1 hs.2
  have hS := hB.2.1
  have d1 : w32 (Int.tdiv at1 20) = at1 / 20 := by rw [tdiv20 hsp.1, w32_eq (by omega) (by omega)]
  have tail : ∀ ag, 0 ≤ ag ∧ ag ≤ 1 → ag = sideP (S 131) s (at1 / 20) sg → ∃ S', (rdA S 131 3303 5 fun v9 =>
      if v9 = 1 then (
        Option.bind (fX12_reckons 1 g s (at1 % 20) ag S) fun q11 =>
        if q11.1 = 0 then (
          some (3, q11.2)
        ) else (
          Option.bind (fX12_yearBy g s (at1 % 20) ag q11.2) fun q12 =>
          Option.bind (fX12_isYear q12.1) fun q13 =>
          if q13 = true then (
            some (0, q12.2)
          ) else (
            some (4, q12.2)
          )
        )
      ) else (
        Option.bind (fX12_yearBy g s (at1 % 20) ag S) fun q16 =>
        Option.bind (fX12_isYear q16.1) fun q17 =>
        if q17 = true then (
          some (0, q16.2)
        ) else (
          some (4, q16.2)
        )
      )) = some (if aftP (S 131) g s at1 sg (S 131 48) < 0 then - aftP (S 131) g s at1 sg (S 131 48) else 0, S') := by
    intro ag ha hag
    rw [rdA_ok (by decide) (by decide)]
    show ∃ S', (if S 131 5 = 1 then _ else _) = _
    have fin : ∀ M : SS, M 131 = S 131 → ¬ (S 131 5 = 1 ∧ lawP (S 131) 1 g s (at1 % 20) ag (S 131 48) = 0) → ∃ S', (Option.bind (fX12_yearBy g s (at1 % 20) ag M) fun q16 =>
        Option.bind (fX12_isYear q16.1) fun q17 => if q17 = true then some (0, q16.2) else some (4, q16.2)) = some (if aftP (S 131) g s at1 sg (S 131 48) < 0 then - aftP (S 131) g s at1 sg (S 131 48) else 0, S') := by
      intro M hM hno
      obtain ⟨S', e⟩ := yearBy_ok (S := M) (g := g) (s := s) (year := at1 % 20) (ag := ag) (by rw [hM]; exact hB) hg (by rw [hM]; exact hs) (by omega) ha (by rw [hM]; exact hbo)
      rw [hM] at e
      rw [e, bnd_s]
      simp only
      rw [isYear_ok, bnd_s]
      have ea : aftP (S 131) g s at1 sg (S 131 48) = if 0 ≤ at1 % 20 + shP (S 131) g s ag (at1 % 20) (S 131 48) ∧ at1 % 20 + shP (S 131) g s ag (at1 % 20) (S 131 48) ≤ 19 then (if ag = 0 then S 131 (18 + s).toNat else S 131 (10 + s).toNat) * 20 + (at1 % 20 + shP (S 131) g s ag (at1 % 20) (S 131 48)) else -4 := by
        unfold aftP
        rw [← hag, if_neg (by omega)]
        unfold yearP
        rw [if_neg hno]
        by_cases c : 0 ≤ at1 % 20 + shP (S 131) g s ag (at1 % 20) (S 131 48) ∧ at1 % 20 + shP (S 131) g s ag (at1 % 20) (S 131 48) ≤ 19
        · rw [if_pos c, if_pos c, if_neg (by omega)]
        · rw [if_neg c, if_neg c, if_pos (by decide)]
      rw [ea]
      by_cases c : 0 ≤ at1 % 20 + shP (S 131) g s ag (at1 % 20) (S 131 48) ∧ at1 % 20 + shP (S 131) g s ag (at1 % 20) (S 131 48) ≤ 19
      · rw [decide_eq_true c, if_pos rfl, if_pos c, if_neg (by split <;> omega)]
        exact ⟨_, rfl⟩
      · rw [decide_eq_false c, if_neg (by decide), if_neg c, if_pos (by decide)]
        exact ⟨_, rfl⟩
    by_cases c : S 131 5 = 1
    · obtain ⟨S', e⟩ := reckons_ok (l := 1) (li := 1) rfl (by omega) hB c hg hs (show 0 ≤ at1 % 20 ∧ at1 % 20 ≤ 19 by omega) ha hbo
      rw [if_pos c, e, bnd_s]
      simp only
      by_cases c2 : lawP (S 131) 1 g s (at1 % 20) ag (S 131 48) = 0
      · rw [if_pos c2]
        have ea : aftP (S 131) g s at1 sg (S 131 48) = -3 := by
          unfold aftP
          rw [← hag, if_neg (by omega)]
          unfold yearP
          have hc : S 131 5 = 1 ∧ lawP (S 131) 1 g s (at1 % 20) ag (S 131 48) = 0 := ⟨c, c2⟩
          rw [if_pos hc, if_pos (by decide)]
        rw [ea]
        exact ⟨_, rfl⟩
      · rw [if_neg c2]
        exact fin S' (w_fX12_reckons e (by decide)) (fun h => c2 h.2)
    · rw [if_neg c]
      exact fin S rfl (fun h => c h.1)
  have none2 : sideP (S 131) s (at1 / 20) sg = -1 → ∃ S', some ((2 : Int), S) = some (if aftP (S 131) g s at1 sg (S 131 48) < 0 then - aftP (S 131) g s at1 sg (S 131 48) else 0, S') := by
    intro h
    have ea : aftP (S 131) g s at1 sg (S 131 48) = -2 := by unfold aftP; rw [if_pos h]
    rw [ea]
    exact ⟨_, rfl⟩
  unfold fX12_whyBy
  rw [lt_ok, d1, tmod20 hsp.1, w32_eq (x := 10 + s) (by omega) (by omega), w32_eq (x := 18 + s) (by omega) (by omega), rdA_ok (by omega) (by omega)]
  by_cases c1 : at1 / 20 = S 131 (10 + s).toNat
  · rw [if_pos c1, rdA_ok (by omega) (by omega), if_neg (by omega), bnd_s]
    unfold fX12_lets
    by_cases c2 : sg = 2
    · rw [if_pos c2, bnd_s, if_pos rfl]
      exact tail 0 (by decide) (by unfold sideP; rw [if_pos c1, if_pos (Or.inr c2)])
    · rw [if_neg c2]
      by_cases c3 : sg = 0
      · rw [if_pos c3, bnd_s, if_pos rfl]
        exact tail 0 (by decide) (by unfold sideP; rw [if_pos c1, if_pos (Or.inl c3)])
      · rw [if_neg c3, bnd_s, if_neg (by decide)]
        exact none2 (by unfold sideP; rw [if_pos c1, if_neg (by omega)])
  · rw [if_neg c1, rdA_ok (by omega) (by omega)]
    by_cases c0 : at1 / 20 = S 131 (18 + s).toNat
    · rw [if_pos c0, rdA_ok (by omega) (by omega), if_pos c0, bnd_s]
      unfold fX12_lets
      by_cases c2 : sg = 2
      · rw [if_pos c2, bnd_s, if_pos rfl]
        exact tail 1 (by decide) (by unfold sideP; rw [if_neg c1, if_pos c0, if_pos (Or.inr c2)])
      · rw [if_neg c2]
        by_cases c3 : sg = 1
        · rw [if_pos c3, bnd_s, if_pos rfl]
          exact tail 1 (by decide) (by unfold sideP; rw [if_neg c1, if_pos c0, if_pos (Or.inl c3)])
        · rw [if_neg c3, bnd_s, if_neg (by decide)]
          exact none2 (by unfold sideP; rw [if_neg c1, if_pos c0, if_neg (by omega)])
    · rw [if_neg c0]
      exact none2 (by unfold sideP; rw [if_neg c1, if_neg c0])
theorem goneTo_ok {S : SS} {g s at1 sg : Int} (hB : townB (S 131)) (hg : 0 ≤ g ∧ g < 3) (hs : 0 ≤ s ∧ s < S 131 2) (hsp : 0 ≤ at1 ∧ at1 < 120) (hbo : 0 ≤ S 131 48 ∧ S 131 48 ≤ 9) (h : 0 ≤ aftP (S 131) g s at1 sg (S 131 48)) :
    ∃ S', fX12_goneTo g at1 s S = some (aftP (S 131) g s at1 sg (S 131 48), S') := by
  obtain ⟨b1, b2, b3, b4⟩ := st_b hB hs.1 hs.2
  have hS := hB.2.1
  have hC := hB.1
  have d1 : w32 (Int.tdiv at1 20) = at1 / 20 := by rw [tdiv20 hsp.1, w32_eq (by omega) (by omega)]
  have sv := @sideP_v (S 131) s (at1 / 20) sg
  have hsd : sideP (S 131) s (at1 / 20) sg ≠ -1 := by
    intro e
    unfold aftP at h
    rw [if_pos e] at h
    omega
  have hq : (if at1 / 20 = S 131 (18 + s).toNat then some 1 else some 0 : Option Int) = some (sideP (S 131) s (at1 / 20) sg) := by
    unfold sideP at hsd ⊢
    by_cases c1 : at1 / 20 = S 131 (10 + s).toNat
    · rw [if_pos c1] at hsd ⊢
      rw [if_neg (by omega)]
      by_cases c2 : sg = 0 ∨ sg = 2
      · rw [if_pos c2]
      · rw [if_neg c2] at hsd; omega
    · rw [if_neg c1] at hsd ⊢
      by_cases c3 : at1 / 20 = S 131 (18 + s).toNat
      · rw [if_pos c3] at hsd ⊢
        rw [if_pos c3]
        by_cases c2 : sg = 1 ∨ sg = 2
        · rw [if_pos c2]
        · rw [if_neg c2] at hsd; omega
      · rw [if_neg c3] at hsd; omega
  have ea : aftP (S 131) g s at1 sg (S 131 48) = (if sideP (S 131) s (at1 / 20) sg = 0 then S 131 (18 + s).toNat else S 131 (10 + s).toNat) * 20 + (at1 % 20 + shP (S 131) g s (sideP (S 131) s (at1 / 20) sg) (at1 % 20) (S 131 48)) ∧ 0 ≤ at1 % 20 + shP (S 131) g s (sideP (S 131) s (at1 / 20) sg) (at1 % 20) (S 131 48) ∧ at1 % 20 + shP (S 131) g s (sideP (S 131) s (at1 / 20) sg) (at1 % 20) (S 131 48) ≤ 19 := by
    unfold aftP at h ⊢
    rw [if_neg hsd] at h ⊢
    generalize sideP (S 131) s (at1 / 20) sg = side at *
    by_cases c : yearP (S 131) g s side (at1 % 20) (S 131 48) < 0
    · rw [if_pos c] at h; omega
    · rw [if_neg c]
      unfold yearP at c ⊢
      by_cases c1 : S 131 5 = 1 ∧ lawP (S 131) 1 g s (at1 % 20) side (S 131 48) = 0
      · rw [if_pos c1] at c; omega
      · rw [if_neg c1] at c ⊢
        by_cases c2 : 0 ≤ at1 % 20 + shP (S 131) g s side (at1 % 20) (S 131 48) ∧ at1 % 20 + shP (S 131) g s side (at1 % 20) (S 131 48) ≤ 19
        · rw [if_pos c2]; exact ⟨rfl, c2⟩
        · rw [if_neg c2] at c; omega
  unfold fX12_goneTo
  rw [d1, tmod20 hsp.1, w32_eq (x := 10 + s) (by omega) (by omega), w32_eq (x := 18 + s) (by omega) (by omega), rdA_ok (by omega) (by omega), hq, bnd_s]
  rw [ea.1]
  generalize sideP (S 131) s (at1 / 20) sg = side at *
  obtain ⟨S', e⟩ := yearBy_ok (S := S) (g := g) (s := s) (year := at1 % 20) (ag := side) hB hg hs (by omega) (by omega) hbo
  have e3 : (if side = 1 then (rdA S 131 3303 (10 + s) fun v6 => some v6) else (rdA S 131 3303 (18 + s) fun v8 => some v8) : Option Int) = some (if side = 0 then S 131 (18 + s).toNat else S 131 (10 + s).toNat) := by
    by_cases c : side = 0
    · rw [if_neg (by omega), if_pos c, rdA_ok (by omega) (by omega)]
    · rw [if_pos (by omega), if_neg c, rdA_ok (by omega) (by omega)]
  have hc : 0 ≤ (if side = 0 then S 131 (18 + s).toNat else S 131 (10 + s).toNat) ∧ (if side = 0 then S 131 (18 + s).toNat else S 131 (10 + s).toNat) < 6 := by
    split <;> omega
  rw [e3, bnd_s, e, bnd_s]
  simp only
  refine ⟨S', ?_⟩
  generalize (if side = 0 then S 131 (18 + s).toNat else S 131 (10 + s).toNat) = cc at hc
  have := ea.2
  rw [w32_eq (x := 20 * cc) (by omega) (by omega), w32_eq (by omega) (by omega), Int.mul_comm 20 cc]
