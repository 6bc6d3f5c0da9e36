/-! a going: both programs, and the pure answer -/
theorem st_b {Q : Nat → Int} (h : townB Q) {s : Int} (h0 : 0 ≤ s) (h1 : s < Q 2) : (0 ≤ Q (10 + s).toNat ∧ Q (10 + s).toNat < Q 1) ∧ (0 ≤ Q (18 + s).toNat ∧ Q (18 + s).toNat < Q 1) ∧ Q (10 + s).toNat ≠ Q (18 + s).toNat ∧ (-9 ≤ Q (26 + s).toNat ∧ Q (26 + s).toNat ≤ 9) := by
  have e1 : (10 + s).toNat = 10 + s.toNat := by omega
  have e2 : (18 + s).toNat = 18 + s.toNat := by omega
  have e3 : (26 + s).toNat = 26 + s.toNat := by omega
  rw [e1, e2, e3]
  exact h.2.2.2.2.2.1 s.toNat (by omega)
theorem st_r {S : SS} {t : Nat} {Q : Nat → Int} (h : townR S t Q) {s : Int} (h0 : 0 ≤ s) (h1 : s < Q 2) : S (t + 1) s.toNat = Q (10 + s).toNat ∧ S (t + 2) s.toNat = Q (18 + s).toNat ∧ S (t + 3) s.toNat = Q (26 + s).toNat := by
  have e1 : (10 + s).toNat = 10 + s.toNat := by omega
  have e2 : (18 + s).toNat = 18 + s.toNat := by omega
  have e3 : (26 + s).toNat = 26 + s.toNat := by omega
  rw [e1, e2, e3]
  exact h.2.1 s.toNat (by omega)
theorem law_of {Q : Nat → Int} {l : Nat} (hB : townB Q) (hl : l ≤ 1) (ht : Q (4 + l) = 1) : 0 ≤ Q (6 + l) ∧ 1 ≤ Q (8 + l) ∧ Q (6 + l) + Q (8 + l) ≤ Q 200 ∧ ∃ ty, tyR (codeP Q l) (Q (8 + l)).toNat = some (1, ty) ∧ (l = 0 → ty 0 = false) := by
  obtain rfl | rfl : l = 0 ∨ l = 1 := by omega
  · obtain h | ⟨_, a, b, c, ty, d, e⟩ := hB.2.2.2.2.2.2.1
    · rw [h] at ht; cases ht
    · exact ⟨a, b, c, ty, d, fun _ => e⟩
  · obtain h | ⟨_, a, b, c, ty, d, e⟩ := hB.2.2.2.2.2.2.2
    · rw [h] at ht; cases ht
    · exact ⟨a, b, c, ty, d, fun h => by cases h⟩
theorem wd_b {Q : Nat → Int} {g s year ag bol : Int} (hg : 0 ≤ g ∧ g < 3) (hs : 0 ≤ s ∧ s < 8) (hq : -9 ≤ Q (26 + s).toNat ∧ Q (26 + s).toNat ≤ 9) (hy : 0 ≤ year ∧ year ≤ 19) (ha : 0 ≤ ag ∧ ag ≤ 1) (hb : 0 ≤ bol ∧ bol ≤ 9) : ∀ j, j < 6 → -1000000 ≤ wdP Q g s year ag bol j ∧ wdP Q g s year ag bol j ≤ 1000000 := by
  intro j _
  unfold wdP
  split
  · omega
  split
  · omega
  split
  · omega
  split
  · omega
  split <;> omega
theorem lawP_b {Q : Nat → Int} {g s year ag bol : Int} (hB : townB Q) (ht : Q 4 = 1) (hg : 0 ≤ g ∧ g < 3) (hs : 0 ≤ s ∧ s < Q 2) (hy : 0 ≤ year ∧ year ≤ 19) (ha : 0 ≤ ag ∧ ag ≤ 1) (hb : 0 ≤ bol ∧ bol ≤ 9) : -1000000 ≤ lawP Q 0 g s year ag bol ∧ lawP Q 0 g s year ag bol ≤ 1000000 := by
  obtain ⟨_, _, _, ty, h1, h2⟩ := law_of (l := 0) hB (by omega) ht
  have hS := hB.2.1
  obtain ⟨a, b⟩ := ev_ok (wd_b hg (show 0 ≤ s ∧ s < 8 by omega) (st_b hB hs.1 hs.2).2.2.2 hy ha hb) _ _ h1
  have := b 0 Nat.one_pos
  simp only at this
  rw [h2 rfl] at this
  exact this.2 rfl
theorem reckons_ok {S : SS} {l : Nat} {li g s year ag : Int} (eli : li = (l : Int)) (hl : l ≤ 1) (hB : townB (S 131)) (ht : S 131 (4 + l) = 1) (hg : 0 ≤ g ∧ g < 3) (hs : 0 ≤ s ∧ s < S 131 2) (hy : 0 ≤ year ∧ year ≤ 19) (ha : 0 ≤ ag ∧ ag ≤ 1) (hbo : 0 ≤ S 131 48 ∧ S 131 48 ≤ 9) :
    ∃ S', fX12_reckons li g s year ag S = some (lawP (S 131) l g s year ag (S 131 48), S') := by
  obtain ⟨a1, a2, a3, ty, a4, _⟩ := law_of hB hl ht
  have hS := hB.2.1
  have hN := hB.2.2.2.2.1
  have hw := wd_b (Q := S 131) hg (show 0 ≤ s ∧ s < 8 by omega) (st_b hB hs.1 hs.2).2.2.2 hy ha hbo
  subst eli
  unfold fX12_reckons
  rw [wrA_ok (by decide) (by decide), w32_eq (x := 26 + s) (by omega) (by omega), rdA_ok (by omega) (by omega), wrA_ok (by decide) (by decide), wrA_ok (by decide) (by decide), wrA_ok (by decide) (by decide), rdA_ok (by decide) (by decide), wrA_ok (by decide) (by decide), wrA_ok (by decide) (by decide)]
  generalize hM : (up (up (up (up (up (up S 136 (0 : Int).toNat s) 136 (1 : Int).toNat (up S 136 (0 : Int).toNat s 131 (26 + s).toNat)) 136 (2 : Int).toNat year) 136 (3 : Int).toNat ag) 136 (4 : Int).toNat (up (up (up (up S 136 (0 : Int).toNat s) 136 (1 : Int).toNat (up S 136 (0 : Int).toNat s 131 (26 + s).toNat)) 136 (2 : Int).toNat year) 136 (3 : Int).toNat ag 131 (48 : Int).toNat)) 136 (5 : Int).toNat g) = M
  have m131 : M 131 = S 131 := by
    rw [← hM, up_row (by decide), up_row (by decide), up_row (by decide), up_row (by decide), up_row (by decide), up_row (by decide)]
  have m136 : ∀ j, j < 6 → M 136 j = wdP (S 131) g s year ag (S 131 48) j := by
    intro j hj
    rw [← hM]
    obtain rfl | rfl | rfl | rfl | rfl | rfl : j = 0 ∨ j = 1 ∨ j = 2 ∨ j = 3 ∨ j = 4 ∨ j = 5 := by omega
    all_goals simp [up, wdP]
  obtain ⟨S', e1, e2⟩ := rk_loop (R := S 131) (n := FU) (k := 0) (S := M) hl a1 a2 (by omega) a4 hw (S 131 (8 + l)).toNat rfl (by unfold FU; omega) m131 m136 (fun i hi => absurd hi (Nat.not_lt_zero i))
  have e1' : fX12_reckons_L64 (l : Int) FU 0 0 M = some S' := e1
  rw [e1', bnd_s, rdA_ok (by decide) (by decide)]
  refine ⟨S', ?_⟩
  have e2' : S' 135 (0 : Int).toNat = lawP (S 131) l g s year ag (S 131 48) := e2
  rw [e2']
theorem valueOf_ok {S : SS} {l : Nat} {g s year ag bol : Int} {Q : Nat → Int} (hl : l ≤ 1) (hB : townB Q) (hK : ∀ k : Nat, (k : Int) < Q 200 → codeRel (S 6 k) (Q (201 + k))) (ht : Q (4 + l) = 1) (hg : 0 ≤ g ∧ g < 3) (hs : 0 ≤ s ∧ s < Q 2) (hy : 0 ≤ year ∧ year ≤ 19) (ha : 0 ≤ ag ∧ ag ≤ 1) (hbo : 0 ≤ bol ∧ bol ≤ 9)
    (hw : S 31 1 = s ∧ S 31 2 = Q (26 + s).toNat ∧ S 31 3 = year ∧ S 31 4 = ag ∧ S 31 5 = bol ∧ S 31 6 = g) :
    ∃ S', fX4_valueOf_900 6 (Q (6 + l)) (Q (6 + l) + Q (8 + l)) S = some (lawP Q l g s year ag bol, S') := by
  obtain ⟨a1, a2, a3, ty, a4, _⟩ := law_of hB hl ht
  have hS := hB.2.1
  have hN := hB.2.2.2.2.1
  have hwb := wd_b (Q := Q) hg (show 0 ≤ s ∧ s < 8 by omega) (st_b hB hs.1 hs.2).2.2.2 hy ha hbo
  obtain ⟨S', e1, e2⟩ := vo_loop (R := Q) (n := FU) (k := 0) (S := S) (wd := wdP Q g s year ag bol) a1 a2 a3 hN.2 a4 hwb hK (Q (8 + l)).toNat rfl (by unfold FU; omega) rfl hw (fun i hi => absurd hi (Nat.not_lt_zero i))
  have e0 : Q (6 + l) + ((0 : Nat) : Int) = Q (6 + l) := by omega
  rw [e0] at e1
  have e1' : fX4_valueOf_900_L6 6 (Q (6 + l) + Q (8 + l)) FU 0 (Q (6 + l)) S = some (1, S') := e1
  unfold fX4_valueOf_900
  rw [e1', bnd_s]
  simp only
  rw [if_neg (by decide), rdA_ok (by decide) (by decide)]
  refine ⟨S', ?_⟩
  have e2' : S' 32 (0 : Int).toNat = lawP Q l g s year ag bol := e2
  rw [e2']
def yaB (p2 p3 p4 : Int) (q8 : SS) : Option (Int × SS) :=
  if (q8 2 12) = (q8 2 13) then (
    Option.bind (
      if p3 = 0 then (
        rdA q8 5 8 p2 fun v12 =>
        some v12
      ) else (
        rdA q8 5 8 p2 fun v14 =>
        some (w32 (-v14))
      )
      : Option (Int)) fun q11 =>
    Option.bind (
      if (q8 2 10) = (q8 2 11) then (
        some (q11, q8)
      ) else (
        Option.bind (fX4_valueOf_900 6 (q8 2 10) (q8 2 11) q8) fun q18 =>
        some (q18.1, q18.2)
      )
      : Option (Int × SS)) fun q17 =>
    Option.bind (fX11_isYear (w32 (p4 + q17.1))) fun q20 =>
    Option.bind (
      if q20 = true then (
        some (w32 (p4 + q17.1))
      ) else (
        some ((-4))
      )
      : Option (Int)) fun q21 =>
    some (q21, q17.2)
  ) else (
    Option.bind (fX4_valueOf_900 6 (q8 2 12) (q8 2 13) q8) fun q23 =>
    if q23.1 = 0 then (
      some ((-3), q23.2)
    ) else (
      Option.bind (
        if p3 = 0 then (
          rdA q23.2 5 8 p2 fun v25 =>
          some v25
        ) else (
          rdA q23.2 5 8 p2 fun v27 =>
          some (w32 (-v27))
        )
        : Option (Int)) fun q24 =>
      Option.bind (
        if (q23.2 2 10) = (q23.2 2 11) then (
          some (q24, q23.2)
        ) else (
          Option.bind (fX4_valueOf_900 6 (q23.2 2 10) (q23.2 2 11) q23.2) fun q31 =>
          some (q31.1, q31.2)
        )
        : Option (Int × SS)) fun q30 =>
      Option.bind (fX11_isYear (w32 (p4 + q30.1))) fun q33 =>
      Option.bind (
        if q33 = true then (
          some (w32 (p4 + q30.1))
        ) else (
          some ((-4))
        )
        : Option (Int)) fun q34 =>
      some (q34, q30.2)
    )
  )
theorem cisYear_ok {v : Int} : fX11_isYear v = some (decide (0 ≤ v ∧ v ≤ 19)) := by
  unfold fX11_isYear
  by_cases c1 : v < 0
  · rw [if_pos c1, decide_eq_false (by omega)]
  rw [if_neg c1]
  by_cases c2 : 20 ≤ v
  · rw [if_pos c2, decide_eq_false (by omega)]
  rw [if_neg c2, decide_eq_true (by omega)]
def yaT (s side year : Int) (M : SS) : Option (Int × SS) :=
  Option.bind (if side = 0 then (rdA M 5 8 s fun v => some v) else (rdA M 5 8 s fun v => some (w32 (-v))) : Option Int) fun q11 =>
  Option.bind (if (M 2 10) = (M 2 11) then some (q11, M) else (Option.bind (fX4_valueOf_900 6 (M 2 10) (M 2 11) M) fun q18 => some (q18.1, q18.2)) : Option (Int × SS)) fun q17 =>
  Option.bind (fX11_isYear (w32 (year + q17.1))) fun q20 =>
  Option.bind (if q20 = true then some (w32 (year + q17.1)) else some (-4) : Option Int) fun q21 =>
  some (q21, q17.2)
theorem yaT_ok {M : SS} {Q : Nat → Int} {g s year side bol : Int} (hR : townR M 2 Q) (hB : townB Q) (hg : 0 ≤ g ∧ g < 3) (hs : 0 ≤ s ∧ s < Q 2) (hy : 0 ≤ year ∧ year ≤ 19) (ha : 0 ≤ side ∧ side ≤ 1) (hbo : 0 ≤ bol ∧ bol ≤ 9)
    (hw : M 31 1 = s ∧ M 31 2 = Q (26 + s).toNat ∧ M 31 3 = year ∧ M 31 4 = side ∧ M 31 5 = bol ∧ M 31 6 = g) :
    ∃ S', yaT s side year M = some (if 0 ≤ year + shP Q g s side year bol ∧ year + shP Q g s side year bol ≤ 19 then year + shP Q g s side year bol else -4, S') := by
  have hS := hB.2.1
  have h5 := (st_r hR hs.1 hs.2).2.2
  have hsp := (st_b hB hs.1 hs.2).2.2.2
  have e1 : (if side = 0 then (rdA M 5 8 s fun v => some v) else (rdA M 5 8 s fun v => some (w32 (-v))) : Option Int) = some (if side = 1 then - Q (26 + s).toNat else Q (26 + s).toNat) := by
    have h5' : M 5 s.toNat = Q (26 + s).toNat := h5
    by_cases c : side = 0
    · rw [if_pos c, if_neg (by omega), rdA_ok (by omega) (by omega), h5']
    · rw [if_neg c, if_pos (by omega), rdA_ok (by omega) (by omega), h5', w32_eq (by omega) (by omega)]
  have fin : ∀ S', (Option.bind (fX11_isYear (w32 (year + shP Q g s side year bol))) fun q20 =>
      Option.bind (if q20 = true then some (w32 (year + shP Q g s side year bol)) else some (-4) : Option Int) fun q21 =>
      some (q21, S')) = some (if 0 ≤ year + shP Q g s side year bol ∧ year + shP Q g s side year bol ≤ 19 then year + shP Q g s side year bol else -4, (S' : SS)) := by
    intro S'
    have hb : -1000000 ≤ shP Q g s side year bol ∧ shP Q g s side year bol ≤ 1000000 := by
      unfold shP
      split
      · rename_i h4; exact lawP_b hB h4 hg hs hy ha hbo
      split <;> omega
    rw [w32_eq (by omega) (by omega), cisYear_ok, bnd_s]
    by_cases c : 0 ≤ year + shP Q g s side year bol ∧ year + shP Q g s side year bol ≤ 19
    · rw [decide_eq_true c, if_pos rfl, if_pos c]; rfl
    · rw [decide_eq_false c, if_neg (by decide), if_neg c]; rfl
  unfold yaT
  rw [e1, bnd_s]
  obtain ⟨h4, hl⟩ | ⟨h4, hl1, hl2⟩ := hR.2.2.2.1
  · rw [if_pos hl, bnd_s]
    have esh : (if side = 1 then - Q (26 + s).toNat else Q (26 + s).toNat) = shP Q g s side year bol := by unfold shP; rw [if_neg (c := Q 4 = 1) (by rw [h4]; decide)]
    simp only
    rw [esh]
    exact ⟨_, fin M⟩
  · have l1 := (law_of (l := 0) hB (by omega) h4).2.1
    obtain ⟨S', e2⟩ := valueOf_ok (l := 0) (by omega) hB hR.2.2.1 h4 hg hs hy ha hbo hw
    rw [if_neg (by rw [hl1, hl2]; show ¬ (Q 6 = Q 6 + Q (8 + 0)); omega), hl1, hl2]
    have e2' : fX4_valueOf_900 6 (Q 6) (Q 6 + Q 8) M = some (lawP Q 0 g s year side bol, S') := e2
    rw [e2', bnd_s, bnd_s]
    have esh : lawP Q 0 g s year side bol = shP Q g s side year bol := by unfold shP; rw [if_pos h4]
    simp only
    rw [esh]
    exact ⟨_, fin S'⟩
theorem yaB_ok {M : SS} {Q : Nat → Int} {g s year side bol : Int} (hR : townR M 2 Q) (hB : townB Q) (hg : 0 ≤ g ∧ g < 3) (hs : 0 ≤ s ∧ s < Q 2) (hy : 0 ≤ year ∧ year ≤ 19) (ha : 0 ≤ side ∧ side ≤ 1) (hbo : 0 ≤ bol ∧ bol ≤ 9)
    (hw : M 31 1 = s ∧ M 31 2 = Q (26 + s).toNat ∧ M 31 3 = year ∧ M 31 4 = side ∧ M 31 5 = bol ∧ M 31 6 = g) :
    ∃ S', yaB s side year M = some (yearP Q g s side year bol, S') := by
  unfold yaB yearP
  obtain ⟨h5, hm⟩ | ⟨h5, hm1, hm2⟩ := hR.2.2.2.2
  · rw [if_pos hm, if_neg (c := Q 5 = 1 ∧ lawP Q 1 g s year side bol = 0) (by rw [h5]; exact fun h => absurd h.1 (by decide))]
    exact yaT_ok hR hB hg hs hy ha hbo hw
  · have l1 := (law_of (l := 1) hB (by omega) h5).2.1
    obtain ⟨S', e2⟩ := valueOf_ok (l := 1) (by omega) hB hR.2.2.1 h5 hg hs hy ha hbo hw
    rw [if_neg (by rw [hm1, hm2]; show ¬ (Q 7 = Q 7 + Q (8 + 1)); omega), hm1, hm2]
    have e2' : fX4_valueOf_900 6 (Q 7) (Q 7 + Q 9) M = some (lawP Q 1 g s year side bol, S') := e2
    have fr : ∀ a, a ≠ 32 → S' a = M a := fun a ha => w_fX4_valueOf_900 e2' ha
    rw [e2', bnd_s]
    simp only
    by_cases c : lawP Q 1 g s year side bol = 0
    · rw [if_pos c, if_pos (c := Q 5 = 1 ∧ lawP Q 1 g s year side bol = 0) ⟨h5, c⟩]; exact ⟨_, rfl⟩
    · rw [if_neg c, if_neg (c := Q 5 = 1 ∧ lawP Q 1 g s year side bol = 0) (fun h => c h.2)]
      refine yaT_ok (M := S') ?_ hB hg hs hy ha hbo ?_
      · unfold townR; rw [fr 2 (by decide), fr (2 + 1) (by decide), fr (2 + 2) (by decide), fr (2 + 3) (by decide), fr (2 + 4) (by decide)]; exact hR
      · rw [fr 31 (by decide)]; exact hw
