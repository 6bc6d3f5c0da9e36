/-! town -/
theorem clear_j {S : SS} : ∃ S', fX8_clear 21 S = some S' ∧ (∀ j, 6 ≤ j → j ≤ 13 → S' 21 j = 0) ∧ S' 26 3 = 0 ∧ (∀ j, j < 8 → S' 27 j = 0) ∧ (∀ j, j < 3 → S' 28 j = 0) ∧ (∀ j, j < 3 → S' 29 j = 0) := by
  obtain ⟨S1, a1, a2, a3⟩ := @fill_53178_8 (26 + 1) 0 S
  obtain ⟨S2, b1, b2, b3⟩ := @fill_53178_3 (26 + 2) 0 S1
  obtain ⟨S3, c1, c2, c3⟩ := @fill_53178_3 (26 + 3) 0 S2
  unfold fX8_clear fX6_clear
  rw [show (21 + 5 + 1 : Nat) = 26 + 1 from rfl, a1, bnd_s, show (21 + 5 + 2 : Nat) = 26 + 2 from rfl, b1, bnd_s, show (21 + 5 + 3 : Nat) = 26 + 3 from rfl, c1, bnd_s, lt_ok, bnd_s, lt_ok, lt_ok, lt_ok, lt_ok, lt_ok, lt_ok, lt_ok, lt_ok, lt_ok]
  refine ⟨_, rfl, fun j h0 h1 => ?_, ?_, fun j hj => ?_, fun j hj => ?_, fun j hj => ?_⟩
  · obtain rfl | rfl | rfl | rfl | rfl | rfl | rfl | rfl : j = 6 ∨ j = 7 ∨ j = 8 ∨ j = 9 ∨ j = 10 ∨ j = 11 ∨ j = 12 ∨ j = 13 := by omega
    all_goals simp [up_at]
  · simp only [up_row (show (26 : Nat) ≠ 21 by decide)]
    exact up_self
  · simp only [up_row (show (27 : Nat) ≠ 21 by decide)]
    rw [up_row (by decide), c3 27 (by decide), b3 27 (by decide)]
    exact a2 j hj
  · simp only [up_row (show (28 : Nat) ≠ 21 by decide)]
    rw [up_row (by decide), c3 28 (by decide)]
    exact b2 j hj
  · simp only [up_row (show (29 : Nat) ≠ 21 by decide)]
    rw [up_row (by decide)]
    exact c2 j hj
theorem plain_loop : ∀ (m n k : Nat) (S : SS), m + k = 1101 → m < n → ∃ S', fX12_plain_1101_L2 134 n k S = some S' ∧ ∀ j, S' 134 j = if k ≤ j ∧ j < 1101 then 0 else S 134 j := by
  intro m
  induction m with
  | zero =>
    intro n k S hk hn
    obtain ⟨n, rfl⟩ := suc_of hn
    unfold fX12_plain_1101_L2
    rw [if_pos (by omega)]
    exact ⟨S, rfl, fun j => by rw [if_neg (by omega)]⟩
  | succ m ih =>
    intro n k S hk hn
    obtain ⟨n, rfl⟩ := suc_of hn
    unfold fX12_plain_1101_L2
    rw [if_neg (by omega), wrA_ok (by omega) (by omega), Int.toNat_natCast, lt_ok, w32_k (by omega)]
    obtain ⟨S', e1, e2⟩ := ih n (k + 1) (up S 134 k 0) (by omega) (by omega)
    refine ⟨S', e1, fun j => ?_⟩
    rw [e2 j, up_at]
    by_cases a : j = k
    · rw [if_neg (by omega), if_pos a, if_pos (by omega)]
    · by_cases b : k + 1 ≤ j ∧ j < 1101
      · rw [if_pos b, if_pos (by omega)]
      · rw [if_neg b, if_neg a, if_neg (by omega)]
theorem plain_j {S : SS} : ∃ S', fX12_plain_1101 134 S = some S' ∧ ∀ k, k < 201 → k ≠ 1 → S' 134 k = 0 := by
  obtain ⟨S1, a1, a2⟩ := plain_loop 1101 FU 0 S rfl (by unfold FU; omega)
  have a1' : fX12_plain_1101_L2 134 FU 0 S = some S1 := a1
  unfold fX12_plain_1101
  rw [a1', bnd_s, wr_1]
  refine ⟨_, rfl, fun k hk h1 => ?_⟩
  rw [up_k h1, a2 k, if_pos (by omega)]
theorem copy_loop : ∀ (m n k : Nat) (S : SS), m + k = 1101 → m < n → ∃ S', fX12_town_L154 n k S = some S' ∧ ∀ j, S' 131 j = if k ≤ j ∧ j < 1101 then S 134 j else S 131 j := by
  intro m
  induction m with
  | zero =>
    intro n k S hk hn
    obtain ⟨n, rfl⟩ := suc_of hn
    unfold fX12_town_L154
    rw [if_pos (by omega)]
    exact ⟨S, rfl, fun j => by rw [if_neg (by omega)]⟩
  | succ m ih =>
    intro n k S hk hn
    obtain ⟨n, rfl⟩ := suc_of hn
    unfold fX12_town_L154
    rw [if_neg (by omega), rdA_ok (by omega) (by omega), wrA_ok (by omega) (by omega), Int.toNat_natCast, lt_ok, w32_k (by omega)]
    obtain ⟨S', e1, e2⟩ := ih n (k + 1) (up S 131 k (S 134 k)) (by omega) (by omega)
    refine ⟨S', e1, fun j => ?_⟩
    rw [e2 j, up_at, up_row (by decide)]
    by_cases a : j = k
    · rw [if_neg (by omega), if_pos a, if_pos (by omega), a]
    · by_cases b : k + 1 ≤ j ∧ j < 1101
      · rw [if_pos b, if_pos (by omega)]
      · rw [if_neg b, if_neg a, if_neg (by omega)]
theorem townR_d {n : Nat} {T U : Nat → Int} {SC SM : SS} (hJ : JX T U n 1 SC SM) (ht : tp T U n) (o : Ok SM) (hD : DrQ 0 SC (SM 134) (SM 130 6)) : townR SC 21 (SM 134) ∧ townB (SM 134) := by
  have hn := ht.1
  obtain ⟨⟨a1, a2, a3, a4⟩, ⟨b1, b2, b3, b4⟩, c, d, ⟨e1, e2⟩, gg, i, j⟩ := hD
  obtain ⟨q, e, N, y1, y2, y3, y4, y5, y6, y7, y8, y9, y10, y11, y12, y13, y14⟩ := JX_O hJ o
  refine ⟨⟨⟨a1, by rw [a2]; omega, a3, a4, by rw [y11, y12]⟩, fun s hs => ?_, fun k hk => y14 k (by omega), gg.1, gg.2⟩, ⟨b1, ⟨b2.1, by omega⟩, b3, ?_, ⟨by omega, by omega⟩, fun s hs => ?_, i.1, i.2⟩⟩
  · exact (c s (by omega)).1
  · unfold cI; omega
  · exact (c s (by omega)).2
def tailT (M : SS) : Option (Int × SS) :=
  lt (up M 130 13 (M 130 11)) fun S19 =>
    Option.bind (
      if (S19 130 11) = 0 then (
        some ((-1))
      ) else (
        some (S19 130 12)
      )
      : Option (Int)) fun q20 =>
    lt (up S19 130 14 q20) fun S22 =>
    if (S22 130 11) = 0 then (
      Option.bind (fX12_town_L154 FU 0 S22) fun q23 =>
      rdA q23 131 3303 0 fun v25 =>
      some (v25, q23)
    ) else (
      some (w32 (((-30)) - (S22 130 11)), S22)
    )
theorem k_town : K_town Inv := by
  intro t ct S hI
  obtain ⟨i0, hC, hS, hH, hT, hTr, hIm⟩ := id hI
  obtain ⟨⟨t1, t2, t3⟩, t4, t5, t6⟩ := id hT
  unfold fX11_town
  by_cases a : 0 ≤ t ∧ t ≤ S 130 5
  · obtain ⟨n, rfl⟩ : ∃ n : Nat, t = n := ⟨t.toNat, by omega⟩
    have ht : tp (S 20) (S 133) n := ⟨by omega, fun k hk => t4 k (by omega)⟩
    -- the class's start
    obtain ⟨A0, hA0⟩ : ∃ X, X = up (up (up (up S 19 9 0) 19 10 (-1)) 19 3 (n : Int)) 19 4 0 := ⟨_, rfl⟩
    obtain ⟨A1, l1, l2, l3, l4, l5, l6⟩ := @clear_j A0
    have fA : ∀ a, a ≠ 21 → (a < 26 ∨ 29 < a) → A1 a = A0 a := fun a h h' => w_fX8_clear l1 (by omega)
    have A19 : ∀ j, A1 19 j = A0 19 j := fun j => by rw [fA 19 (by decide) (by decide)]
    -- the reference's start, over any memory whose rows 130, 133 are these
    have core : ∀ SM : SS, SM 130 = S 130 → SM 133 = S 133 → ∃ B1, fX12_plain_1101 134 (up (up (up (up SM 130 8 (n : Int)) 130 5 0) 130 7 0) 130 11 0) = some B1 ∧ ∃ C1 C2 v C3 C4 C6 M1 b M2 M2' v' M3 M4 M6, fX3_advance A1 = some C1 ∧ fX3_expect 1000 C1 = some C2 ∧ fX3_number 1 6 (-1) C2 = some (v, C3) ∧ fX3_expect 59 (up C3 21 5 v) = some C4 ∧ fX3_read_L76 FU 0 (up C4 21 8 1) = some C6
      ∧ fX12_next B1 = some M1 ∧ fX12_eats 0 M1 = some (b, M2) ∧ (if b = true then some M2 else Option.bind (fX12_fails 2 M2) fun q => some q) = some M2' ∧ fX12_takes 1 6 M2' = some (v', M3) ∧ fX12_ends (up M3 134 1 v') = some M4 ∧ fX12_town_L83 FU M4 = some M6
      ∧ FM B1 M6 ∧ C6 19 9 = M6 130 11 ∧ (M6 130 11 = 0 → JX (S 20) (S 133) n 1 C6 M6 ∧ Ok M6 ∧ DrQ 0 C6 (M6 134) (M6 130 6)) ∧ (M6 130 11 ≠ 0 → C6 19 10 = M6 130 12) ∧ B1 130 0 = 0 ∧ B1 130 5 = 0 := by
      intro SM e1 e2
      obtain ⟨B1, p1, p2⟩ := @plain_j (up (up (up (up SM 130 8 (n : Int)) 130 5 0) 130 7 0) 130 11 0)
      have fB : ∀ a, a ≠ 134 → B1 a = up (up (up (up SM 130 8 (n : Int)) 130 5 0) 130 7 0) 130 11 0 a := fun a h => w_fX12_plain_1101 p1 h
      obtain ⟨C1, C2, v, C3, C4, C6, M1, b, M2, M2', v', M3, M4, M6, x⟩ := core_j (SC0 := A1) (SM0 := B1) ht (by rw [fA 20 (by decide) (by decide), hA0, up_row (by decide), up_row (by decide), up_row (by decide), up_row (by decide)]) (by rw [A19, hA0, up_k (by decide), up_self]) (by rw [A19, hA0, up_self]) (by rw [A19, hA0, up_k (by decide), up_k (by decide), up_k (by decide), up_self]) (by rw [A19, hA0, up_k (by decide), up_k (by decide), up_self]) l2 l3 l4 l5 l6
        (by rw [fB 133 (by decide), up_row (by decide), up_row (by decide), up_row (by decide), up_row (by decide)]; exact e2) (by rw [fB 130 (by decide), up_k (by decide), up_self]) (by rw [fB 130 (by decide), up_k (by decide), up_k (by decide), up_k (by decide), up_self]) (by rw [fB 130 (by decide), up_self]) p2
      obtain ⟨x1, x2, x3, x4, x5, x6, x7, x8, x9, x10, x11, x12, x13, x14, x15⟩ := x
      refine ⟨B1, p1, C1, C2, v, C3, C4, C6, M1, b, M2, M2', v', M3, M4, M6, x1, x2, x3, x4, x5, x6, x7, x8, x9, x10, x11, x12, x13, x14, x15, ?_, ?_⟩
      · rw [fB 130 (by decide), up_k (by decide), up_k (by decide), up_k (by decide), up_k (by decide), e1]; exact i0
      · rw [fB 130 (by decide), up_k (by decide), up_k (by decide), up_self]
    -- the class reads
    obtain ⟨_, _, C1, C2, v, C3, C4, C6, _, _, _, _, _, _, _, _, x1, x2, x3, x4, x5, _⟩ := core S rfl rfl
    have rd : fX3_read n S = some (up C6 19 2 0) := by
      unfold fX3_read
      rw [lt_ok, lt_ok, lt_ok, show (if up (up S 19 9 0) 19 10 (-1) 19 2 < (n : Int) then up (up S 19 9 0) 19 10 (-1) 19 2 else (n : Int)) = (n : Int) by rw [up_k (by decide), up_k (by decide), if_neg (by omega)], lt_ok, lt_ok, ← hA0, l1, bnd_s, x1, bnd_s, x2, bnd_s, x3, bnd_s, lt_ok, x4, bnd_s, lt_ok, x5, bnd_s, lt_ok]
    have fR : ∀ a, a ≠ 19 ∧ (a < 21 ∨ 29 < a) → up C6 19 2 0 a = S a := fun a h => w_fX3_read rd h
    have r9 : up C6 19 2 0 19 9 = C6 19 9 := up_k (by decide)
    rw [if_neg (show ¬ (n : Int) < 0 by omega), t1, if_pos a.2, rd, bnd_s, r9]
    -- the reference reads
    have model : ∀ SM : SS, SM 130 = S 130 → SM 133 = S 133 → ∃ B1 M1 b M2 M2' v' M3 M4 M6, fX12_plain_1101 134 (up (up (up (up SM 130 8 (n : Int)) 130 5 0) 130 7 0) 130 11 0) = some B1 ∧ fX12_next B1 = some M1 ∧ fX12_eats 0 M1 = some (b, M2) ∧ (if b = true then some M2 else Option.bind (fX12_fails 2 M2) fun q => some q) = some M2' ∧ fX12_takes 1 6 M2' = some (v', M3) ∧ fX12_ends (up M3 134 1 v') = some M4 ∧ fX12_town_L83 FU M4 = some M6 ∧ C6 19 9 = M6 130 11 ∧ (M6 130 11 = 0 → JX (S 20) (S 133) n 1 C6 M6 ∧ Ok M6 ∧ DrQ 0 C6 (M6 134) (M6 130 6)) ∧ (M6 130 11 ≠ 0 → C6 19 10 = M6 130 12) ∧ M6 130 0 = 0 ∧ M6 130 5 = 0 := by
      intro SM e1 e2
      obtain ⟨B1, p1, D1, D2, w, D3, D4, D6, M1, b, M2, M2', v', M3, M4, M6, z1, z2, z3, z4, z5, y1, y2, y3, y4, y5, y6, y7, y8, y9, y10, y11, y12⟩ := core SM e1 e2
      obtain rfl : C1 = D1 := Option.some.inj (x1.symm.trans z1)
      obtain rfl : C2 = D2 := Option.some.inj (x2.symm.trans z2)
      have e3 := Option.some.inj (x3.symm.trans z3)
      obtain ⟨rfl, rfl⟩ : v = w ∧ C3 = D3 := ⟨congrArg Prod.fst e3, congrArg Prod.snd e3⟩
      obtain rfl : C4 = D4 := Option.some.inj (x4.symm.trans z4)
      obtain rfl : C6 = D6 := Option.some.inj (x5.symm.trans z5)
      exact ⟨B1, M1, b, M2, M2', v', M3, M4, M6, p1, y1, y2, y3, y4, y5, y6, y8, y9, y10, y7.1.trans y11, y7.2.trans y12⟩
    have town : ∀ S1 : SS, S1 130 = S 130 → S1 133 = S 133 → ∃ M6, fX12_town n S1 = tailT M6 ∧ C6 19 9 = M6 130 11 ∧ (M6 130 11 = 0 → JX (S 20) (S 133) n 1 C6 M6 ∧ Ok M6 ∧ DrQ 0 C6 (M6 134) (M6 130 6)) ∧ (M6 130 11 ≠ 0 → C6 19 10 = M6 130 12) ∧ M6 130 0 = 0 ∧ M6 130 5 = 0 ∧ (∀ a, a ≠ 130 ∧ a ≠ 134 → M6 a = S1 a) := by
      intro S1 e1 e2
      obtain ⟨B1, M1, b, M2, M2', v', M3, M4, M6, p1, y1, y2, y3, y4, y5, y6, y8, y9, y10, y11, y12⟩ := model S1 e1 e2
      refine ⟨M6, ?_, y8, y9, y10, y11, y12, fun a ha => ?_⟩
      · unfold fX12_town
        rw [lt_ok, up_same (by rw [e1]; exact i0), within_ok, bnd_s, if_pos (decide_eq_true (by rw [e1]; exact a)), lt_ok, lt_ok, lt_ok, lt_ok, p1, bnd_s, y1, bnd_s, y2, bnd_s]
        simp only
        rw [ex_if y3, y4, bnd_s, wr_1, y5, bnd_s, y6, bnd_s]
        rfl
      · have g6 := w_fX12_town_L83 ha _ _ _ y6
        have g5 : M4 a = up M3 134 1 v' a := w_fX12_ends y5 ha
        have g4 : (v', M3).2 a = M2' a := w_fX12_takes y4 ha.1
        have g1 : M1 a = B1 a := w_fX12_next y1 ha.1
        have g0 : B1 a = _ := w_fX12_plain_1101 p1 ha.2
        have g3 : M2' a = M1 a := by
          have g2 : (b, M2).2 a = M1 a := w_fX12_eats y2 ha.1
          by_cases z : b = true
          · rw [if_pos z] at y3
            obtain rfl := Option.some.inj y3
            exact g2
          · rw [if_neg z, bnd_id] at y3
            exact (w_fX12_fails y3 ha.1).trans g2
        rw [g6, g5, up_row ha.2, show M3 a = M2' a from g4, g3, g1, g0, up_row ha.1, up_row ha.1, up_row ha.1, up_row ha.1]
    by_cases f : C6 19 9 = 0
    · rw [if_pos f]
      -- both read it whole
      obtain ⟨M0, _, q2, q3, _⟩ := town S rfl rfl
      have hc : ∀ a, a ≠ 19 → up C6 19 2 0 a = C6 a := fun a h => up_row h
      have made : ∀ M : SS, (JX (S 20) (S 133) n 1 C6 M ∧ Ok M ∧ DrQ 0 C6 (M 134) (M 130 6)) → townB (M 134) ∧ ∃ S1, fX11_becomes 21 (up C6 19 2 0) = some S1 ∧ townR S1 2 (M 134) ∧ stEq S1 7 (M 134) 34 ∧ S1 59 2 = 0 ∧ S1 59 1 = up C6 19 2 0 59 1 ∧ S1 30 3 = -1 := by
        intro M h
        obtain ⟨J, o, D⟩ := h
        obtain ⟨dR, dB⟩ := townR_d J ht o D
        have dR' : townR (up C6 19 2 0) 21 (M 134) := townR_fr (hc _ (by decide)) (hc _ (by decide)) (hc _ (by decide)) (hc _ (by decide)) (hc _ (by decide)) dR
        have dS' : stEq (up C6 19 2 0) (21 + 5) (M 134) 34 := stEq_fr (hc _ (by decide)) (hc _ (by decide)) (hc _ (by decide)) (hc _ (by decide)) D.2.2.2.2.1.1
        exact ⟨dB, becomes_ok (S := up C6 19 2 0) (p := 21) (by omega) dB dR' dS'⟩
      obtain ⟨_, S1, e1, _⟩ := made M0 (q3 (by omega))
      have fb : ∀ a, (a < 2 ∨ 10 < a) ∧ a ≠ 30 ∧ a ≠ 59 → S1 a = up C6 19 2 0 a := fun a ha => w_fX11_becomes e1 ha
      have fS : ∀ a, (a < 2 ∨ 29 < a) → a ≠ 30 → a ≠ 59 → S1 a = S a := fun a h1 h2 h3 => (fb a (by omega)).trans (fR a (by omega))
      obtain ⟨M, k1, k2, k3, _, k5, k6, k7⟩ := town S1 (fS 130 (by omega) (by omega) (by omega)) (fS 133 (by omega) (by omega) (by omega))
      have w : M 130 11 = 0 := by omega
      obtain ⟨J, o, D⟩ := k3 w
      obtain ⟨dB, S1', e1', e2, e3, e4, e5, e6⟩ := made M ⟨J, o, D⟩
      obtain rfl : S1 = S1' := Option.some.inj (e1.symm.trans e1')
      obtain ⟨S22, h22⟩ : ∃ X, X = up (up M 130 13 (M 130 11)) 130 14 (-1) := ⟨_, rfl⟩
      have g130 : ∀ j, j ≠ 13 → j ≠ 14 → S22 130 j = M 130 j := fun j a b => by rw [h22, up_k b, up_k a]
      have gM : ∀ a, a ≠ 130 → S22 a = M a := fun a h => by rw [h22, up_row h, up_row h]
      obtain ⟨S2, l1', l2'⟩ := copy_loop 1101 FU 0 S22 rfl (by unfold FU; omega)
      have l1'' : fX12_town_L154 FU 0 S22 = some S2 := l1'
      have f2 : ∀ a, a ≠ 131 → S2 a = S22 a := fun a h => w_fX12_town_L154 h _ _ _ _ l1'
      have fz : ∀ a, a ≠ 130 → a ≠ 131 → a ≠ 134 → S2 a = S1 a := fun a h1 h2 h3 => (f2 a h2).trans ((gM a h1).trans (k7 a ⟨h1, h3⟩))
      have e134 : ∀ j, S22 134 j = M 134 j := fun j => by rw [gM 134 (by decide)]
      have q131 : ∀ k, S2 131 k = if k = 49 then 0 else if k < 1101 then M 134 k else S 131 k := by
        intro k
        rw [l2' k, e134]
        by_cases c : k = 49
        · rw [if_pos c, if_pos (by omega), c]; exact D.2.2.2.2.2.2.2
        · rw [if_neg c]
          by_cases d : k < 1101
          · rw [if_pos (by omega), if_pos d]
          · rw [if_neg (by omega), if_neg d, gM 131 (by decide), k7 131 (by decide), fS 131 (by omega) (by omega) (by omega)]
      have a8 : S1 2 8 = M 134 0 := e2.1.2.2.2.1
      have a0 : S2 131 0 = M 134 0 := by rw [q131 0, if_neg (by decide), if_pos (by decide)]
      have s19 : S2 19 = up C6 19 2 0 19 := (fz 19 (by decide) (by decide) (by decide)).trans (fb 19 (by decide))
      rw [e1, bnd_s]
      refine ⟨S1 2 8, S1, S2, rfl, ?_, new_town hI dB D.2.2.2.2.1.2 e2 e3 e4 (e5.trans (by rw [fR 59 (by decide)])) e6 (fun a h => fS a (by omega) (by omega) (by omega)) (fun a h => fz a (by omega) (by omega) (by omega)) q131 ?_ ?_⟩
      · rw [k1]
        unfold tailT
        rw [lt_ok, show up M 130 13 (M 130 11) 130 11 = M 130 11 from up_k (by decide), if_pos w, bnd_s, lt_ok, ← h22, g130 11 (by decide) (by decide), if_pos w, l1'', bnd_s, rdA_ok (by decide) (by decide)]
        show some (S2 131 0, S2) = _
        rw [a0, a8]
      · rw [f2 130 (by decide), g130 0 (by decide) (by decide)]; exact k5
      · have z5 : S2 130 5 = 0 := by rw [f2 130 (by decide), g130 5 (by decide) (by decide)]; exact k6
        refine ⟨⟨?_, by omega, by omega⟩, fun k hk => by omega, ?_, ?_⟩
        · rw [s19, up_self, z5]
        · rw [s19, up_k (by decide), f2 130 (by decide), h22, up_k (by decide), up_self]; exact k2
        · rw [s19, up_k (by decide), f2 130 (by decide), h22, up_self]
          exact J.1.2.2.2.2.2 f
    · rw [if_neg f]
      obtain ⟨M, k1, k2, _, k4, k5, k6, k7⟩ := town (up C6 19 2 0) (fR 130 (by decide)) (fR 133 (by decide))
      have w : M 130 11 ≠ 0 := by omega
      obtain ⟨S22, h22⟩ : ∃ X, X = up (up M 130 13 (M 130 11)) 130 14 (M 130 12) := ⟨_, rfl⟩
      have g130 : ∀ j, j ≠ 13 → j ≠ 14 → S22 130 j = M 130 j := fun j a b => by rw [h22, up_k b, up_k a]
      have gM : ∀ a, a ≠ 130 → S22 a = M a := fun a h => by rw [h22, up_row h, up_row h]
      have fz : ∀ a, a ≠ 130 → a ≠ 134 → S22 a = up C6 19 2 0 a := fun a h1 h3 => (gM a h1).trans (k7 a ⟨h1, h3⟩)
      have fs : ∀ a, a ≠ 19 → (a < 21 ∨ 29 < a) → a ≠ 130 → a ≠ 134 → S22 a = S a := fun a h1 h2 h3 h4 => (fz a h3 h4).trans (fR a ⟨h1, h2⟩)
      have z5 : S22 130 5 = 0 := by rw [g130 5 (by decide) (by decide)]; exact k6
      refine ⟨_, up C6 19 2 0, S22, rfl, ?_, ?_, core_fr (fun a h => fs a (by omega) (by omega) (by omega) (by omega)) (lanes_fr (fs 30 (by omega) (by omega) (by omega) (by omega)) (fs 33 (by omega) (by omega) (by omega) (by omega)) (fs 131 (by omega) (by omega) (by omega) (by omega)) hC.2.2) hC, stand_fr (fs _ (by omega) (by omega) (by omega) (by omega)) (fs _ (by omega) (by omega) (by omega) (by omega)) (fs _ (by omega) (by omega) (by omega) (by omega)) (fs _ (by omega) (by omega) (by omega) (by omega)) (fs _ (by omega) (by omega) (by omega) (by omega)) hS, hist_fr (fs _ (by omega) (by omega) (by omega) (by omega)) (fs _ (by omega) (by omega) (by omega) (by omega)) (fun a h h' => fs _ (by omega) (by omega) (by omega) (by omega)) hH, ?_, trays_fr (fun a h h' => fs _ (by omega) (by omega) (by omega) (by omega)) (fs _ (by omega) (by omega) (by omega) (by omega)) (fs _ (by omega) (by omega) (by omega) (by omega)) (fs _ (by omega) (by omega) (by omega) (by omega)) hTr, imgs_fr (fs _ (by omega) (by omega) (by omega) (by omega)) (fun a h h' => fs _ (by omega) (by omega) (by omega) (by omega)) (fs _ (by omega) (by omega) (by omega) (by omega)) (fun k _ => by rw [fs 131 (by omega) (by omega) (by omega) (by omega)]) hIm⟩
      · rw [k1]
        unfold tailT
        rw [lt_ok, show up M 130 13 (M 130 11) 130 11 = M 130 11 from up_k (by decide), if_neg w, bnd_s, show up M 130 13 (M 130 11) 130 12 = M 130 12 from up_k (by decide), lt_ok, ← h22, g130 11 (by decide) (by decide), if_neg w, k2]
      · rw [g130 0 (by decide) (by decide)]; exact k5
      · refine ⟨⟨?_, by omega, by omega⟩, fun k hk => by omega, ?_, ?_⟩
        · rw [fz 19 (by decide) (by decide), up_self, z5]
        · rw [fz 19 (by decide) (by decide), up_k (by decide), h22, up_k (by decide), up_self]; exact k2
        · rw [fz 19 (by decide) (by decide), up_k (by decide), h22, up_self]; exact k4 w
  · have m : fX12_town t S = some (-3, S) := by
      unfold fX12_town
      rw [lt_ok, up_same i0, within_ok, bnd_s, if_neg (by rw [decide_eq_true_eq]; exact a)]
    refine ⟨-3, S, S, ?_, m, hI⟩
    by_cases b : t < 0
    · rw [if_pos b]
    · rw [if_neg b, if_neg (by omega)]
