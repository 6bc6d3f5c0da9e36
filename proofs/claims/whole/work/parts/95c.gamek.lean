/-! the calls -/
def fsT (w : Nat → Bool) : Nat → Nat → Int
  | 0, _ => -1
  | m + 1, k => if w k = true then (k : Int) else fsT w m (k + 1)
theorem fsT_s {w : Nat → Bool} {m k : Nat} : fsT w (m + 1) k = if w k = true then (k : Int) else fsT w m (k + 1) := rfl
theorem fsT_p {w : Nat → Bool} : ∀ m k, (fsT w m k = -1 ∧ anN w m k = false) ∨ ∃ t : Nat, fsT w m k = t ∧ k ≤ t ∧ t < k + m ∧ w t = true := by
  intro m
  induction m with
  | zero => intro k; exact Or.inl ⟨rfl, rfl⟩
  | succ m ih =>
    intro k
    rw [fsT_s, anN_s]
    by_cases z : w k = true
    · rw [if_pos z]
      exact Or.inr ⟨k, rfl, by omega, by omega, z⟩
    · rw [if_neg z, Bool.eq_false_iff.mpr z, Bool.false_or]
      obtain h | ⟨t, a, b, d, e⟩ := ih (k + 1)
      · exact Or.inl h
      · exact Or.inr ⟨t, a, by omega, by omega, e⟩
theorem turns_c {R : Nat → Int} {g c sp : Int} (hB : townB R) (hb : 0 ≤ R 48 ∧ R 48 ≤ 9) (hg : 0 ≤ g ∧ g < R 3) (p0 : 0 ≤ sp) (p1 : sp < 120) : ∀ (m n k : Nat) (S : SS), m + k = 4 → m < n → gmS R g c 0 S → (∀ T, kp S T → fX6_spotOf 55 g T = some sp) → ∃ (S' : SS) (q1 : Nat) (q2 : Int), fX1_fewestTurns_L2 n k S = some (q1, q2, S') ∧ (if q1 = 0 then q2 else -1) = fsT (fun t => wP R g c t 0 sp) m k ∧ kp S S' := by
  intro m
  induction m with
  | zero =>
    intro n k S hk hn hG hs
    obtain ⟨n, rfl⟩ := suc_of hn
    unfold fX1_fewestTurns_L2
    rw [if_pos (by omega)]
    exact ⟨S, 1, 0, rfl, rfl, kp_s hG⟩
  | succ m ih =>
    intro n k S hk hn hG hs
    obtain ⟨n, rfl⟩ := suc_of hn
    obtain ⟨S1, a1, a2⟩ := game_c hB hb hg k (by omega) 12 (by omega) 0 sp S hG p0 p1
    have a1' : gX1_wins sp k S = some (wP R g c k 0 sp, S1) := a1
    unfold fX1_fewestTurns_L2
    rw [if_neg (by omega), hG.2.2.1, hs S (kp_s hG), bnd_s, a1', bnd_s]
    simp only
    by_cases z : wP R g c k 0 sp = true
    · rw [if_pos z]
      refine ⟨S1, 0, k, rfl, ?_, a2⟩
      rw [fsT_s, if_pos rfl, if_pos z]
    · rw [if_neg z, lt_ok, w32_k (by omega)]
      obtain ⟨S', q1, q2, b1, b2, b3⟩ := ih n (k + 1) S1 (by omega) (by omega) (gm_kp hG a2) (fun T hT => hs T (kp_t a2 hT))
      refine ⟨S', q1, q2, b1, ?_, kp_t a2 b3⟩
      rw [fsT_s, if_neg z]
      exact b2
theorem turns_m {R : Nat → Int} {g c : Int} (hB : townB R) (hb : 0 ≤ R 48 ∧ R 48 ≤ 9) (hg : 0 ≤ g ∧ g < R 3) (hs : stBd R 34 (R 1)) : ∀ (m n k : Nat) (S : SS), m + k = 4 → m < n → S 131 = R → ∃ (S' : SS) (q1 : Nat) (q2 : Int), fX12_forcedIn_L2 g c n k S = some (q1, q2, S') ∧ (if q1 = 0 then q2 else -1) = fsT (fun t => wP R g c t 0 (spotP R g)) m k ∧ S' 131 = R := by
  have h1 := hB.1
  have h3 := hB.2.2.1
  obtain ⟨p0, p1⟩ := spotP_b hs hg.1 (show g < 3 by omega)
  intro m
  induction m with
  | zero =>
    intro n k S hk hn hR
    obtain ⟨n, rfl⟩ := suc_of hn
    unfold fX12_forcedIn_L2
    rw [if_pos (by omega)]
    exact ⟨S, 1, 0, rfl, rfl, hR⟩
  | succ m ih =>
    intro n k S hk hn hR
    obtain ⟨n, rfl⟩ := suc_of hn
    obtain ⟨S1, a1, a2⟩ := game_m hB hb hg k (by omega) 12 (by omega) 0 (spotP R g) S hR p0 (by omega)
    have a1' : gX12_childs g (spotP R g) 0 c k S = some (wP R g c k 0 (spotP R g), S1) := a1
    have es : fX12_standOf g S = some (spotP R g) := by rw [standOf_ok (by rw [hR]; exact hs) (by rw [hR]; exact hB) hg.1 (by omega), hR]
    unfold fX12_forcedIn_L2
    rw [if_neg (by omega), es, bnd_s, a1', bnd_s]
    simp only
    by_cases z : wP R g c k 0 (spotP R g) = true
    · rw [if_pos z]
      refine ⟨S1, 0, k, rfl, ?_, a2⟩
      rw [fsT_s, if_pos rfl, if_pos z]
    · rw [if_neg z, lt_ok, w32_k (by omega)]
      obtain ⟨S', q1, q2, b1, b2, b3⟩ := ih n (k + 1) S1 (by omega) (by omega) a2
      refine ⟨S', q1, q2, b1, ?_, b3⟩
      rw [fsT_s, if_neg z]
      exact b2
def forP (R : Nat → Int) (g c : Int) : Int := fsT (fun t => wP R g c t 0 (spotP R g)) 4 0
theorem fewest_ok {R : Nat → Int} {g c : Int} {S : SS} (hB : townB R) (hb : 0 ≤ R 48 ∧ R 48 ≤ 9) (hg : 0 ≤ g ∧ g < R 3) (p0 : 0 ≤ spotP R g) (p1 : spotP R g < 120) (hG : gmS R g c 0 S) (hs : ∀ T, kp S T → fX6_spotOf 55 g T = some (spotP R g)) : ∃ S', fX1_fewestTurns S = some (forP R g c, S') ∧ kp S S' := by
  obtain ⟨S', q1, q2, a1, a2, a3⟩ := turns_c (c := c) hB hb hg p0 p1 4 FU 0 S rfl (by unfold FU; omega) hG hs
  have a1' : fX1_fewestTurns_L2 FU 0 S = some (q1, q2, S') := a1
  refine ⟨S', ?_, a3⟩
  unfold fX1_fewestTurns forP
  rw [a1', bnd_s, ← a2]
  simp only
  by_cases z : q1 = 0
  · rw [if_pos z, if_pos z]
  · rw [if_neg z, if_neg z]
theorem forced_ok {R : Nat → Int} {g c : Int} {S : SS} (hB : townB R) (hb : 0 ≤ R 48 ∧ R 48 ≤ 9) (hg : 0 ≤ g ∧ g < R 3) (hs : stBd R 34 (R 1)) (hR : S 131 = R) : ∃ S', fX12_forcedIn g c S = some (forP R g c, S') := by
  obtain ⟨S', q1, q2, a1, a2, a3⟩ := turns_m (c := c) hB hb hg hs 4 FU 0 S rfl (by unfold FU; omega) hR
  have a1' : fX12_forcedIn_L2 g c FU 0 S = some (q1, q2, S') := a1
  refine ⟨S', ?_⟩
  unfold fX12_forcedIn forP
  rw [a1', bnd_s, ← a2]
  simp only
  by_cases z : q1 = 0
  · rw [if_pos z, if_pos z]
  · rw [if_neg z, if_neg z]
theorem gbegin_ok {S : SS} {g c : Int} (hC : Core S) (hS : Stand S) (hg : 0 ≤ g ∧ g < S 131 3) : ∃ S', fX1_begin g c 7 S = some S' ∧ gmS (S 131) g c 0 S' ∧ (∀ T, kp S' T → fX6_spotOf 55 g T = some (spotP (S 131) g)) ∧ ∀ a, (a < 30 ∨ 33 < a) ∧ (a < 54 ∨ 58 < a) → S' a = S a := by
  obtain ⟨hR, hB, hL⟩ := id hC
  have h1 := hB.1
  have h3 := hB.2.2.1
  obtain ⟨nb1, nb2⟩ : S 7 3 = S 131 48 ∧ (0 ≤ S 131 48 ∧ S 131 48 ≤ 9) := ⟨hS.1.2.2.2, hS.2.2.2.2⟩
  obtain ⟨S1, a1, a2, a3, a4⟩ := settle_ok (b := S 7 3) (by omega) (by omega) hB hL
  obtain ⟨S3, hS3⟩ : ∃ S3, S3 = up (up S1 54 2 g) 54 3 c := ⟨_, rfl⟩
  have f3 : ∀ a, a ≠ 30 → a ≠ 33 → a ≠ 54 → S3 a = S a := fun a x y z => by rw [hS3, up_row z, up_row z, a4 a x y]
  obtain ⟨S4, c1, c2⟩ := @copySt S3 55 7 (by omega)
  have f4 : ∀ a, a < 55 ∨ 58 < a → S4 a = S3 a := fun a ha => w_fX6_copyOf c1 (by omega)
  have s3 : stEq S3 7 (S 131) 34 := stEq_fr (f3 _ (by omega) (by omega) (by omega)) (f3 _ (by omega) (by omega) (by omega)) (f3 _ (by omega) (by omega) (by omega)) (f3 _ (by omega) (by omega) (by omega)) hS.1
  have s4 := c2 _ _ s3
  have ff : ∀ a, (a < 30 ∨ 33 < a) ∧ (a < 54 ∨ 58 < a) → S4 a = S a := fun a ha => (f4 a (by omega)).trans (f3 a (by omega) (by omega) (by omega))
  have l4 : lanes S4 := lanes_fr (S := S1) (by rw [f4 30 (by omega), hS3, up_row (by omega), up_row (by omega)]) (by rw [f4 33 (by omega), hS3, up_row (by omega), up_row (by omega)]) (by rw [ff 131 (by omega), a4 131 (by omega) (by omega)]) a2
  refine ⟨S4, ?_, ⟨core_fr (fun a ha => ff a (by omega)) l4 hC, ff 131 (by omega), ?_, ?_, s4.2.2.2, fun s hs => ?_⟩, fun T hT => ?_, ff⟩
  · unfold fX1_begin
    rw [a1, bnd_s, lt_ok, lt_ok, ← hS3, c1, bnd_s]
  · rw [f4 54 (by omega), hS3, up_at, if_neg (by decide), up_at, if_pos rfl]
  · rw [f4 54 (by omega), hS3, up_at, if_pos rfl]
  · rw [show sgB (S 131) 0 s = S 131 (40 + s) by unfold sgB; rw [bit_0, if_neg (by decide)]]
    exact s4.2.2.1 s hs
  · obtain ⟨n1, n2, n3, n4⟩ := now_c hS hg.1 (show g < 3 by omega)
    refine spotOf_ok hg.1 (by omega) ?_ ?_ n3.1 (by omega) n4.1 n4.2
    · rw [hT.2 57 (by omega), s4.1 g.toNat (by omega)]
      exact congrArg (S 131) (by omega)
    · rw [hT.2 58 (by omega), s4.2.1 g.toNat (by omega)]
      exact congrArg (S 131) (by omega)
theorem k_forces : K_forces Inv := by
  intro g c cg cc S hI
  obtain ⟨i0, hC, hS, _⟩ := id hI
  obtain ⟨_, hB, _⟩ := id hC
  have h1 := hB.1
  have h3 := hB.2.2.1
  unfold fX11_forces fX12_forces
  rw [has_g hC, bnd_s]
  by_cases a : 0 ≤ g ∧ g < S 131 3
  · rw [if_pos (decide_eq_true a), has_c hC, bnd_s]
    by_cases b : 0 ≤ c ∧ c < S 131 1
    · obtain ⟨S1, a1, a2, a3, a4⟩ := gbegin_ok (c := c) hC hS a
      obtain ⟨p0, p1⟩ := spotP_b hS.2 a.1 (show g < 3 by omega)
      obtain ⟨S2, b1, b2⟩ := fewest_ok hB hS.2.2.2.2 a p0 (by omega) a2 a3
      have f2 : ∀ z, (z < 30 ∨ 33 < z) ∧ (z < 54 ∨ 58 < z) → S2 z = S z := fun z hz => (b2.2 z (by omega)).trans (a4 z hz)
      have e131 : S2 131 = S 131 := f2 131 (by omega)
      obtain ⟨S3, d1⟩ := forced_ok (c := c) hB hS.2.2.2.2 a hS.2 e131
      have f3 : ∀ z, (z < 135 ∨ 136 < z) → S3 z = S2 z := fun z hz => w_fX12_forcedIn d1 hz
      rw [if_pos (decide_eq_true b), a1, bnd_s, b1, bnd_s]
      refine ⟨_, S2, S3, rfl, ?_, inv_q hI b2.1 (fun z hz => by unfold keepA at hz; exact f2 z (by omega)) (fun z hz => by unfold keepA at hz; exact f3 z (by omega))⟩
      rw [lt_ok, up_same (by rw [f2 130 (by omega)]; exact i0), is_g (by rw [e131]; exact hB), e131, bnd_s, if_pos (decide_eq_true a), is_c (by rw [e131]; exact hB), e131, bnd_s, if_pos (decide_eq_true b), d1, bnd_s]
    · rw [if_neg (by rw [decide_eq_true_eq]; exact b)]
      refine ⟨_, S, S, rfl, ?_, hI⟩
      rw [lt_ok, up_same i0, is_g hB, bnd_s, if_pos (decide_eq_true a), is_c hB, bnd_s, if_neg (by rw [decide_eq_true_eq]; exact b)]
  · rw [if_neg (by rw [decide_eq_true_eq]; exact a)]
    refine ⟨_, S, S, rfl, ?_, hI⟩
    rw [lt_ok, up_same i0, is_g hB, bnd_s, if_neg (by rw [decide_eq_true_eq]; exact a)]
theorem first_c {R : Nat → Int} {g c sp : Int} {t : Nat} (hB : townB R) (hb : 0 ≤ R 48 ∧ R 48 ≤ 9) (hg : 0 ≤ g ∧ g < R 3) (ht : t < 3) (p0 : 0 ≤ sp) (p1 : sp < 120) : ∀ (m n k : Nat) (S : SS), m + k = (R 2).toNat → m < n → gmS R g c 0 S → ∃ (S' : SS) (q1 : Nat) (q2 : Int), fX1_firstStreet_L26 ((t + 1 : Nat) : Int) sp n k S = some (q1, q2, S') ∧ (q1 = 0 ∨ q1 = 1) ∧ (if q1 = 0 then q2 else -1) = fsT (fun s => byF R g c (wP R g c t) t 0 s sp) m k ∧ (q1 = 0 → 0 ≤ q2) ∧ kp S S' := by
  have h2 := hB.2.1
  intro m
  induction m with
  | zero =>
    intro n k S hk hn hG
    obtain ⟨n, rfl⟩ := suc_of hn
    have e2 : S 2 6 = R 2 := by rw [hG.1.1.1.2.1, hG.2.1]
    unfold fX1_firstStreet_L26
    rw [e2, if_pos (by omega)]
    exact ⟨S, 1, 0, rfl, Or.inr rfl, rfl, by omega, kp_s hG⟩
  | succ m ih =>
    intro n k S hk hn hG
    obtain ⟨n, rfl⟩ := suc_of hn
    have e2 : S 2 6 = R 2 := by rw [hG.1.1.1.2.1, hG.2.1]
    obtain ⟨S1, a1, a2⟩ := (game_b (c := c) hB hb hg (by omega) (game_c hB hb hg t (by omega)) (show 3 * t + 3 ≤ 12 by omega) 0 sp S hG p0 p1).1 k (by omega)
    have a1' : gX1_winsBy k sp ((t + 1 : Nat) : Int) S = _ := a1
    unfold fX1_firstStreet_L26
    rw [e2, if_neg (by omega), a1', bnd_s]
    simp only
    by_cases z : byF R g c (wP R g c t) t 0 k sp = true
    · rw [if_pos z]
      refine ⟨S1, 0, k, rfl, Or.inl rfl, ?_, by omega, a2⟩
      rw [fsT_s, if_pos rfl, if_pos z]
    · rw [if_neg z, lt_ok, w32_k (by omega)]
      obtain ⟨S', q1, q2, b1, b0, b2, b4, b3⟩ := ih n (k + 1) S1 (by omega) (by omega) (gm_kp hG a2)
      refine ⟨S', q1, q2, b1, b0, ?_, b4, kp_t a2 b3⟩
      rw [fsT_s, if_neg z]
      exact b2
theorem first_m {R : Nat → Int} {g c : Int} {t : Nat} (hB : townB R) (hb : 0 ≤ R 48 ∧ R 48 ≤ 9) (hg : 0 ≤ g ∧ g < R 3) (hs : stBd R 34 (R 1)) (ht : t < 3) : ∀ (m n k : Nat) (S : SS), m + k = (R 2).toNat → m < n → S 131 = R → ∃ (S' : SS) (q1 : Nat) (q2 : Int), fX12_best_L43 g c ((t + 1 : Nat) : Int) n k S = some (q1, q2, S') ∧ (q1 = 0 ∨ q1 = 1) ∧ (if q1 = 0 then q2 else -1) = fsT (fun s => byF R g c (wP R g c t) t 0 s (spotP R g)) m k ∧ (q1 = 0 → 0 ≤ q2) := by
  have h1 := hB.1
  have h2 := hB.2.1
  have h3 := hB.2.2.1
  obtain ⟨p0, p1⟩ := spotP_b hs hg.1 (show g < 3 by omega)
  intro m
  induction m with
  | zero =>
    intro n k S hk hn hR
    obtain ⟨n, rfl⟩ := suc_of hn
    unfold fX12_best_L43
    rw [rdA_ok (by decide) (by decide), hR, if_pos (show R (2 : Int).toNat ≤ (k : Int) by show R 2 ≤ _; omega)]
    exact ⟨S, 1, 0, rfl, Or.inr rfl, rfl, by omega⟩
  | succ m ih =>
    intro n k S hk hn hR
    obtain ⟨n, rfl⟩ := suc_of hn
    obtain ⟨S1, a1, a2⟩ := gamem_b (c := c) hB hb hg (by omega) (game_m hB hb hg t (by omega)) (show 3 * t + 3 ≤ 12 by omega) 0 (spotP R g) k S (by omega) hR p0 (by omega)
    have a1' : gX12_childsBy g (spotP R g) 0 k c ((t + 1 : Nat) : Int) S = _ := a1
    have es : fX12_standOf g S = some (spotP R g) := by rw [standOf_ok (by rw [hR]; exact hs) (by rw [hR]; exact hB) hg.1 (by omega), hR]
    unfold fX12_best_L43
    rw [rdA_ok (by decide) (by decide), show S 131 (2 : Int).toNat = R 2 by rw [hR]; rfl, if_neg (by omega), es, bnd_s, a1', bnd_s]
    simp only
    by_cases z : byF R g c (wP R g c t) t 0 k (spotP R g) = true
    · rw [if_pos z]
      refine ⟨S1, 0, k, rfl, Or.inl rfl, ?_, by omega⟩
      rw [fsT_s, if_pos rfl, if_pos z]
    · rw [if_neg z, lt_ok, w32_k (by omega)]
      obtain ⟨S', q1, q2, b1, b0, b2, b4⟩ := ih n (k + 1) S1 (by omega) (by omega) a2
      refine ⟨S', q1, q2, b1, b0, ?_, b4⟩
      rw [fsT_s, if_neg z]
      exact b2
theorem k_best : K_best Inv := by
  intro g c cg cc S hI
  obtain ⟨i0, hC, hS, _⟩ := id hI
  obtain ⟨_, hB, _⟩ := id hC
  have h1 := hB.1
  have h2 := hB.2.1
  have h3 := hB.2.2.1
  unfold fX11_best fX12_best
  rw [has_g hC, bnd_s]
  by_cases a : 0 ≤ g ∧ g < S 131 3
  · rw [if_pos (decide_eq_true a), has_c hC, bnd_s]
    by_cases b : 0 ≤ c ∧ c < S 131 1
    · obtain ⟨S1, a1, a2, a3, a4⟩ := gbegin_ok (c := c) hC hS a
      obtain ⟨p0, p1⟩ := spotP_b hS.2 a.1 (show g < 3 by omega)
      obtain ⟨S2, b1, b2⟩ := fewest_ok hB hS.2.2.2.2 a p0 (by omega) a2 a3
      have f2 : ∀ z, (z < 30 ∨ 33 < z) ∧ (z < 54 ∨ 58 < z) → S2 z = S z := fun z hz => (b2.2 z (by omega)).trans (a4 z hz)
      have fin : ∀ (v : Int) (T T' : SS), fX1_firstStreet S1 = some (v, T) → kp S2 T → (∀ T1, T1 131 = S 131 → fX12_forcedIn g c T = some (forP (S 131) g c, T1) → ∃ T2, (if 1 ≤ forP (S 131) g c then Option.bind (fX12_best_L43 g c (forP (S 131) g c) FU 0 T1) fun q5 => if q5.1 = 0 then some (q5.2.1, q5.2.2) else some (99, q5.2.2) else some (-1, T1)) = some (v, T2) ∧ ∀ z, (z < 135 ∨ 136 < z) → T2 z = T1 z) → ∃ v S1' S2', (Option.bind (fX1_begin g c 7 S) fun q3 => Option.bind (fX1_firstStreet q3) fun q4 => some (q4.1, q4.2)) = some (v, S1') ∧ fX12_best g c S1' = some (v, S2') ∧ Inv S2' := by
        intro v T T' e1 e2 e3
        have fsT : ∀ z, (z < 30 ∨ 33 < z) ∧ (z < 54 ∨ 58 < z) → T z = S z := fun z hz => (e2.2 z (by omega)).trans (f2 z hz)
        have e131 : T 131 = S 131 := fsT 131 (by omega)
        obtain ⟨T1, d1⟩ := forced_ok (c := c) hB hS.2.2.2.2 a hS.2 e131
        have fd : ∀ z, (z < 135 ∨ 136 < z) → T1 z = T z := fun z hz => w_fX12_forcedIn d1 hz
        obtain ⟨T2, g1, g2⟩ := e3 T1 ((fd 131 (by omega)).trans e131) d1
        refine ⟨v, T, T2, by rw [a1, bnd_s, e1, bnd_s], ?_, inv_q hI e2.1 (fun z hz => by unfold keepA at hz; exact fsT z (by omega)) (fun z hz => by unfold keepA at hz; exact (g2 z (by omega)).trans (fd z (by omega)))⟩
        unfold fX12_best
        rw [lt_ok, up_same (by rw [fsT 130 (by omega)]; exact i0), is_g (by rw [e131]; exact hB), e131, bnd_s, if_pos (decide_eq_true a), is_c (by rw [e131]; exact hB), e131, bnd_s, if_pos (decide_eq_true b), d1, bnd_s]
        exact g1
      rw [if_pos (decide_eq_true b)]
      by_cases v1 : 1 ≤ forP (S 131) g c
      · obtain ⟨t0, _⟩ | ⟨t', t1, t2, t3, t4⟩ := fsT_p (w := fun t => wP (S 131) g c t 0 (spotP (S 131) g)) 4 0
        · unfold forP at v1; omega
        · have ef : forP (S 131) g c = (t' : Int) := t1
          obtain ⟨t, rfl⟩ : ∃ t, t' = t + 1 := ⟨t' - 1, by omega⟩
          obtain ⟨S3, q1, q2, c1, c0, c2, c5, c3⟩ := first_c (c := c) hB hS.2.2.2.2 a (show t < 3 by omega) p0 (by omega) (S 131 2).toNat FU 0 S2 (by omega) (by unfold FU; omega) (gm_kp a2 b2)
          have c1' : fX1_firstStreet_L26 ((t + 1 : Nat) : Int) (spotP (S 131) g) FU 0 S2 = some (q1, q2, S3) := c1
          have hsp : fX6_spotOf 55 (S2 54 2) S2 = some (spotP (S 131) g) := by rw [(gm_kp a2 b2).2.2.1]; exact a3 S2 b2
          have mod : ∀ (T1 : SS), T1 131 = S 131 → ∃ T2, (if 1 ≤ forP (S 131) g c then Option.bind (fX12_best_L43 g c (forP (S 131) g c) FU 0 T1) fun q5 => if q5.1 = 0 then some (q5.2.1, q5.2.2) else some (99, q5.2.2) else some (-1, T1)) = some (if q1 = 0 then q2 else 99, T2) ∧ ∀ z, (z < 135 ∨ 136 < z) → T2 z = T1 z := by
            intro T1 hT1
            obtain ⟨T2, u1, u2, m1, m0, m2, m3⟩ := first_m (c := c) hB hS.2.2.2.2 a hS.2 (show t < 3 by omega) (S 131 2).toNat FU 0 T1 (by omega) (by unfold FU; omega) hT1
            have m1' : fX12_best_L43 g c ((t + 1 : Nat) : Int) FU 0 T1 = some (u1, u2, T2) := m1
            refine ⟨T2, ?_, fun z hz => w_fX12_best_L43 hz _ _ _ _ m1⟩
            rw [if_pos v1, ef, m1', bnd_s]
            simp only
            rw [← c2] at m2
            obtain z0 | z1 := c0
            · rw [if_pos z0] at m2 ⊢
              have := c5 z0
              by_cases y : u1 = 0
              · rw [if_pos y] at m2 ⊢; rw [m2]
              · rw [if_neg y] at m2; omega
            · rw [if_neg (show ¬ q1 = 0 by omega)] at m2 ⊢
              by_cases y : u1 = 0
              · have := m3 y
                rw [if_pos y] at m2; omega
              · rw [if_neg y]
          obtain z0 | z1 := c0
          · rw [if_pos z0] at mod
            refine fin q2 S3 S3 ?_ c3 (fun T1 h _ => mod T1 h)
            unfold fX1_firstStreet
            rw [b1, bnd_s]
            simp only
            rw [if_pos v1, hsp, bnd_s, ef, c1', bnd_s]
            simp only
            rw [if_pos z0]
          · rw [if_neg (by omega)] at mod c2
            obtain ⟨S4, d1, d2⟩ := (game_b (c := c) hB hS.2.2.2.2 a (by omega) (game_c hB hS.2.2.2.2 a t (by omega)) (show 3 * t + 3 ≤ 12 by omega) 0 (spotP (S 131) g) S3 (gm_kp (gm_kp a2 b2) c3) p0 (by omega)).2
            have d1' : gX1_winsBy 99 (spotP (S 131) g) ((t + 1 : Nat) : Int) S3 = _ := d1
            have vt : vF (S 131) c (wP (S 131) g c t) t 0 (spotP (S 131) g) = true := by
              by_cases e : spotP (S 131) g / 20 = c
              · unfold vF; rw [if_pos e]
              · have t4' : wP (S 131) g c (t + 1) 0 (spotP (S 131) g) = true := t4
                unfold wP at t4'
                obtain ⟨_, x2⟩ | ⟨x, x1, _⟩ := fsT_p (w := fun s => byF (S 131) g c (wP (S 131) g c t) t 0 s (spotP (S 131) g)) (S 131 2).toNat 0
                · rw [if_neg e, x2, Bool.false_or] at t4'
                  exact t4'
                · omega
            refine fin 99 S4 S4 ?_ (kp_t c3 d2) (fun T1 h _ => mod T1 h)
            unfold fX1_firstStreet
            rw [b1, bnd_s]
            simp only
            rw [if_pos v1, hsp, bnd_s, ef, c1', bnd_s]
            simp only
            rw [if_neg (by omega), d1', bnd_s]
            simp only
            rw [if_pos vt]
      · refine fin (-1) S2 S2 ?_ (kp_s (gm_kp a2 b2)) (fun T1 h _ => ⟨T1, by rw [if_neg v1], fun _ _ => rfl⟩)
        unfold fX1_firstStreet
        rw [b1, bnd_s]
        simp only
        rw [if_neg v1]
    · rw [if_neg (by rw [decide_eq_true_eq]; exact b)]
      refine ⟨_, S, S, rfl, ?_, hI⟩
      rw [lt_ok, up_same i0, is_g hB, bnd_s, if_pos (decide_eq_true a), is_c hB, bnd_s, if_neg (by rw [decide_eq_true_eq]; exact b)]
  · rw [if_neg (by rw [decide_eq_true_eq]; exact a)]
    refine ⟨_, S, S, rfl, ?_, hI⟩
    rw [lt_ok, up_same i0, is_g hB, bnd_s, if_neg (by rw [decide_eq_true_eq]; exact a)]
