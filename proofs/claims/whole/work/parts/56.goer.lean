/-! rows filled with one number -/
theorem fill_53178_8_L {a : Nat} {v : Int} : ∀ (m n k : Nat) (S : SS), m + k = 8 → m < n → ∃ S', fJ7_fill_53178_8_L5 a v 8 n k S = some S' ∧ ∀ j, j < 8 → S' a j = if k ≤ j then v else S a j := by
  intro m
  induction m with
  | zero =>
    intro n k S hk hn
    obtain ⟨n, rfl⟩ := suc_of hn
    unfold fJ7_fill_53178_8_L5
    rw [if_pos (by omega)]
    exact ⟨S, rfl, fun j hj => by rw [if_neg (by omega)]⟩
  | succ m ih =>
    intro n k S hk hn
    obtain ⟨n, rfl⟩ := suc_of hn
    unfold fJ7_fill_53178_8_L5
    rw [if_neg (by omega), wrA_ok (by omega) (by omega), Int.toNat_natCast, w32_k (by omega), lt_ok]
    obtain ⟨S', e1, e2⟩ := ih n (k + 1) (up S a k v) (by omega) (by omega)
    refine ⟨S', e1, fun j hj => ?_⟩
    rw [e2 j hj, up_at]
    by_cases c : j = k
    · rw [if_neg (by omega), if_pos c, if_pos (by omega)]
    · by_cases c2 : k ≤ j
      · rw [if_pos (by omega), if_pos c2]
      · rw [if_neg (by omega), if_neg c, if_neg c2]
theorem fill_53178_8 {a : Nat} {v : Int} {S : SS} : ∃ S', fJ7_fill_53178_8 a v S = some S' ∧ (∀ j, j < 8 → S' a j = v) ∧ ∀ b, b ≠ a → S' b = S b := by
  obtain ⟨S', e1, e2⟩ := @fill_53178_8_L a v 8 FU 0 S (by omega) (by decide)
  have e : fJ7_fill_53178_8_L5 a v 8 FU 0 S = some S' := e1
  have e0 : fJ7_fill_53178_8 a v S = some S' := by unfold fJ7_fill_53178_8; rw [e, bnd_s]
  exact ⟨S', e0, fun j hj => by rw [e2 j hj, if_pos (Nat.zero_le j)], fun b hb => w_fJ7_fill_53178_8 e0 hb⟩
theorem fill_53178_3_L {a : Nat} {v : Int} : ∀ (m n k : Nat) (S : SS), m + k = 3 → m < n → ∃ S', fJ7_fill_53178_3_L5 a v 3 n k S = some S' ∧ ∀ j, j < 3 → S' a j = if k ≤ j then v else S a j := by
  intro m
  induction m with
  | zero =>
    intro n k S hk hn
    obtain ⟨n, rfl⟩ := suc_of hn
    unfold fJ7_fill_53178_3_L5
    rw [if_pos (by omega)]
    exact ⟨S, rfl, fun j hj => by rw [if_neg (by omega)]⟩
  | succ m ih =>
    intro n k S hk hn
    obtain ⟨n, rfl⟩ := suc_of hn
    unfold fJ7_fill_53178_3_L5
    rw [if_neg (by omega), wrA_ok (by omega) (by omega), Int.toNat_natCast, w32_k (by omega), lt_ok]
    obtain ⟨S', e1, e2⟩ := ih n (k + 1) (up S a k v) (by omega) (by omega)
    refine ⟨S', e1, fun j hj => ?_⟩
    rw [e2 j hj, up_at]
    by_cases c : j = k
    · rw [if_neg (by omega), if_pos c, if_pos (by omega)]
    · by_cases c2 : k ≤ j
      · rw [if_pos (by omega), if_pos c2]
      · rw [if_neg (by omega), if_neg c, if_neg c2]
theorem fill_53178_3 {a : Nat} {v : Int} {S : SS} : ∃ S', fJ7_fill_53178_3 a v S = some S' ∧ (∀ j, j < 3 → S' a j = v) ∧ ∀ b, b ≠ a → S' b = S b := by
  obtain ⟨S', e1, e2⟩ := @fill_53178_3_L a v 3 FU 0 S (by omega) (by decide)
  have e : fJ7_fill_53178_3_L5 a v 3 FU 0 S = some S' := e1
  have e0 : fJ7_fill_53178_3 a v S = some S' := by unfold fJ7_fill_53178_3; rw [e, bnd_s]
  exact ⟨S', e0, fun j hj => by rw [e2 j hj, if_pos (Nat.zero_le j)], fun b hb => w_fJ7_fill_53178_3 e0 hb⟩
theorem fill_53178_960_L {a : Nat} {v : Int} : ∀ (m n k : Nat) (S : SS), m + k = 960 → m < n → ∃ S', fJ7_fill_53178_960_L5 a v 960 n k S = some S' ∧ ∀ j, j < 960 → S' a j = if k ≤ j then v else S a j := by
  intro m
  induction m with
  | zero =>
    intro n k S hk hn
    obtain ⟨n, rfl⟩ := suc_of hn
    unfold fJ7_fill_53178_960_L5
    rw [if_pos (by omega)]
    exact ⟨S, rfl, fun j hj => by rw [if_neg (by omega)]⟩
  | succ m ih =>
    intro n k S hk hn
    obtain ⟨n, rfl⟩ := suc_of hn
    unfold fJ7_fill_53178_960_L5
    rw [if_neg (by omega), wrA_ok (by omega) (by omega), Int.toNat_natCast, w32_k (by omega), lt_ok]
    obtain ⟨S', e1, e2⟩ := ih n (k + 1) (up S a k v) (by omega) (by omega)
    refine ⟨S', e1, fun j hj => ?_⟩
    rw [e2 j hj, up_at]
    by_cases c : j = k
    · rw [if_neg (by omega), if_pos c, if_pos (by omega)]
    · by_cases c2 : k ≤ j
      · rw [if_pos (by omega), if_pos c2]
      · rw [if_neg (by omega), if_neg c, if_neg c2]
theorem fill_53178_960 {a : Nat} {v : Int} {S : SS} : ∃ S', fJ7_fill_53178_960 a v S = some S' ∧ (∀ j, j < 960 → S' a j = v) ∧ ∀ b, b ≠ a → S' b = S b := by
  obtain ⟨S', e1, e2⟩ := @fill_53178_960_L a v 960 FU 0 S (by omega) (by decide)
  have e : fJ7_fill_53178_960_L5 a v 960 FU 0 S = some S' := e1
  have e0 : fJ7_fill_53178_960 a v S = some S' := by unfold fJ7_fill_53178_960; rw [e, bnd_s]
  exact ⟨S', e0, fun j hj => by rw [e2 j hj, if_pos (Nat.zero_le j)], fun b hb => w_fJ7_fill_53178_960 e0 hb⟩
theorem fill_53178_120_L {a : Nat} {v : Int} : ∀ (m n k : Nat) (S : SS), m + k = 120 → m < n → ∃ S', fJ7_fill_53178_120_L5 a v 120 n k S = some S' ∧ ∀ j, j < 120 → S' a j = if k ≤ j then v else S a j := by
  intro m
  induction m with
  | zero =>
    intro n k S hk hn
    obtain ⟨n, rfl⟩ := suc_of hn
    unfold fJ7_fill_53178_120_L5
    rw [if_pos (by omega)]
    exact ⟨S, rfl, fun j hj => by rw [if_neg (by omega)]⟩
  | succ m ih =>
    intro n k S hk hn
    obtain ⟨n, rfl⟩ := suc_of hn
    unfold fJ7_fill_53178_120_L5
    rw [if_neg (by omega), wrA_ok (by omega) (by omega), Int.toNat_natCast, w32_k (by omega), lt_ok]
    obtain ⟨S', e1, e2⟩ := ih n (k + 1) (up S a k v) (by omega) (by omega)
    refine ⟨S', e1, fun j hj => ?_⟩
    rw [e2 j hj, up_at]
    by_cases c : j = k
    · rw [if_neg (by omega), if_pos c, if_pos (by omega)]
    · by_cases c2 : k ≤ j
      · rw [if_pos (by omega), if_pos c2]
      · rw [if_neg (by omega), if_neg c, if_neg c2]
theorem fill_53178_120 {a : Nat} {v : Int} {S : SS} : ∃ S', fJ7_fill_53178_120 a v S = some S' ∧ (∀ j, j < 120 → S' a j = v) ∧ ∀ b, b ≠ a → S' b = S b := by
  obtain ⟨S', e1, e2⟩ := @fill_53178_120_L a v 120 FU 0 S (by omega) (by decide)
  have e : fJ7_fill_53178_120_L5 a v 120 FU 0 S = some S' := e1
  have e0 : fJ7_fill_53178_120 a v S = some S' := by unfold fJ7_fill_53178_120; rw [e, bnd_s]
  exact ⟨S', e0, fun j hj => by rw [e2 j hj, if_pos (Nat.zero_le j)], fun b hb => w_fJ7_fill_53178_120 e0 hb⟩
theorem fill_d0a16_120_L {a : Nat} {v : Int} : ∀ (m n k : Nat) (S : SS), m + k = 120 → m < n → ∃ S', fJ7_fill_d0a16_120_L6 a v 120 n k S = some S' ∧ ∀ j, j < 120 → S' a j = if k ≤ j then v else S a j := by
  intro m
  induction m with
  | zero =>
    intro n k S hk hn
    obtain ⟨n, rfl⟩ := suc_of hn
    unfold fJ7_fill_d0a16_120_L6
    rw [if_pos (by omega)]
    exact ⟨S, rfl, fun j hj => by rw [if_neg (by omega)]⟩
  | succ m ih =>
    intro n k S hk hn
    obtain ⟨n, rfl⟩ := suc_of hn
    unfold fJ7_fill_d0a16_120_L6
    rw [if_neg (by omega), wrA_ok (by omega) (by omega), Int.toNat_natCast, w32_k (by omega), lt_ok]
    obtain ⟨S', e1, e2⟩ := ih n (k + 1) (up S a k v) (by omega) (by omega)
    refine ⟨S', e1, fun j hj => ?_⟩
    rw [e2 j hj, up_at]
    by_cases c : j = k
    · rw [if_neg (by omega), if_pos c, if_pos (by omega)]
    · by_cases c2 : k ≤ j
      · rw [if_pos (by omega), if_pos c2]
      · rw [if_neg (by omega), if_neg c, if_neg c2]
theorem fill_d0a16_120 {a : Nat} {v : Int} {S : SS} : ∃ S', fJ7_fill_d0a16_120 a v S = some S' ∧ (∀ j, j < 120 → S' a j = v) ∧ ∀ b, b ≠ a → S' b = S b := by
  obtain ⟨S', e1, e2⟩ := @fill_d0a16_120_L a v 120 FU 0 S (by omega) (by decide)
  have e : fJ7_fill_d0a16_120_L6 a v 120 FU 0 S = some S' := e1
  have e0 : fJ7_fill_d0a16_120 a v S = some S' := by unfold fJ7_fill_d0a16_120; rw [e, bnd_s]
  exact ⟨S', e0, fun j hj => by rw [e2 j hj, if_pos (Nat.zero_le j)], fun b hb => w_fJ7_fill_d0a16_120 e0 hb⟩
theorem fill_53178_20_L {a : Nat} {v : Int} : ∀ (m n k : Nat) (S : SS), m + k = 20 → m < n → ∃ S', fJ7_fill_53178_20_L5 a v 20 n k S = some S' ∧ ∀ j, j < 20 → S' a j = if k ≤ j then v else S a j := by
  intro m
  induction m with
  | zero =>
    intro n k S hk hn
    obtain ⟨n, rfl⟩ := suc_of hn
    unfold fJ7_fill_53178_20_L5
    rw [if_pos (by omega)]
    exact ⟨S, rfl, fun j hj => by rw [if_neg (by omega)]⟩
  | succ m ih =>
    intro n k S hk hn
    obtain ⟨n, rfl⟩ := suc_of hn
    unfold fJ7_fill_53178_20_L5
    rw [if_neg (by omega), wrA_ok (by omega) (by omega), Int.toNat_natCast, w32_k (by omega), lt_ok]
    obtain ⟨S', e1, e2⟩ := ih n (k + 1) (up S a k v) (by omega) (by omega)
    refine ⟨S', e1, fun j hj => ?_⟩
    rw [e2 j hj, up_at]
    by_cases c : j = k
    · rw [if_neg (by omega), if_pos c, if_pos (by omega)]
    · by_cases c2 : k ≤ j
      · rw [if_pos (by omega), if_pos c2]
      · rw [if_neg (by omega), if_neg c, if_neg c2]
theorem fill_53178_20 {a : Nat} {v : Int} {S : SS} : ∃ S', fJ7_fill_53178_20 a v S = some S' ∧ (∀ j, j < 20 → S' a j = v) ∧ ∀ b, b ≠ a → S' b = S b := by
  obtain ⟨S', e1, e2⟩ := @fill_53178_20_L a v 20 FU 0 S (by omega) (by decide)
  have e : fJ7_fill_53178_20_L5 a v 20 FU 0 S = some S' := e1
  have e0 : fJ7_fill_53178_20 a v S = some S' := by unfold fJ7_fill_53178_20; rw [e, bnd_s]
  exact ⟨S', e0, fun j hj => by rw [e2 j hj, if_pos (Nat.zero_le j)], fun b hb => w_fJ7_fill_53178_20 e0 hb⟩
theorem fill_d0a16_40_L {a : Nat} {v : Int} : ∀ (m n k : Nat) (S : SS), m + k = 40 → m < n → ∃ S', fJ7_fill_d0a16_40_L6 a v 40 n k S = some S' ∧ ∀ j, j < 40 → S' a j = if k ≤ j then v else S a j := by
  intro m
  induction m with
  | zero =>
    intro n k S hk hn
    obtain ⟨n, rfl⟩ := suc_of hn
    unfold fJ7_fill_d0a16_40_L6
    rw [if_pos (by omega)]
    exact ⟨S, rfl, fun j hj => by rw [if_neg (by omega)]⟩
  | succ m ih =>
    intro n k S hk hn
    obtain ⟨n, rfl⟩ := suc_of hn
    unfold fJ7_fill_d0a16_40_L6
    rw [if_neg (by omega), wrA_ok (by omega) (by omega), Int.toNat_natCast, w32_k (by omega), lt_ok]
    obtain ⟨S', e1, e2⟩ := ih n (k + 1) (up S a k v) (by omega) (by omega)
    refine ⟨S', e1, fun j hj => ?_⟩
    rw [e2 j hj, up_at]
    by_cases c : j = k
    · rw [if_neg (by omega), if_pos c, if_pos (by omega)]
    · by_cases c2 : k ≤ j
      · rw [if_pos (by omega), if_pos c2]
      · rw [if_neg (by omega), if_neg c, if_neg c2]
theorem fill_d0a16_40 {a : Nat} {v : Int} {S : SS} : ∃ S', fJ7_fill_d0a16_40 a v S = some S' ∧ (∀ j, j < 40 → S' a j = v) ∧ ∀ b, b ≠ a → S' b = S b := by
  obtain ⟨S', e1, e2⟩ := @fill_d0a16_40_L a v 40 FU 0 S (by omega) (by decide)
  have e : fJ7_fill_d0a16_40_L6 a v 40 FU 0 S = some S' := e1
  have e0 : fJ7_fill_d0a16_40 a v S = some S' := by unfold fJ7_fill_d0a16_40; rw [e, bnd_s]
  exact ⟨S', e0, fun j hj => by rw [e2 j hj, if_pos (Nat.zero_le j)], fun b hb => w_fJ7_fill_d0a16_40 e0 hb⟩
/-! goer -/
theorem so_loop {g : Int} : ∀ (m n k : Nat) (S : SS), Core S → Stand S → m + k = (S 131 2).toNat → m < n → ∃ S', fX11_streetsOpenTo_L4 g n (orb (fun s => decide (0 ≤ goP (S 131) g s)) k) k S = some (orb (fun s => decide (0 ≤ goP (S 131) g s)) (S 131 2).toNat, S') ∧ lanes S' := by
  intro m
  induction m with
  | zero =>
    intro n k S hC hS hk hn
    obtain ⟨n, rfl⟩ := suc_of hn
    have ek : k = (S 131 2).toNat := by omega
    have h2 := hC.2.1.2.1
    unfold fX11_streetsOpenTo_L4
    rw [hC.1.1.2.1, if_pos (by omega), ek]
    exact ⟨S, rfl, hC.2.2⟩
  | succ m ih =>
    intro n k S hC hS hk hn
    obtain ⟨n, rfl⟩ := suc_of hn
    have h2 := hC.2.1.2.1
    obtain ⟨x, S1, e1, e2, e3⟩ := go_ok (g := g) (s := (k : Int)) hC hS
    have f1 : ∀ a, (a < 31 ∨ 33 < a) → S1 a = S a := fun a ha => w_fX5_after e2 ha
    have e131 : S1 131 = S 131 := f1 131 (by omega)
    have C1 : Core S1 := core_fr (fun a ha => f1 a (by omega)) e3 hC
    have T1 : Stand S1 := stand_fr (f1 _ (by omega)) (f1 _ (by omega)) (f1 _ (by omega)) (f1 _ (by omega)) e131 hS
    obtain ⟨S', q1, q2⟩ := ih n (k + 1) S1 C1 T1 (by rw [e131]; omega) (by omega)
    rw [e131] at q1
    have eb : (if goP (S 131) g k < 0 then some (orb (fun s => decide (0 ≤ goP (S 131) g s)) k) else (lt (jor (orb (fun s => decide (0 ≤ goP (S 131) g s)) k) (jshl 1 k)) fun x4 => some x4) : Option Int) = some (orb (fun s => decide (0 ≤ goP (S 131) g s)) (k + 1)) := by
      show _ = some (if decide (0 ≤ goP (S 131) g k) = true then _ else _)
      by_cases c : goP (S 131) g k < 0
      · rw [if_pos c, if_neg (by rw [decide_eq_true_eq]; omega)]
      · rw [if_neg c, if_pos (decide_eq_true (by omega))]; rfl
    unfold fX11_streetsOpenTo_L4
    rw [hC.1.1.2.1, if_neg (by omega), e1, bnd_s, e2, bnd_s, w32_k (by omega)]
    simp only
    rw [eb, bnd_s, lt_ok]
    exact ⟨S', q1, q2⟩
theorem mgo_loop {g : Int} (cg : cI g) : ∀ (m n k : Nat) (S : SS), townB (S 131) → stBd (S 131) 34 (S 131 1) → m + k = (S 131 2).toNat → m < n → ∃ S', fX12_goer_L63 g n (orb (fun s => decide (0 ≤ goP (S 131) g s)) k) k S = some (orb (fun s => decide (0 ≤ goP (S 131) g s)) (S 131 2).toNat, S') := by
  intro m
  induction m with
  | zero =>
    intro n k S hB hS hk hn
    obtain ⟨n, rfl⟩ := suc_of hn
    have ek : k = (S 131 2).toNat := by omega
    have h2 := hB.2.1
    unfold fX12_goer_L63
    rw [rdA_ok (by decide) (by decide), if_pos (by show S 131 2 ≤ k; omega), ek]
    exact ⟨S, rfl⟩
  | succ m ih =>
    intro n k S hB hS hk hn
    obtain ⟨n, rfl⟩ := suc_of hn
    have h2 := hB.2.1
    obtain ⟨S1, q⟩ := whyGo_ok (S := S) (g := g) (s := (k : Int)) hB hS cg (by unfold cI; omega)
    have f1 : ∀ a, (a < 135 ∨ 136 < a) → S1 a = S a := fun a ha => w_fX12_whyGo q ha
    have e131 : S1 131 = S 131 := f1 131 (by omega)
    obtain ⟨S', q1⟩ := ih n (k + 1) S1 (by rw [e131]; exact hB) (by rw [e131]; exact hS) (by rw [e131]; omega) (by omega)
    rw [e131] at q1
    have gb := @goP_b S hB g k
    have eb : (if (if goP (S 131) g k < 0 then - goP (S 131) g k else 0) = 0 then some (jshl 1 k) else some 0 : Option Int) = some (if decide (0 ≤ goP (S 131) g k) = true then jshl 1 k else 0) := by
      by_cases c : goP (S 131) g k < 0
      · rw [if_pos c, if_neg (by omega), if_neg (by rw [decide_eq_true_eq]; omega)]
      · rw [if_neg c, if_pos rfl, if_pos (decide_eq_true (by omega))]
    unfold fX12_goer_L63
    rw [rdA_ok (by decide) (by decide), if_neg (by show ¬ S 131 2 ≤ k; omega), q, bnd_s, w32_k (by omega)]
    simp only
    rw [eb, bnd_s, lt_ok, lt_ok]
    have j := @jor_if (fun s => decide (0 ≤ goP (S 131) g s)) k
    rw [j]
    exact ⟨S', q1⟩
theorem k_goer : K_goer Inv := by
  intro g w cg cw S hI
  obtain ⟨i0, hC, hS, _⟩ := id hI
  obtain ⟨hR, hB, hL⟩ := id hC
  have h2 := hB.2.1
  have h3 := hB.2.2.1
  have hno : ¬ ((0 ≤ g ∧ g < S 131 3) ∧ (0 ≤ w ∧ w ≤ 2)) → fX11_goer g w S = some (-2, S) ∧ fX12_goer g w S = some (-2, S) := by
    intro hn
    unfold fX11_goer fX12_goer
    rw [hasGoer_ok (by rw [hR.1.2.2.1]; exact h3.2), hR.1.2.2.1, bnd_s, lt_ok, up_same i0, isGoer_ok h3.1 h3.2, bnd_s]
    by_cases a : 0 ≤ g ∧ g < S 131 3
    · rw [if_pos (decide_eq_true a), if_pos (decide_eq_true a), if_neg (by omega), if_neg (by omega), if_neg (by omega), within_ok, bnd_s, if_neg (by rw [decide_eq_true_eq]; omega)]
      exact ⟨rfl, rfl⟩
    · rw [if_neg (by rw [decide_eq_true_eq]; exact a), if_neg (by rw [decide_eq_true_eq]; exact a)]
      exact ⟨rfl, rfl⟩
  by_cases c : (0 ≤ g ∧ g < S 131 3) ∧ (0 ≤ w ∧ w ≤ 2)
  · obtain ⟨a, b⟩ := id c
    obtain ⟨t1, t2, _, _⟩ := now_c hS a.1 (show g < 3 by omega)
    have q1 : fX11_goer g w S = (if w = 0 then some (S 131 (34 + g).toNat, S) else if w = 1 then some (S 131 (37 + g).toNat, S) else (Option.bind (fX11_streetsOpenTo g S) fun q7 => some (q7.1, q7.2))) := by
      unfold fX11_goer
      rw [hasGoer_ok (by rw [hR.1.2.2.1]; exact h3.2), hR.1.2.2.1, bnd_s, if_pos (decide_eq_true a), cornerOf_V a.1 (by omega) (stV_of hS.1), yearOf_V a.1 (by omega) (stV_of hS.1), bnd_s, bnd_s]
      have x1 : sft (S 131) 34 g.toNat = S 131 (34 + g).toNat := congrArg (S 131) (by omega)
      have x2 : sft (S 131) 34 (3 + g.toNat) = S 131 (37 + g).toNat := congrArg (S 131) (by omega)
      rw [x1, x2]
      by_cases c0 : w = 0
      · rw [if_pos c0, if_pos c0]
      · rw [if_neg c0, if_neg c0]
        by_cases c1 : w = 1
        · rw [if_pos c1, if_pos c1]
        · rw [if_neg c1, if_neg c1, if_pos (by omega)]
    have q2 : ∀ S1 : SS, S1 130 0 = 0 → S1 131 = S 131 → fX12_goer g w S1 = (if w = 0 then some (S 131 (34 + g).toNat, S1) else if w = 1 then some (S 131 (37 + g).toNat, S1) else (Option.bind (fX12_goer_L63 g FU 0 0 S1) fun q8 => some (q8.1, q8.2))) := by
      intro S1 z e131
      unfold fX12_goer
      rw [lt_ok, up_same z, isGoer_ok (by rw [e131]; exact h3.1) (by rw [e131]; exact h3.2), e131, bnd_s, if_pos (decide_eq_true a), within_ok, bnd_s, if_pos (decide_eq_true b), w32_eq (x := 34 + g) (by omega) (by omega), w32_eq (x := 37 + g) (by omega) (by omega), rdA_ok (by omega) (by omega), rdA_ok (by omega) (by omega), e131]
    by_cases c0 : w = 0
    · exact ⟨_, S, S, by rw [q1, if_pos c0], by rw [q2 S i0 rfl, if_pos c0], hI⟩
    by_cases c1 : w = 1
    · exact ⟨_, S, S, by rw [q1, if_neg c0, if_pos c1], by rw [q2 S i0 rfl, if_neg c0, if_pos c1], hI⟩
    obtain ⟨S1, l1, l2⟩ := so_loop (g := g) (S 131 2).toNat FU 0 S hC hS (by omega) (by unfold FU; omega)
    have l1' : fX11_streetsOpenTo_L4 g FU 0 0 S = some (orb (fun s => decide (0 ≤ goP (S 131) g s)) (S 131 2).toNat, S1) := l1
    have l3 : fX11_streetsOpenTo g S = some (orb (fun s => decide (0 ≤ goP (S 131) g s)) (S 131 2).toNat, S1) := by
      unfold fX11_streetsOpenTo; rw [l1', bnd_s]
    have f1 : ∀ a, (a < 31 ∨ 33 < a) → S1 a = S a := fun a ha => w_fX11_streetsOpenTo l3 ha
    have e131 : S1 131 = S 131 := f1 131 (by omega)
    obtain ⟨S2, m1⟩ := mgo_loop (g := g) cg (S 131 2).toNat FU 0 S1 (by rw [e131]; exact hB) (by rw [e131]; exact hS.2) (by rw [e131]; omega) (by unfold FU; omega)
    rw [e131] at m1
    have m1' : fX12_goer_L63 g FU 0 0 S1 = some (orb (fun s => decide (0 ≤ goP (S 131) g s)) (S 131 2).toNat, S2) := m1
    have f2 : ∀ a, (a < 135 ∨ 136 < a) → S2 a = S1 a := fun a ha => w_fX12_goer_L63 ha _ _ _ _ _ m1
    refine ⟨_, S1, S2, by rw [q1, if_neg c0, if_neg c1, l3, bnd_s], ?_, inv_q hI l2 (fun a ha => by unfold keepA at ha; exact f1 a (by omega)) (fun a ha => by unfold keepA at ha; exact f2 a (by omega))⟩
    rw [q2 S1 (by rw [f1 130 (by omega)]; exact i0) e131, if_neg c0, if_neg c1, m1', bnd_s]
  · obtain ⟨m1, m2⟩ := hno c
    exact ⟨_, S, S, m1, m2, hI⟩
