/-! the history: kept standings, and the reference's row of them -/
theorem up_at {S : SS} {a i j : Nat} {v : Int} : up S a j v a i = if i = j then v else S a i := by
  unfold up
  by_cases c : i = j
  · rw [if_pos ⟨rfl, c⟩, if_pos c]
  · rw [if_neg (fun h => c h.2), if_neg c]
theorem cpy_at {S : SS} {a b : Nat} {n : Int} {x : Nat} (h : (x : Int) < n) : cpy S a 0 b 0 n b x = S a x := by
  unfold cpy
  rw [if_pos ⟨rfl, by simp, by simp; omega⟩]
  congr 1
  simp
theorem copySt {S : SS} {t p : Nat} (h : t + 4 ≤ p ∨ p + 4 ≤ t) : ∃ S', fX6_copyOf t p S = some S' ∧ ∀ Q o, stEq S p Q o → stEq S' t Q o := by
  unfold fX6_copyOf
  rw [acp_ok (by omega), acp_ok (by omega), acp_ok (by omega), lt_ok]
  refine ⟨_, rfl, fun Q o hq => ⟨fun i hi => ?_, fun i hi => ?_, fun i hi => ?_, ?_⟩⟩
  · rw [up_row (by omega), cpy_row (by omega), cpy_at (by omega), cpy_row (by omega)]; exact hq.1 i hi
  · rw [up_row (by omega), cpy_at (by omega), cpy_row (by omega), cpy_row (by omega)]; exact hq.2.1 i hi
  · rw [up_row (by omega), cpy_row (by omega), cpy_row (by omega), cpy_at (by omega)]; exact hq.2.2.1 i hi
  · rw [up_self, cpy_row (by omega), cpy_row (by omega), cpy_row (by omega)]; exact hq.2.2.2
theorem keeps_L : ∀ (m n k : Nat) (S : SS), m + k = 15 → m < n → ∃ S', fX12_keeps_L2 n k S = some S' ∧ (∀ j, k ≤ j → j < 15 → S' 137 j = S 131 (34 + j)) ∧ (∀ j, j < k → S' 137 j = S 137 j) := by
  intro m
  induction m with
  | zero =>
    intro n k S hk hn
    obtain ⟨n, rfl⟩ := suc_of hn
    unfold fX12_keeps_L2
    rw [if_pos (by omega)]
    exact ⟨S, rfl, fun j _ _ => by omega, fun j _ => rfl⟩
  | succ m ih =>
    intro n k S hk hn
    obtain ⟨n, rfl⟩ := suc_of hn
    unfold fX12_keeps_L2
    have ek : (34 + (k : Int)).toNat = 34 + k := by omega
    rw [if_neg (by omega), w32_eq (x := 34 + (k : Int)) (by omega) (by omega), rdA_ok (by omega) (by omega), ek, wrA_ok (by omega) (by omega), Int.toNat_natCast, w32_k (by omega), lt_ok]
    obtain ⟨S', e1, e2, e3⟩ := ih n (k + 1) (up S 137 k (S 131 (34 + k))) (by omega) (by omega)
    refine ⟨S', e1, fun j h1 h2 => ?_, fun j h1 => ?_⟩
    · by_cases c : j = k
      · rw [e3 j (by omega), up_at, if_pos c, c]
      · rw [e2 j (by omega) h2, up_row (by decide)]
    · rw [e3 j (by omega), up_at, if_neg (by omega)]
theorem keeps_ok {S : SS} : ∃ S', fX12_keeps S = some S' ∧ (∀ j, j < 15 → S' 137 j = S 131 (34 + j)) ∧ ∀ a, a ≠ 137 → S' a = S a := by
  obtain ⟨S', e1, e2, _⟩ := keeps_L 15 FU 0 S (by omega) (by decide)
  have e : fX12_keeps_L2 FU 0 S = some S' := e1
  have e0 : fX12_keeps S = some S' := by unfold fX12_keeps; rw [e, bnd_s]
  exact ⟨S', e0, fun j hj => e2 j (Nat.zero_le j) hj, fun a ha => w_fX12_keeps e0 ha⟩
theorem isAgain_L : ∀ (m n k : Nat) (S : SS), m + k = 15 → m < n → ∃ S', fX12_isAgain_L2 n k S = some S' ∧ ∀ j, S' 131 j = if 34 + k ≤ j ∧ j < 49 then S 137 (j - 34) else S 131 j := by
  intro m
  induction m with
  | zero =>
    intro n k S hk hn
    obtain ⟨n, rfl⟩ := suc_of hn
    unfold fX12_isAgain_L2
    rw [if_pos (by omega)]
    exact ⟨S, rfl, fun j => by rw [if_neg (by omega)]⟩
  | succ m ih =>
    intro n k S hk hn
    obtain ⟨n, rfl⟩ := suc_of hn
    unfold fX12_isAgain_L2
    have ek : (34 + (k : Int)).toNat = 34 + k := by omega
    rw [if_neg (by omega), rdA_ok (by omega) (by omega), w32_eq (x := 34 + (k : Int)) (by omega) (by omega), wrA_ok (by omega) (by omega), ek, Int.toNat_natCast, w32_k (by omega), lt_ok]
    obtain ⟨S', e1, e2⟩ := ih n (k + 1) (up S 131 (34 + k) (S 137 k)) (by omega) (by omega)
    refine ⟨S', e1, fun j => ?_⟩
    rw [e2 j, up_at, up_row (by decide)]
    by_cases c : j = 34 + k
    · rw [if_neg (by omega), if_pos c, if_pos (by omega)]; congr 1; omega
    · by_cases c2 : 34 + k ≤ j ∧ j < 49
      · rw [if_pos (by omega), if_pos c2]
      · rw [if_neg (by omega), if_neg c, if_neg c2]
theorem isAgain_ok {S : SS} : ∃ S', fX12_isAgain S = some S' ∧ (∀ j, S' 131 j = if 34 ≤ j ∧ j < 49 then S 137 (j - 34) else S 131 j) ∧ ∀ a, a ≠ 131 → S' a = S a := by
  obtain ⟨S', e1, e2⟩ := isAgain_L 15 FU 0 S (by omega) (by decide)
  have e : fX12_isAgain_L2 FU 0 S = some S' := e1
  have e0 : fX12_isAgain S = some S' := by unfold fX12_isAgain; rw [e, bnd_s]
  exact ⟨S', e0, e2, fun a ha => w_fX12_isAgain e0 ha⟩
theorem notes_L1 : ∀ (m n k : Nat) (S : SS), m + k = 135 → m < n → ∃ S', fX12_notes_L14 n k S = some S' ∧ ∀ j, S' 131 j = if 50 + k ≤ j ∧ j < 185 then S 131 (j + 15) else S 131 j := by
  intro m
  induction m with
  | zero =>
    intro n k S hk hn
    obtain ⟨n, rfl⟩ := suc_of hn
    unfold fX12_notes_L14
    rw [if_pos (by omega)]
    exact ⟨S, rfl, fun j => by rw [if_neg (by omega)]⟩
  | succ m ih =>
    intro n k S hk hn
    obtain ⟨n, rfl⟩ := suc_of hn
    unfold fX12_notes_L14
    have ek : (50 + (k : Int)).toNat = 50 + k := by omega
    have ek' : (65 + (k : Int)).toNat = 65 + k := by omega
    rw [if_neg (by omega), w32_eq (x := 65 + (k : Int)) (by omega) (by omega), rdA_ok (by omega) (by omega), w32_eq (x := 50 + (k : Int)) (by omega) (by omega), wrA_ok (by omega) (by omega), ek, ek', w32_k (by omega), lt_ok]
    obtain ⟨S', e1, e2⟩ := ih n (k + 1) (up S 131 (50 + k) (S 131 (65 + k))) (by omega) (by omega)
    refine ⟨S', e1, fun j => ?_⟩
    rw [e2 j, up_at, up_at]
    by_cases c : j = 50 + k
    · rw [if_neg (by omega), if_pos c, if_pos (by omega)]; congr 1; omega
    · by_cases c2 : 50 + k ≤ j ∧ j < 185
      · rw [if_pos (by omega), if_neg (by omega), if_pos c2]
      · rw [if_neg (by omega), if_neg c, if_neg c2]
theorem notes_L2 {N : Nat} (hN : N ≤ 9) : ∀ (m n k : Nat) (S : SS), m + k = 15 → m < n → S 131 49 = N → ∃ S', fX12_notes_L58 n k S = some S' ∧ ∀ j, S' 131 j = if 50 + 15 * N + k ≤ j ∧ j < 65 + 15 * N then S 137 (j - (50 + 15 * N)) else S 131 j := by
  intro m
  induction m with
  | zero =>
    intro n k S hk hn hS
    obtain ⟨n, rfl⟩ := suc_of hn
    unfold fX12_notes_L58
    rw [if_pos (by omega)]
    exact ⟨S, rfl, fun j => by rw [if_neg (by omega)]⟩
  | succ m ih =>
    intro n k S hk hn hS
    obtain ⟨n, rfl⟩ := suc_of hn
    unfold fX12_notes_L58
    rw [if_neg (by omega), rdA_ok (by decide) (by decide)]
    have hS' : S 131 (49 : Int).toNat = N := hS
    have ek : (50 + 15 * (N : Int) + (k : Int)).toNat = 50 + 15 * N + k := by omega
    rw [hS', w32_eq (x := 15 * (N : Int)) (by omega) (by omega), w32_eq (x := 50 + 15 * (N : Int)) (by omega) (by omega), w32_eq (x := 50 + 15 * (N : Int) + (k : Int)) (by omega) (by omega), rdA_ok (by omega) (by omega), wrA_ok (by omega) (by omega), ek, Int.toNat_natCast, w32_k (by omega), lt_ok]
    obtain ⟨S', e1, e2⟩ := ih n (k + 1) (up S 131 (50 + 15 * N + k) (S 137 k)) (by omega) (by omega) (by rw [up_at, if_neg (by omega)]; exact hS)
    refine ⟨S', e1, fun j => ?_⟩
    rw [e2 j, up_at, up_row (by decide)]
    by_cases c : j = 50 + 15 * N + k
    · rw [if_neg (by omega), if_pos c, if_pos (by omega)]; congr 1; omega
    · by_cases c2 : 50 + 15 * N + k ≤ j ∧ j < 65 + 15 * N
      · rw [if_pos (by omega), if_pos c2]
      · rw [if_neg (by omega), if_neg c, if_neg c2]
theorem notes_ok {S : SS} {N : Nat} (hN : N ≤ 10) (h : S 131 49 = N) : ∃ S', fX12_notes S = some S' ∧ (∀ a, a ≠ 131 → S' a = S a)
    ∧ (N < 10 → ∀ j, S' 131 j = if j = 49 then (N : Int) + 1 else if 50 + 15 * N ≤ j ∧ j < 65 + 15 * N then S 137 (j - (50 + 15 * N)) else S 131 j)
    ∧ (N = 10 → ∀ j, S' 131 j = if j = 49 then 10 else if 50 ≤ j ∧ j < 185 then S 131 (j + 15) else if 185 ≤ j ∧ j < 200 then S 137 (j - 185) else S 131 j) := by
  by_cases c : N = 10
  · obtain ⟨Sa, a1, a2⟩ := notes_L1 135 FU 0 S (by omega) (by decide)
    have a1' : fX12_notes_L14 FU 0 S = some Sa := a1
    have fa : ∀ a, a ≠ 131 → Sa a = S a := fun a ha => w_fX12_notes_L14 ha _ _ _ _ a1
    have a49 : Sa 131 49 = 10 := by rw [a2 49, if_neg (by omega), h, c]; rfl
    obtain ⟨Sb, b1, b2⟩ := notes_L2 (N := 9) (by omega) 15 FU 0 (up Sa 131 49 9) (by omega) (by decide) (by rw [up_self]; rfl)
    have b1' : fX12_notes_L58 FU 0 (up Sa 131 49 9) = some Sb := b1
    have b49 : Sb 131 49 = 9 := by rw [b2 49, if_neg (by omega), up_self]
    have e : fX12_notes S = some (up Sb 131 49 10) := by
      unfold fX12_notes
      rw [rdA_ok (by decide) (by decide)]
      have h' : S 131 (49 : Int).toNat = 10 := by show S 131 49 = 10; rw [h, c]; rfl
      rw [h', if_pos rfl, a1', bnd_s, rdA_ok (by decide) (by decide), wrA_ok (by decide) (by decide)]
      have a49' : Sa 131 (49 : Int).toNat = 10 := a49
      rw [a49', bnd_s]
      have b1'' : fX12_notes_L58 FU 0 (up Sa 131 (49 : Int).toNat (w32 (10 - 1))) = some Sb := b1'
      rw [b1'', bnd_s, rdA_ok (by decide) (by decide), wrA_ok (by decide) (by decide)]
      have b49' : Sb 131 (49 : Int).toNat = 9 := b49
      rw [b49']
      rfl
    refine ⟨_, e, fun a ha => w_fX12_notes e ha, fun h => by omega, fun _ j => ?_⟩
    rw [up_at]
    by_cases c1 : j = 49
    · rw [if_pos c1, if_pos c1]
    · rw [if_neg c1, if_neg c1, b2 j, up_at, if_neg c1, up_row (by decide), fa 137 (by decide), a2 j]
      by_cases c2 : 50 ≤ j ∧ j < 185
      · rw [if_neg (by omega), if_pos (by omega), if_pos c2]
      · by_cases c3 : 185 ≤ j ∧ j < 200
        · rw [if_pos (by omega), if_neg c2, if_pos c3]
        · rw [if_neg (by omega), if_neg (by omega), if_neg c2, if_neg c3]
  · obtain ⟨Sb, b1, b2⟩ := notes_L2 (N := N) (by omega) 15 FU 0 S (by omega) (by decide) h
    have b1' : fX12_notes_L58 FU 0 S = some Sb := b1
    have b49 : Sb 131 49 = N := by rw [b2 49, if_neg (by omega), h]
    have e : fX12_notes S = some (up Sb 131 49 ((N : Int) + 1)) := by
      unfold fX12_notes
      rw [rdA_ok (by decide) (by decide)]
      have h' : S 131 (49 : Int).toNat = N := h
      rw [h', if_neg (by omega), bnd_s, b1', bnd_s, rdA_ok (by decide) (by decide), wrA_ok (by decide) (by decide)]
      have b49' : Sb 131 (49 : Int).toNat = N := b49
      rw [b49', w32_eq (by omega) (by omega)]
      rfl
    refine ⟨_, e, fun a ha => w_fX12_notes e ha, fun _ j => ?_, fun h => by omega⟩
    rw [up_at]
    by_cases c1 : j = 49
    · rw [if_pos c1, if_pos c1]
    · rw [if_neg c1, if_neg c1, b2 j]
      rfl
theorem refs60 : ∀ i, i < 10 → refs 60 i = 61 + 4 * i ∧ sh (61 + 4 * i) = (6, 4) := by decide +kernel
theorem tmod10 {x : Int} (h : 0 ≤ x) : x.tmod 10 = x % 10 := Int.tmod_eq_emod_of_nonneg h
theorem keptAt_ok {S : SS} {i : Nat} (h0 : 0 ≤ S 59 1) (h1 : S 59 1 < 10) (hi : i ≤ 10) : fX2_keptAt (i : Int) S = some (kAt S i) ∧ sh (kAt S i) = (6, 4) ∧ 61 ≤ kAt S i ∧ kAt S i ≤ 97 := by
  have hr := refs60 ((S 59 1 + (i : Int)) % 10).toNat (by omega)
  refine ⟨?_, hr.2, by unfold kAt; omega, by unfold kAt; omega⟩
  unfold fX2_keptAt
  rw [lt_ok, w32_eq (by omega) (by omega), tmod10 (by omega), if_neg (by omega), if_neg (by omega)]
  unfold rdR
  rw [if_pos (by omega), hr.1]
  rfl
theorem keep_ok {S : SS} {N : Nat} (hN : N ≤ 10) (h : S 59 2 = N) (h0 : 0 ≤ S 59 1) (h1 : S 59 1 < 10) : ∃ S', fX2_keep 11 S = some S' ∧ (∀ Q o, stEq S 11 Q o → stEq S' (kAt S N) Q o)
    ∧ (∀ a, a ≠ 59 → (a < kAt S N ∨ kAt S N + 4 ≤ a) → S' a = S a) ∧ S' 59 2 = (if N < 10 then (N : Int) + 1 else 10) ∧ S' 59 1 = (if N < 10 then S 59 1 else (S 59 1 + 1) % 10) := by
  obtain ⟨k1, k2, k3, k4⟩ := keptAt_ok h0 h1 hN
  obtain ⟨Sa, a1, a2⟩ := @copySt S (kAt S N) 11 (by omega)
  have fa : ∀ a, (a < kAt S N ∨ kAt S N + 4 ≤ a) → Sa a = S a := fun a ha => w_fX6_copyOf a1 (by omega)
  have a59 : Sa 59 = S 59 := fa 59 (by omega)
  have e : fX2_keep 11 S = some (if N < 10 then up Sa 59 2 ((N : Int) + 1) else up Sa 59 1 ((S 59 1 + 1) % 10)) := by
    unfold fX2_keep
    rw [h, k1, bnd_s, if_neg (by omega)]
    unfold gsh
    rw [if_pos k2, a1, bnd_s, bnd_s, a59, h]
    by_cases c : N < 10
    · rw [if_neg (by omega), if_pos c, lt_ok, w32_eq (by omega) (by omega)]
    · rw [if_pos (by omega), if_neg c, lt_ok, w32_eq (by omega) (by omega), tmod10 (by omega)]
  refine ⟨_, e, fun Q o hq => ?_, fun a h1 h2 => ?_, ?_, ?_⟩
  · have := a2 Q o hq
    split
    · exact stEq_fr (up_row (by omega)) (up_row (by omega)) (up_row (by omega)) (up_row (by omega)) this
    · exact stEq_fr (up_row (by omega)) (up_row (by omega)) (up_row (by omega)) (up_row (by omega)) this
  · split
    · rw [up_row h1]; exact fa a h2
    · rw [up_row h1]; exact fa a h2
  · split
    · rw [up_self]
    · rw [up_at, if_neg (by decide), a59, h]; omega
  · split
    · rw [up_at, if_neg (by decide), a59]
    · rw [up_self]
