/-! functions at arguments that fit -/
theorem rdA_ok {α : Type} {S : SS} {a N : Nat} {i : Int} {k : Int → Option α} (h0 : 0 ≤ i) (h1 : i < N) : rdA S a N i k = k (S a i.toNat) := by
  unfold rdA; rw [if_pos ⟨h0, h1⟩]
theorem wrA_ok {α : Type} {S : SS} {a N : Nat} {i v : Int} {k : SS → Option α} (h0 : 0 ≤ i) (h1 : i < N) : wrA S a N i v k = k (up S a i.toNat v) := by
  unfold wrA; rw [if_pos ⟨h0, h1⟩]
theorem acp_ok {α : Type} {S : SS} {a A : Nat} {i : Int} {b B : Nat} {j n : Int} {k : SS → Option α} (h : a ≠ b ∧ (0 ≤ i ∧ 0 ≤ j ∧ 0 ≤ n ∧ i + n ≤ A ∧ j + n ≤ B)) : acp S a A i b B j n k = k (cpy S a i b j n) := by
  unfold acp; rw [if_pos h]
theorem lt_ok {α β : Type} {e : β} {k : β → Option α} : lt e k = k e := rfl
theorem w32_eq {x : Int} (h0 : -2147483648 ≤ x) (h1 : x < 2147483648) : w32 x = x := w32_id ⟨h0, h1⟩
theorem lc_lt {a b : Int} : lc a b < 0 ↔ a < b := by
  unfold lc; split
  · simp [*]
  · split <;> simp <;> omega
theorem lc_gt {a b : Int} : 0 < lc a b ↔ b < a := by
  unfold lc; split
  · simp; omega
  · split <;> simp <;> omega
theorem within_ok {v lo hi : Int} : fX12_within v lo hi = some (decide (lo ≤ v ∧ v ≤ hi)) := by
  unfold fX12_within
  by_cases h1 : v < lo
  · rw [if_pos (lc_lt.mpr h1), decide_eq_false (by omega)]
  · rw [if_neg (fun h => h1 (lc_lt.mp h))]
    by_cases h2 : hi < v
    · rw [if_pos (lc_gt.mpr h2), decide_eq_false (by omega)]
    · rw [if_neg (fun h => h2 (lc_gt.mp h)), decide_eq_true (by omega)]
theorem isYear_ok {v : Int} : fX12_isYear v = some (decide (0 ≤ v ∧ v ≤ 19)) := by
  unfold fX12_isYear; rw [within_ok]; rfl
theorem isGoer_ok {S : SS} {v : Int} (h0 : 0 ≤ S 131 3) (h1 : S 131 3 ≤ 3) : fX12_isGoer v S = some (decide (0 ≤ v ∧ v < S 131 3)) := by
  unfold fX12_isGoer
  rw [rdA_ok (by omega) (by omega), w32_eq (by show _ ≤ S 131 3 - 1; omega) (by show S 131 3 - 1 < _; omega), within_ok]
  show some (decide (0 ≤ v ∧ v ≤ S 131 3 - 1)) = _
  congr 2
  exact propext (by constructor <;> intro h <;> omega)
theorem isStreet_ok {S : SS} {v : Int} (h0 : 0 ≤ S 131 2) (h1 : S 131 2 ≤ 8) : fX12_isStreet v S = some (decide (0 ≤ v ∧ v < S 131 2)) := by
  unfold fX12_isStreet
  rw [rdA_ok (by omega) (by omega), w32_eq (by show _ ≤ S 131 2 - 1; omega) (by show S 131 2 - 1 < _; omega), within_ok]
  show some (decide (0 ≤ v ∧ v ≤ S 131 2 - 1)) = _
  congr 2
  exact propext (by constructor <;> intro h <;> omega)
theorem isCorner_ok {S : SS} {v : Int} (h0 : 0 ≤ S 131 1) (h1 : S 131 1 ≤ 6) : fX12_isCorner v S = some (decide (0 ≤ v ∧ v < S 131 1)) := by
  unfold fX12_isCorner
  rw [rdA_ok (by omega) (by omega), w32_eq (by show _ ≤ S 131 1 - 1; omega) (by show S 131 1 - 1 < _; omega), within_ok]
  show some (decide (0 ≤ v ∧ v ≤ S 131 1 - 1)) = _
  congr 2
  exact propext (by constructor <;> intro h <;> omega)
theorem hasCorner_ok {S : SS} {t : Nat} {v : Int} (h1 : S t 5 ≤ 6) : fX8_hasCorner t v S = some (decide (0 ≤ v ∧ v < S t 5)) := by
  unfold fX8_hasCorner
  by_cases c1 : v < 0
  · rw [if_pos c1, decide_eq_false (by omega)]
  rw [if_neg c1]
  by_cases c2 : S t 5 ≤ v
  · rw [if_pos c2, decide_eq_false (by omega)]
  rw [if_neg c2, if_neg (by omega), decide_eq_true (by omega)]
theorem hasStreet_ok {S : SS} {t : Nat} {v : Int} (h1 : S t 6 ≤ 8) : fX8_hasStreet t v S = some (decide (0 ≤ v ∧ v < S t 6)) := by
  unfold fX8_hasStreet
  by_cases c1 : v < 0
  · rw [if_pos c1, decide_eq_false (by omega)]
  rw [if_neg c1]
  by_cases c2 : S t 6 ≤ v
  · rw [if_pos c2, decide_eq_false (by omega)]
  rw [if_neg c2, if_neg (by omega), decide_eq_true (by omega)]
theorem hasGoer_ok {S : SS} {t : Nat} {v : Int} (h1 : S t 7 ≤ 3) : fX8_hasGoer t v S = some (decide (0 ≤ v ∧ v < S t 7)) := by
  unfold fX8_hasGoer
  by_cases c1 : v < 0
  · rw [if_pos c1, decide_eq_false (by omega)]
  rw [if_neg c1]
  by_cases c2 : S t 7 ≤ v
  · rw [if_pos c2, decide_eq_false (by omega)]
  rw [if_neg c2, if_neg (by omega), decide_eq_true (by omega)]
