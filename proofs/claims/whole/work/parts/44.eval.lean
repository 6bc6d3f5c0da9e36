/-! laws: typed code, and both machines over it -/
theorem tyR_pre {code : Nat → Int} {n : Nat} {q : Nat × (Nat → Bool)} (h : tyR code (n + 1) = some q) : ∃ q0, tyR code n = some q0 ∧ tyS (code n) q0 = some q := bnd_e h
theorem tyR_le {code : Nat → Int} : ∀ {d n : Nat} {q : Nat × (Nat → Bool)}, tyR code (n + d) = some q → ∃ q0, tyR code n = some q0
  | 0, n, q, h => ⟨q, h⟩
  | d + 1, n, q, h => by obtain ⟨q0, h0, _⟩ := tyR_pre (n := n + d) h; exact tyR_le h0
theorem tyS_cases {m : Int} {q r : Nat × (Nat → Bool)} (h : tyS m q = some r) :
    (0 ≤ m ∧ m < 1006 ∧ q.1 < 40 ∧ r = (q.1 + 1, pt q.2 q.1 false)) ∨
    (3000 ≤ m ∧ m < 3003 ∧ 2 ≤ q.1 ∧ q.2 (q.1 - 1) = false ∧ q.2 (q.1 - 2) = false ∧ r = (q.1 - 1, pt q.2 (q.1 - 2) false)) ∨
    (3003 ≤ m ∧ m < 3006 ∧ 2 ≤ q.1 ∧ q.2 (q.1 - 1) = false ∧ q.2 (q.1 - 2) = false ∧ r = (q.1 - 1, pt q.2 (q.1 - 2) true)) ∨
    (m = 3006 ∧ 1 ≤ q.1 ∧ q.2 (q.1 - 1) = true ∧ r = q) ∨
    (3007 ≤ m ∧ m < 3009 ∧ 2 ≤ q.1 ∧ q.2 (q.1 - 1) = true ∧ q.2 (q.1 - 2) = true ∧ r = (q.1 - 1, q.2)) ∨
    (m = 3009 ∧ 3 ≤ q.1 ∧ q.2 (q.1 - 1) = false ∧ q.2 (q.1 - 2) = false ∧ q.2 (q.1 - 3) = true ∧ r = (q.1 - 2, pt q.2 (q.1 - 3) false)) := by
  unfold tyS at h
  by_cases c1 : m < 3000
  · rw [if_pos c1] at h
    obtain ⟨a, b⟩ | ⟨_, b⟩ := ite_e h
    · exact Or.inl ⟨a.1, a.2.1, a.2.2, (Option.some.inj b).symm⟩
    · cases b
  rw [if_neg c1] at h
  by_cases c2 : m < 3003
  · rw [if_pos c2] at h
    obtain ⟨a, b⟩ | ⟨_, b⟩ := ite_e h
    · exact Or.inr (Or.inl ⟨by omega, c2, a.1, a.2.1, a.2.2, (Option.some.inj b).symm⟩)
    · cases b
  rw [if_neg c2] at h
  by_cases c3 : m < 3006
  · rw [if_pos c3] at h
    obtain ⟨a, b⟩ | ⟨_, b⟩ := ite_e h
    · exact Or.inr (Or.inr (Or.inl ⟨by omega, c3, a.1, a.2.1, a.2.2, (Option.some.inj b).symm⟩))
    · cases b
  rw [if_neg c3] at h
  by_cases c4 : m = 3006
  · rw [if_pos c4] at h
    obtain ⟨a, b⟩ | ⟨_, b⟩ := ite_e h
    · exact Or.inr (Or.inr (Or.inr (Or.inl ⟨c4, a.1, a.2, (Option.some.inj b).symm⟩)))
    · cases b
  rw [if_neg c4] at h
  by_cases c5 : m < 3009
  · rw [if_pos c5] at h
    obtain ⟨a, b⟩ | ⟨_, b⟩ := ite_e h
    · exact Or.inr (Or.inr (Or.inr (Or.inr (Or.inl ⟨by omega, c5, a.1, a.2.1, a.2.2, (Option.some.inj b).symm⟩))))
    · cases b
  rw [if_neg c5] at h
  by_cases c6 : m = 3009
  · rw [if_pos c6] at h
    obtain ⟨a, b⟩ | ⟨_, b⟩ := ite_e h
    · exact Or.inr (Or.inr (Or.inr (Or.inr (Or.inr ⟨c6, a.1, a.2.1, a.2.2.1, a.2.2.2, (Option.some.inj b).symm⟩))))
    · cases b
  rw [if_neg c6] at h
  cases h
def okV (b : Bool) (v : Int) : Prop := (b = true → v = 0 ∨ v = 1) ∧ (b = false → -1000000 ≤ v ∧ v ≤ 1000000)
theorem okV_n {v : Int} (h0 : -1000000 ≤ v) (h1 : v ≤ 1000000) : okV false v := ⟨fun h => absurd h (by decide), fun _ => ⟨h0, h1⟩⟩
theorem okV_t {v : Int} (h : v = 0 ∨ v = 1) : okV true v := ⟨fun _ => h, fun h => absurd h (by decide)⟩
theorem btw_n {m a b : Int} (h0 : 3000 ≤ m) (h1 : m < 3003) : -1000000 ≤ btw m a b ∧ btw m a b ≤ 1000000 := by
  unfold btw
  rw [if_neg (by omega), if_neg (by omega), if_neg (by omega), if_neg (by omega), if_neg (by omega)]
  generalize (if m = 3000 then a + b else if m = 3001 then a - b else a * b) = v
  split
  · omega
  split <;> omega
theorem btw_c {m a b : Int} (h0 : 3003 ≤ m) (h1 : m < 3006) : btw m a b = 0 ∨ btw m a b = 1 := by
  unfold btw
  by_cases c1 : m = 3003
  · rw [if_pos c1]; split <;> simp
  rw [if_neg c1]
  by_cases c2 : m = 3004
  · rw [if_pos c2]; split <;> simp
  rw [if_neg c2, if_pos (by omega)]; split <;> simp
theorem btw_l {m a b : Int} (h0 : 3007 ≤ m) (h1 : m < 3009) (ha : a = 0 ∨ a = 1) (hb : b = 0 ∨ b = 1) : btw m a b = 0 ∨ btw m a b = 1 := by
  unfold btw
  rw [if_neg (by omega), if_neg (by omega), if_neg (by omega)]
  by_cases c1 : m = 3007
  · rw [if_pos c1]
    obtain rfl | rfl := ha <;> obtain rfl | rfl := hb <;> decide
  · rw [if_neg c1, if_pos (by omega)]
    obtain rfl | rfl := ha <;> obtain rfl | rfl := hb <;> decide
theorem pt_lt {α : Type} {f : Nat → α} {h i : Nat} {v : α} (hi : i ≠ h) : pt f h v i = f i := by unfold pt; rw [if_neg hi]
theorem pt_eq {α : Type} {f : Nat → α} {h : Nat} {v : α} : pt f h v h = v := by unfold pt; rw [if_pos rfl]
theorem okV_pt {ty : Nat → Bool} {f : Nat → Int} {h i : Nat} {b : Bool} {v : Int} (h1 : i ≠ h → okV (ty i) (f i)) (h2 : okV b v) : okV (pt ty h b i) (pt f h v i) := by
  by_cases c : i = h
  · subst c; rw [pt_eq, pt_eq]; exact h2
  · rw [pt_lt c, pt_lt c]; exact h1 c
theorem ev_ok {wd code : Nat → Int} (hw : ∀ j, j < 6 → -1000000 ≤ wd j ∧ wd j ≤ 1000000) : ∀ n q, tyR code n = some q → (evR wd code n).1 = q.1 ∧ ∀ i, i < q.1 → okV (q.2 i) ((evR wd code n).2 i) := by
  intro n
  induction n with
  | zero =>
    intro q h
    cases h
    exact ⟨rfl, fun i hi => absurd hi (Nat.not_lt_zero i)⟩
  | succ n ih =>
    intro q h
    obtain ⟨q0, h0, h1⟩ := tyR_pre h
    obtain ⟨e1, e2⟩ := ih q0 h0
    show (evS wd (code n) (evR wd code n)).1 = q.1 ∧ ∀ i, i < q.1 → okV (q.2 i) ((evS wd (code n) (evR wd code n)).2 i)
    revert e1 e2
    generalize evR wd code n = e
    generalize code n = m at h1
    intro e1 e2
    unfold evS
    obtain ⟨a1, a2, a3, rfl⟩ | ⟨a1, a2, a3, a4, a5, rfl⟩ | ⟨a1, a2, a3, a4, a5, rfl⟩ | ⟨rfl, a3, a4, rfl⟩ | ⟨a1, a2, a3, a4, a5, rfl⟩ | ⟨rfl, a3, a4, a5, a6, rfl⟩ := tyS_cases h1
    · rw [if_pos (by omega)]
      refine ⟨by simp only [e1], fun i hi => ?_⟩
      simp only at hi ⊢
      rw [e1]
      refine okV_pt (fun c => e2 i (by omega)) ?_
      split
      · exact okV_n (by omega) (by omega)
      · have := hw (m - 1000).toNat (by omega)
        exact okV_n this.1 this.2
    · rw [if_neg (by omega), if_neg (by omega), if_neg (by omega)]
      refine ⟨by simp only [e1], fun i hi => ?_⟩
      simp only at hi ⊢
      rw [e1]
      have := @btw_n m (e.2 (q0.1 - 2)) (e.2 (q0.1 - 1)) a1 a2
      exact okV_pt (fun c => e2 i (by omega)) (okV_n this.1 this.2)
    · rw [if_neg (by omega), if_neg (by omega), if_neg (by omega)]
      refine ⟨by simp only [e1], fun i hi => ?_⟩
      simp only at hi ⊢
      rw [e1]
      exact okV_pt (fun c => e2 i (by omega)) (okV_t (btw_c a1 a2))
    · rw [if_neg (by omega), if_pos rfl]
      refine ⟨by simp only [e1], fun i hi => ?_⟩
      simp only at hi ⊢
      rw [e1]
      by_cases c : i = q.1 - 1
      · have h := e2 i hi
        rw [c, a4] at h
        rw [c, pt_eq, a4]
        have := h.1 rfl
        exact okV_t (by omega)
      · rw [pt_lt c]; exact e2 i hi
    · rw [if_neg (by omega), if_neg (by omega), if_neg (by omega)]
      refine ⟨by simp only [e1], fun i hi => ?_⟩
      simp only at hi ⊢
      rw [e1]
      have h1 := e2 (q0.1 - 1) (by omega)
      have h2 := e2 (q0.1 - 2) (by omega)
      rw [a4] at h1
      rw [a5] at h2
      by_cases c : i = q0.1 - 2
      · rw [c, pt_eq, a5]
        exact okV_t (btw_l a1 a2 (h2.1 rfl) (h1.1 rfl))
      · rw [pt_lt c]; exact e2 i (by omega)
    · rw [if_neg (by omega), if_neg (by omega), if_pos rfl]
      refine ⟨by simp only [e1], fun i hi => ?_⟩
      simp only at hi ⊢
      rw [e1]
      have h1 := e2 (q0.1 - 1) (by omega)
      have h2 := e2 (q0.1 - 2) (by omega)
      rw [a4] at h1
      rw [a5] at h2
      refine okV_pt (fun c => e2 i (by omega)) ?_
      split
      · exact h2
      · exact h1
theorem mul_b {a b : Int} (a0 : -1000000 ≤ a) (a1 : a ≤ 1000000) (b0 : -1000000 ≤ b) (b1 : b ≤ 1000000) : -1000000000000 ≤ a * b ∧ a * b ≤ 1000000000000 := by
  have h := Nat.mul_le_mul (show a.natAbs ≤ 1000000 by omega) (show b.natAbs ≤ 1000000 by omega)
  rw [← Int.natAbs_mul] at h
  omega
theorem lc_le {a b : Int} : lc a b ≤ 0 ↔ a ≤ b := by
  have := @lc_gt a b
  constructor <;> intro h <;> omega
theorem lc_ge {a b : Int} : 0 ≤ lc a b ↔ b ≤ a := by
  have := @lc_lt a b
  constructor <;> intro h <;> omega
theorem w64_eq {x : Int} (h0 : -9223372036854775808 ≤ x) (h1 : x < 9223372036854775808) : w64 x = x := w64_id ⟨h0, h1⟩
theorem clamp_b {v : Int} : (Option.bind (if lc v 1000000 ≤ 0 then (if 0 ≤ lc v (-1000000) then some v else some (-1000000)) else some 1000000) fun q => some (w32 q)) = some (if 1000000 < v then 1000000 else if v < -1000000 then -1000000 else v) := by
  by_cases c1 : 1000000 < v
  · rw [if_pos c1, if_neg (fun h => by have := lc_le.mp h; omega)]; rfl
  · rw [if_neg c1, if_pos (lc_le.mpr (by omega))]
    by_cases c2 : v < -1000000
    · rw [if_pos c2, if_neg (fun h => by have := lc_ge.mp h; omega)]; rfl
    · rw [if_neg c2, if_pos (lc_ge.mpr (by omega)), bnd_s, w32_eq (by omega) (by omega)]
theorem clamp_c {v : Int} : (if lc v 1000000 ≤ 0 then (if 0 ≤ lc v (-1000000) then some (w32 v) else some (-1000000)) else some 1000000) = some (if 1000000 < v then 1000000 else if v < -1000000 then -1000000 else v) := by
  by_cases c1 : 1000000 < v
  · rw [if_pos c1, if_neg (fun h => by have := lc_le.mp h; omega)]
  · rw [if_neg c1, if_pos (lc_le.mpr (by omega))]
    by_cases c2 : v < -1000000
    · rw [if_pos c2, if_neg (fun h => by have := lc_ge.mp h; omega)]
    · rw [if_neg c2, if_pos (lc_ge.mpr (by omega)), w32_eq (by omega) (by omega)]
theorem between_ok {m a b : Int} (hm : 3000 ≤ m ∧ m < 3009 ∧ m ≠ 3006) (a0 : -1000000 ≤ a) (a1 : a ≤ 1000000) (b0 : -1000000 ≤ b) (b1 : b ≤ 1000000) : fX12_between m a b = some (btw m a b) := by
  have hp := mul_b a0 a1 b0 b1
  unfold fX12_between btw
  by_cases c1 : m = 3003
  · rw [if_pos c1, if_pos c1]; split <;> rfl
  rw [if_neg c1, if_neg c1]
  by_cases c2 : m = 3004
  · rw [if_pos c2, if_pos c2]
    by_cases c : a < b
    · rw [if_pos c, if_neg (by omega)]
    · rw [if_neg c, if_pos (by omega)]
  rw [if_neg c2, if_neg c2]
  by_cases c3 : m = 3005
  · rw [if_pos c3, if_pos c3]
    by_cases c : b < a
    · rw [if_pos c, if_neg (by omega)]
    · rw [if_neg c, if_pos (by omega)]
  rw [if_neg c3, if_neg c3]
  by_cases c4 : m = 3007
  · rw [if_pos c4, if_pos c4]
  rw [if_neg c4, if_neg c4]
  by_cases c5 : m = 3008
  · rw [if_pos c5, if_pos c5]
  rw [if_neg c5, if_neg c5]
  have e : (if m = 3000 then some (w64 (a + b)) else if m = 3001 then some (w64 (a - b)) else some (w64 (a * b)) : Option Int) = some (if m = 3000 then a + b else if m = 3001 then a - b else a * b) := by
    rw [w64_eq (x := a + b) (by omega) (by omega), w64_eq (x := a - b) (by omega) (by omega), w64_eq (x := a * b) (by omega) (by omega)]
    split
    · rfl
    split <;> rfl
  rw [e, bnd_s]
  exact clamp_b
def jmRel (j m : Int) : Prop := (j = 43 ∧ m = 3000) ∨ (j = 45 ∧ m = 3001) ∨ (j = 42 ∧ m = 3002) ∨ (j = 61 ∧ m = 3003) ∨ (j = 60 ∧ m = 3004) ∨ (j = 62 ∧ m = 3005) ∨ (j = 1016 ∧ m = 3007) ∨ (j = 1017 ∧ m = 3008)
theorem joined_ok {j m a b : Int} (hj : jmRel j m) (a0 : -1000000 ≤ a) (a1 : a ≤ 1000000) (b0 : -1000000 ≤ b) (b1 : b ≤ 1000000) : fX4_joined j a b = some (btw m a b) := by
  have hp := mul_b a0 a1 b0 b1
  unfold fX4_joined btw
  obtain ⟨rfl, rfl⟩ | ⟨rfl, rfl⟩ | ⟨rfl, rfl⟩ | ⟨rfl, rfl⟩ | ⟨rfl, rfl⟩ | ⟨rfl, rfl⟩ | ⟨rfl, rfl⟩ | ⟨rfl, rfl⟩ := hj
  · simp only [Int.reduceEq, if_false, if_true, lt_ok, bnd_s]
    rw [w32_eq (by omega) (by omega)]
    exact clamp_c
  · simp only [Int.reduceEq, if_false, if_true, lt_ok, bnd_s]
    rw [w32_eq (by omega) (by omega)]
    exact clamp_c
  · simp only [Int.reduceEq, if_false, if_true, lt_ok, bnd_s]
    rw [w64_eq (by omega) (by omega)]
    exact clamp_c
  · simp only [Int.reduceEq, if_false, if_true]
    split <;> rfl
  · simp only [Int.reduceEq, if_false, if_true]
    by_cases c : a < b
    · rw [if_pos c, if_neg (by omega)]
    · rw [if_neg c, if_pos (by omega)]
  · simp only [Int.reduceEq, if_false, if_true]
    by_cases c : b < a
    · rw [if_pos c, if_neg (by omega)]
    · rw [if_neg c, if_pos (by omega)]
  · simp only [Int.reduceEq, if_false, if_true]
  · simp only [Int.reduceEq, if_false, if_true]
