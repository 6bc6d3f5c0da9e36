/-! in how many ways: sums over spots -/
def stp (nx : Nat → Nat → Int) (stay : Bool) (c : Int) (a s : Nat) (acc : Nat → Int) : Nat → Int := if 0 ≤ nx a s then pt acc (nx a s).toNat (acc (nx a s).toNat + c) else if stay = true then pt acc a (acc a + c) else acc
def addS (nx : Nat → Nat → Int) (stay : Bool) (c : Int) (a : Nat) : Nat → (Nat → Int) → Nat → Int
  | 0, acc => acc
  | k + 1, acc => stp nx stay c a k (addS nx stay c a k acc)
def addA (nx : Nat → Nat → Int) (stay : Bool) (cur : Nat → Int) (Z : Nat) : Nat → Nat → Int
  | 0 => fun _ => 0
  | a + 1 => if cur a = 0 then addA nx stay cur Z a else addS nx stay (cur a) a Z (addA nx stay cur Z a)
def itA (nx : Nat → Nat → Int) (stay : Bool) (Z M st : Nat) : Nat → Nat → Int
  | 0 => fun a => if a = st then 1 else 0
  | n + 1 => addA nx stay (itA nx stay Z M st n) Z M
theorem ysum_pt {f : Nat → Int} {i : Nat} {c : Int} : ∀ n, ysum (pt f i (f i + c)) n = ysum f n + (if i < n then c else 0) := by
  intro n
  induction n with
  | zero => show (0 : Int) = 0 + _; rw [if_neg (by omega)]; omega
  | succ n ih =>
    show ysum (pt f i (f i + c)) n + pt f i (f i + c) n = ysum f n + f n + _
    rw [ih]
    by_cases h : i = n
    · subst h
      rw [pt_eq, if_neg (by omega), if_pos (by omega)]; omega
    · rw [pt_lt (Ne.symm h)]
      by_cases h2 : i < n
      · rw [if_pos h2, if_pos (by omega)]; omega
      · rw [if_neg h2, if_neg (by omega)]; omega
theorem ysum_nn {f : Nat → Int} : ∀ n, (∀ k, 0 ≤ f k) → 0 ≤ ysum f n := by
  intro n
  induction n with
  | zero => intro _; exact Int.le_refl _
  | succ n ih => intro h; show 0 ≤ ysum f n + f n; have := ih h; have := h n; omega
theorem ysum_ge {f : Nat → Int} {i : Nat} : ∀ n, (∀ k, 0 ≤ f k) → i < n → f i ≤ ysum f n := by
  intro n
  induction n with
  | zero => intro _ h; omega
  | succ n ih =>
    intro h hi
    show f i ≤ ysum f n + f n
    by_cases c : i = n
    · subst c; have := ysum_nn i h; omega
    · have := ih h (by omega); have := h n; omega
def nnS (f : Nat → Int) (B : Int) : Prop := (∀ k, 0 ≤ f k) ∧ ysum f 120 ≤ B
theorem stp_nn {nx : Nat → Nat → Int} {stay : Bool} {c B : Int} {a s M : Nat} {acc : Nat → Int} (hM : M ≤ 120) (hnx : ∀ a s, nx a s < M) (hc : 0 ≤ c) (h : nnS acc B) : nnS (stp nx stay c a s acc) (B + c) := by
  have key : ∀ i, nnS (pt acc i (acc i + c)) (B + c) := by
    intro i
    refine ⟨fun k => ?_, ?_⟩
    · by_cases e : k = i
      · rw [e, pt_eq]; have := h.1 i; omega
      · rw [pt_lt e]; exact h.1 k
    · rw [ysum_pt]
      have := h.2
      split <;> omega
  unfold stp
  split
  · exact key _
  split
  · exact key _
  · exact ⟨h.1, by have := h.2; omega⟩
theorem addS_nn {nx : Nat → Nat → Int} {stay : Bool} {c B : Int} {a M : Nat} {acc : Nat → Int} (hM : M ≤ 120) (hnx : ∀ a s, nx a s < M) (hc : 0 ≤ c) (h : nnS acc B) : ∀ k : Nat, nnS (addS nx stay c a k acc) (B + k * c) := by
  intro k
  induction k with
  | zero => show nnS acc _; exact ⟨h.1, by have := h.2; omega⟩
  | succ k ih =>
    have := stp_nn (stay := stay) (a := a) (s := k) hM hnx hc ih
    refine ⟨this.1, ?_⟩
    have h2 := this.2
    have e : ((k + 1 : Nat) : Int) * c = (k : Int) * c + c := by rw [Int.natCast_add, Int.add_mul]; simp
    show ysum (stp nx stay c a k (addS nx stay c a k acc)) 120 ≤ _
    omega
theorem addA_nn {nx : Nat → Nat → Int} {stay : Bool} {cur : Nat → Int} {Z M : Nat} (hM : M ≤ 120) (hnx : ∀ a s, nx a s < M) (h : ∀ k, 0 ≤ cur k) : ∀ a, nnS (addA nx stay cur Z a) ((Z : Int) * ysum cur a) := by
  intro a
  induction a with
  | zero =>
    refine ⟨fun _ => Int.le_refl _, ?_⟩
    have z : ∀ n, ysum (fun _ => (0 : Int)) n = 0 := by
      intro n
      induction n with
      | zero => rfl
      | succ n ih => show ysum (fun _ => (0 : Int)) n + 0 = 0; omega
    show ysum (fun _ => (0 : Int)) 120 ≤ _
    rw [z]
    show (0 : Int) ≤ (Z : Int) * 0
    simp
  | succ a ih =>
    have e : (Z : Int) * ysum cur (a + 1) = (Z : Int) * ysum cur a + (Z : Int) * cur a := by
      show (Z : Int) * (ysum cur a + cur a) = _
      rw [Int.mul_add]
    rw [e]
    show nnS (if cur a = 0 then addA nx stay cur Z a else addS nx stay (cur a) a Z (addA nx stay cur Z a)) _
    by_cases c : cur a = 0
    · rw [if_pos c, c]
      exact ⟨ih.1, by have := ih.2; simp; exact this⟩
    · rw [if_neg c]
      exact addS_nn hM hnx (h a) ih Z
theorem itA_nn {nx : Nat → Nat → Int} {stay : Bool} {Z M st : Nat} (hM : M ≤ 120) (hnx : ∀ a s, nx a s < M) : ∀ n : Nat, nnS (itA nx stay Z M st n) (((Z ^ n : Nat)) : Int) := by
  intro n
  induction n with
  | zero =>
    refine ⟨fun k => by show 0 ≤ (if k = st then (1 : Int) else 0); split <;> omega, ?_⟩
    have z : ∀ m, ysum (fun a => if a = st then (1 : Int) else 0) m ≤ if st < m then 1 else 0 := by
      intro m
      induction m with
      | zero => show (0 : Int) ≤ _; split <;> omega
      | succ m ih =>
        show ysum (fun a => if a = st then (1 : Int) else 0) m + (if m = st then 1 else 0) ≤ _
        by_cases c : m = st
        · subst c
          rw [if_pos rfl, if_pos (by omega)]
          rw [if_neg (by omega)] at ih
          omega
        · rw [if_neg c]
          by_cases c2 : st < m
          · rw [if_pos c2] at ih; rw [if_pos (by omega)]; omega
          · rw [if_neg c2] at ih; rw [if_neg (by omega)]; omega
    have := z 120
    show ysum (fun a => if a = st then (1 : Int) else 0) 120 ≤ ((Z ^ 0 : Nat) : Int)
    rw [Nat.pow_zero]
    split at this <;> omega
  | succ n ih =>
    have := addA_nn (stay := stay) (Z := Z) hM hnx ih.1 M
    refine ⟨this.1, ?_⟩
    have mono : ∀ d m, ysum (itA nx stay Z M st n) m ≤ ysum (itA nx stay Z M st n) (m + d) := by
      intro d
      induction d with
      | zero => intro m; exact Int.le_refl _
      | succ d ihd => intro m; have := ihd m; have := ih.1 (m + d); show _ ≤ ysum (itA nx stay Z M st n) (m + d) + itA nx stay Z M st n (m + d); omega
    have h1 : ysum (itA nx stay Z M st n) M ≤ ((Z ^ n : Nat) : Int) := by
      have := mono (120 - M) M
      rw [show M + (120 - M) = 120 by omega] at this
      have := ih.2
      omega
    have h2 : (Z : Int) * ysum (itA nx stay Z M st n) M ≤ (Z : Int) * ((Z ^ n : Nat) : Int) := Int.mul_le_mul_of_nonneg_left h1 (by omega)
    have h3 := this.2
    rw [Nat.pow_succ, Nat.mul_comm, Int.natCast_mul]
    exact Int.le_trans h3 h2
/-- nothing beyond the spots of the town -/
theorem addA_hi {nx : Nat → Nat → Int} {stay : Bool} {cur : Nat → Int} {Z M : Nat} (hnx : ∀ a s, nx a s < M) : ∀ a, a ≤ M → ∀ j, M ≤ j → addA nx stay cur Z a j = 0 := by
  have st : ∀ c a s acc, a < M → (∀ j, M ≤ j → acc j = 0) → ∀ j, M ≤ j → stp nx stay c a s acc j = 0 := by
    intro c a s acc ha h j hj
    unfold stp
    split
    · rw [pt_lt (by have := hnx a s; omega)]; exact h j hj
    split
    · rw [pt_lt (by omega)]; exact h j hj
    · exact h j hj
  have st2 : ∀ c a acc k, a < M → (∀ j, M ≤ j → acc j = 0) → ∀ j, M ≤ j → addS nx stay c a k acc j = 0 := by
    intro c a acc k ha h
    induction k with
    | zero => exact h
    | succ k ih => exact st c a k _ ha ih
  intro a
  induction a with
  | zero => intro _ j _; rfl
  | succ a ih =>
    intro ha j hj
    show (if cur a = 0 then addA nx stay cur Z a else addS nx stay (cur a) a Z (addA nx stay cur Z a)) j = 0
    split
    · exact ih (by omega) j hj
    · exact st2 _ _ _ _ (by omega) (ih (by omega)) j hj
theorem itA_hi {nx : Nat → Nat → Int} {stay : Bool} {Z M st : Nat} (hnx : ∀ a s, nx a s < M) (hst : st < M) (n : Nat) : ∀ j, M ≤ j → itA nx stay Z M st n j = 0 := by
  cases n with
  | zero => intro j hj; show (if j = st then (1 : Int) else 0) = 0; rw [if_neg (by omega)]
  | succ n => exact addA_hi hnx M (Nat.le_refl _)
theorem addA_more {nx : Nat → Nat → Int} {stay : Bool} {cur : Nat → Int} {Z M : Nat} (h : ∀ j, M ≤ j → cur j = 0) : ∀ d, addA nx stay cur Z (M + d) = addA nx stay cur Z M := by
  intro d
  induction d with
  | zero => rfl
  | succ d ih =>
    show (if cur (M + d) = 0 then addA nx stay cur Z (M + d) else _) = _
    rw [if_pos (h (M + d) (by omega)), ih]
