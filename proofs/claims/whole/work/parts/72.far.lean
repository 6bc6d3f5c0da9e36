/-! how far it is to a goal: the reference's way -/
def goalP (c y : Int) (a : Nat) : Bool := decide ((a : Int) / 20 = c ∧ (y = -1 ∨ (a : Int) % 20 = y))
theorem isGoal_ok {a : Nat} {c y : Int} (ha : a < 120) : fX12_isGoal a c y = some (goalP c y a) := by
  unfold fX12_isGoal goalP
  rw [tdiv20 (by omega), w32_eq (by omega) (by omega), tmod20 (by omega)]
  by_cases h1 : (a : Int) / 20 = c
  · rw [if_pos h1]
    by_cases h2 : y = -1
    · rw [if_pos h2, decide_eq_true ⟨h1, Or.inl h2⟩]
    · rw [if_neg h2]
      by_cases h3 : (a : Int) % 20 = y
      · rw [if_pos h3, decide_eq_true ⟨h1, Or.inr h3⟩]
      · rw [if_neg h3, decide_eq_false (fun h => h.2.elim h2 h3)]
  · rw [if_neg h1, decide_eq_false (fun h => h1 h.1)]
def toG (nx : Nat → Nat → Int) (gl : Nat → Bool) (n a : Nat) : Prop := ∃ b, gl b = true ∧ rIn nx n a b
theorem toG_suc {nx : Nat → Nat → Int} {gl : Nat → Bool} {n a : Nat} (h : toG nx gl (n + 1) a) : ∃ b s, s < 8 ∧ nx a s = ((b : Nat) : Int) ∧ toG nx gl n b := by
  obtain ⟨t, h1, h2⟩ := h
  obtain ⟨b, s, q1, q2, q3⟩ := rIn_fst h2
  exact ⟨b, s, q1, q2, t, h1, q3⟩
theorem toG_pre {nx : Nat → Nat → Int} {gl : Nat → Bool} {n a b s : Nat} (hs : s < 8) (h : nx a s = (b : Int)) (h' : toG nx gl n b) : toG nx gl (n + 1) a := by
  obtain ⟨t, h1, h2⟩ := h'
  exact ⟨t, h1, rIn_pre hs h h2⟩
theorem toG_0 {nx : Nat → Nat → Int} {gl : Nat → Bool} {a : Nat} (h : toG nx gl 0 a) : gl a = true := by
  obtain ⟨t, h1, h2⟩ := h
  have : a = t := h2
  rw [this]; exact h1
def fby (nx : Nat → Nat → Int) (far : Nat → Int) (a s : Nat) : Int := if nx a s = -1 then 268435456 else if far (nx a s).toNat = 268435456 then 268435456 else far (nx a s).toNat + 1
def FS (nx : Nat → Nat → Int) (gl : Nat → Bool) (far : Nat → Int) : Prop := ∀ a, a < 120 → (far a = 268435456 ∨ ∃ n : Nat, far a = (n : Int) ∧ n < 268435456 ∧ toG nx gl n a) ∧ (gl a = true → far a = 0)
def FC (nx : Nat → Nat → Int) (gl : Nat → Bool) (M k : Nat) (far : Nat → Int) : Prop := ∀ a, a < M → ∀ n : Nat, n ≤ k → toG nx gl n a → far a ≤ n
def FE (nx : Nat → Nat → Int) (gl : Nat → Bool) (M : Nat) (far : Nat → Int) : Prop := ∀ a, a < M → ∀ n : Nat, toG nx gl n a → far a ≤ n
def FQ (nx : Nat → Nat → Int) (gl : Nat → Bool) (M k P : Nat) (far0 far : Nat → Int) (fl : Int) : Prop :=
  FS nx gl far ∧ FC nx gl M k far ∧ (∀ Q, Q < P → ∀ b : Nat, nx (Q / 8) (Q % 8) = (b : Int) → ∀ n : Nat, n ≤ k → toG nx gl n b → far (Q / 8) ≤ (n : Int) + 1)
  ∧ ((fl = 0 ∧ far = far0 ∧ ∀ Q, Q < P → far (Q / 8) ≤ 0 ∨ far (Q / 8) ≤ fby nx far (Q / 8) (Q % 8)) ∨ (fl = 1 ∧ ¬ FE nx gl M far0))
theorem fby_v {nx : Nat → Nat → Int} {gl : Nat → Bool} {M : Nat} {far : Nat → Int} (hM : M ≤ 120) (hnx : ∀ a s, nx a s < M) (hnv : ∀ a s, nx a s = -1 ∨ 0 ≤ nx a s) (h : FS nx gl far) {a s : Nat} (hs : s < 8) : fby nx far a s = 268435456 ∨ ∃ n : Nat, fby nx far a s = (n : Int) + 1 ∧ n < 268435456 ∧ toG nx gl (n + 1) a := by
  unfold fby
  by_cases c : nx a s = -1
  · rw [if_pos c]; exact Or.inl rfl
  rw [if_neg c]
  obtain ⟨b, hb⟩ : ∃ b : Nat, nx a s = b := ⟨(nx a s).toNat, by have := hnv a s; omega⟩
  have hbM : b < M := by have := hnx a s; omega
  rw [hb, Int.toNat_natCast]
  obtain x | ⟨n, n1, n2, n3⟩ := (h b (by omega)).1
  · rw [if_pos x]; exact Or.inl rfl
  · rw [if_neg (by omega), n1]
    exact Or.inr ⟨n, rfl, n2, toG_pre hs hb n3⟩
theorem fby_le {nx : Nat → Nat → Int} {gl : Nat → Bool} {M k : Nat} {far : Nat → Int} (hM : M ≤ 120) (hnx : ∀ a s, nx a s < M) (hk : k < 1000) (hc : FC nx gl M k far) {a s b n : Nat} (hb : nx a s = (b : Int)) (hn : n ≤ k) (ht : toG nx gl n b) : fby nx far a s ≤ (n : Int) + 1 := by
  have hbM : b < M := by have := hnx a s; omega
  have := hc b hbM n hn ht
  unfold fby
  rw [if_neg (by omega), hb, Int.toNat_natCast, if_neg (by omega)]
  omega
/-- one street of one spot -/
theorem FQ_keep {nx : Nat → Nat → Int} {gl : Nat → Bool} {M k P : Nat} {far0 far : Nat → Int} {fl : Int} (hM : M ≤ 120) (hnx : ∀ a s, nx a s < M) (hk : k < 1000) (h : FQ nx gl M k P far0 far fl) (hx : far (P / 8) ≤ 0 ∨ far (P / 8) ≤ fby nx far (P / 8) (P % 8)) : FQ nx gl M k (P + 1) far0 far fl := by
  obtain ⟨h1, h2, h3, h4⟩ := h
  refine ⟨h1, h2, fun Q hQ b hb n hn ht => ?_, ?_⟩
  · by_cases c : Q = P
    · subst c
      have := fby_le hM hnx hk h2 hb hn ht
      omega
    · exact h3 Q (by omega) b hb n hn ht
  · obtain ⟨a1, a2, a3⟩ | h4 := h4
    · refine Or.inl ⟨a1, a2, fun Q hQ => ?_⟩
      by_cases c : Q = P
      · subst c; exact hx
      · exact a3 Q (by omega)
    · exact Or.inr h4
theorem FQ_less {nx : Nat → Nat → Int} {gl : Nat → Bool} {M k P u : Nat} {far0 far : Nat → Int} {fl : Int} (hM : M ≤ 120) (hnx : ∀ a s, nx a s < M) (hnv : ∀ a s, nx a s = -1 ∨ 0 ≤ nx a s) (hk : k < 1000) (h : FQ nx gl M k P far0 far fl) (hu : P / 8 = u) (huM : u < M) (h0 : 0 < far u) (hx : fby nx far u (P % 8) < far u) : FQ nx gl M k (P + 1) far0 (pt far u (fby nx far u (P % 8))) 1 := by
  obtain ⟨h1, h2, h3, h4⟩ := h
  have hf : far u ≤ 268435456 := by
    obtain x | ⟨n, n1, n2, _⟩ := (h1 u (by omega)).1 <;> omega
  obtain y | ⟨n, n1, n2, n3⟩ := fby_v hM hnx hnv h1 (a := u) (s := P % 8) (by omega)
  · omega
  refine ⟨fun a ha => ?_, fun a ha m hm ht => ?_, fun Q hQ b hb m hm ht => ?_, Or.inr ⟨rfl, fun hE => ?_⟩⟩
  · by_cases c : a = u
    · subst c
      rw [pt_eq]
      refine ⟨Or.inr ⟨n + 1, by omega, by omega, n3⟩, fun hg => ?_⟩
      have := (h1 a ha).2 hg
      omega
    · rw [pt_lt c]; exact h1 a ha
  · by_cases c : a = u
    · subst c
      rw [pt_eq]
      have := h2 a ha m hm ht
      omega
    · rw [pt_lt c]; exact h2 a ha m hm ht
  · by_cases c : Q / 8 = u
    · rw [c, pt_eq]
      by_cases cq : Q = P
      · subst cq
        rw [hu] at hb
        exact fby_le hM hnx hk h2 hb hm ht
      · have := h3 Q (by omega) b hb m hm ht
        rw [c] at this
        omega
    · rw [pt_lt c]
      by_cases cq : Q = P
      · subst cq; exact absurd hu c
      · exact h3 Q (by omega) b hb m hm ht
  · obtain ⟨a1, a2, _⟩ | ⟨_, a2⟩ := h4
    · rw [← a2] at hE
      have := hE u huM (n + 1) n3
      omega
    · exact a2 hE
theorem FQ_out {nx : Nat → Nat → Int} {gl : Nat → Bool} {M k P u : Nat} {far0 far : Nat → Int} {fl : Int} (h : FQ nx gl M k P far0 far fl) (hu : P / 8 = u) (hx : far u ≤ 0) : FQ nx gl M k (8 * u + 8) far0 far fl := by
  obtain ⟨h1, h2, h3, h4⟩ := h
  refine ⟨h1, h2, fun Q hQ b hb n hn ht => ?_, ?_⟩
  · by_cases c : Q < P
    · exact h3 Q c b hb n hn ht
    · have : Q / 8 = u := by omega
      rw [this]; omega
  · obtain ⟨a1, a2, a3⟩ | h4 := h4
    · refine Or.inl ⟨a1, a2, fun Q hQ => ?_⟩
      by_cases c : Q < P
      · exact a3 Q c
      · have : Q / 8 = u := by omega
        rw [this]; exact Or.inl hx
    · exact Or.inr h4
theorem FQ_end {nx : Nat → Nat → Int} {gl : Nat → Bool} {M k : Nat} {far0 far : Nat → Int} {fl : Int} (hM : M ≤ 120) (hnx : ∀ a s, nx a s < M) (h : FQ nx gl M k (8 * M) far0 far fl) : FS nx gl far ∧ FC nx gl M (k + 1) far ∧ ((fl = 0 ∧ FE nx gl M far) ∨ (fl = 1 ∧ ¬ FE nx gl M far0)) := by
  obtain ⟨h1, h2, h3, h4⟩ := h
  refine ⟨h1, fun a ha n hn ht => ?_, ?_⟩
  · cases n with
    | zero => rw [(h1 a (by omega)).2 (toG_0 ht)]; omega
    | succ n =>
      obtain ⟨b, s, hs, hb, ht'⟩ := toG_suc ht
      have e1 : (8 * a + s) / 8 = a := by omega
      have e2 : (8 * a + s) % 8 = s := by omega
      have := h3 (8 * a + s) (by omega) b (by rw [e1, e2]; exact hb) n (by omega) ht'
      rw [e1] at this
      omega
  · obtain ⟨a1, a2, a3⟩ | h4 := h4
    · refine Or.inl ⟨a1, fun a ha n => ?_⟩
      induction n generalizing a with
      | zero => intro ht; rw [(h1 a (by omega)).2 (toG_0 ht)]; omega
      | succ n ih =>
        intro ht
        obtain ⟨b, s, hs, hb, ht'⟩ := toG_suc ht
        have hbM : b < M := by have := hnx a s; omega
        have i := ih b hbM ht'
        have e1 : (8 * a + s) / 8 = a := by omega
        have e2 : (8 * a + s) % 8 = s := by omega
        have q := a3 (8 * a + s) (by omega)
        rw [e1, e2] at q
        obtain q | q := q
        · omega
        · unfold fby at q
          rw [if_neg (by omega), hb, Int.toNat_natCast] at q
          by_cases c : far b = 268435456
          · have hf : far a ≤ 268435456 := by
              obtain x | ⟨n, n1, n2, _⟩ := (h1 a (by omega)).1 <;> omega
            omega
          · rw [if_neg c] at q; omega
    · exact Or.inr h4
theorem FE_of {nx : Nat → Nat → Int} {gl : Nat → Bool} {M : Nat} {far : Nat → Int} (hM : M ≤ 120) (hnx : ∀ a s, nx a s < M) (h : FC nx gl M 120 far) : FE nx gl M far ∧ ∀ a, a < M → ∀ n, toG nx gl n a → ∃ d, d < M ∧ d ≤ n ∧ toG nx gl d a ∧ ∀ m, toG nx gl m a → d ≤ m := by
  have key : ∀ a, a < M → ∀ n, toG nx gl n a → ∃ d, d < M ∧ d ≤ n ∧ toG nx gl d a ∧ ∀ m, toG nx gl m a → d ≤ m := by
    intro a ha n hn
    obtain ⟨d, d1, d2, d3⟩ := least_of (P := fun n => toG nx gl n a) hn
    refine ⟨d, ?_, d1, d2, d3⟩
    refine dist_lt (P := fun d a => a < M ∧ toG nx gl d a ∧ ∀ m, toG nx gl m a → d ≤ m) (M := M) (fun d a h => ?_) (fun d d' a h h' => ?_) (fun d a h => h.1) ⟨ha, d2, d3⟩
    · obtain ⟨x1, x2, x3⟩ := h
      obtain ⟨b, s, hs, hb, ht⟩ := toG_suc x2
      refine ⟨b, by have := hnx a s; omega, ht, fun m hm => ?_⟩
      have := x3 (m + 1) (toG_pre hs hb hm)
      omega
    · have := h.2.2 _ h'.2.1
      have := h'.2.2 _ h.2.1
      omega
  refine ⟨fun a ha n hn => ?_, key⟩
  obtain ⟨d, d1, d2, d3, _⟩ := key a ha n hn
  have := h a ha d (by omega) d3
  omega
