/-! ways in a graph of spots; a search from one of them -/
theorem pigeon : ∀ (m n : Nat) (f : Nat → Nat), (∀ i, i < n → f i < m) → (∀ i j, i < n → j < n → f i = f j → i = j) → n ≤ m := by
  intro m
  induction m with
  | zero =>
    intro n f hf _
    cases n with
    | zero => exact Nat.le_refl _
    | succ n => exact absurd (hf 0 (by omega)) (Nat.not_lt_zero _)
  | succ m ih =>
    intro n f hf inj
    cases n with
    | zero => omega
    | succ n =>
      by_cases h : ∃ i, i < n + 1 ∧ f i = m
      · obtain ⟨i0, hi0, e0⟩ := h
        have : n ≤ m := by
          refine ih n (fun j => if j = i0 then f n else f j) (fun i hi => ?_) (fun i j hi hj e => ?_)
          · show (if i = i0 then f n else f i) < m
            by_cases c : i = i0
            · rw [if_pos c]
              have h1 := hf n (by omega)
              have h2 : f n ≠ m := fun x => by have := inj n i0 (by omega) hi0 (x.trans e0.symm); omega
              omega
            · rw [if_neg c]
              have h1 := hf i (by omega)
              have h2 : f i ≠ m := fun x => c (inj i i0 (by omega) hi0 (x.trans e0.symm))
              omega
          · have e : (if i = i0 then f n else f i) = (if j = i0 then f n else f j) := e
            by_cases c : i = i0
            · by_cases d : j = i0
              · omega
              · rw [if_pos c, if_neg d] at e
                have := inj n j (by omega) (by omega) e
                omega
            · by_cases d : j = i0
              · rw [if_neg c, if_pos d] at e
                have := inj i n (by omega) (by omega) e
                omega
              · rw [if_neg c, if_neg d] at e
                exact inj i j (by omega) (by omega) e
        omega
      · have : n + 1 ≤ m := ih (n + 1) f (fun i hi => by
          have h1 := hf i hi
          have h2 : f i ≠ m := fun x => h ⟨i, hi, x⟩
          omega) inj
        omega
def rIn (nx : Nat → Nat → Int) : Nat → Nat → Nat → Prop
  | 0, a, b => a = b
  | n + 1, a, b => ∃ c s, s < 8 ∧ rIn nx n a c ∧ nx c s = (b : Int)
theorem rIn_pre {nx : Nat → Nat → Int} : ∀ {n a b c s : Nat}, s < 8 → nx a s = (b : Int) → rIn nx n b c → rIn nx (n + 1) a c := by
  intro n
  induction n with
  | zero => intro a b c s hs h h'; cases h'; exact ⟨a, s, hs, rfl, h⟩
  | succ n ih =>
    intro a b c s hs h h'
    obtain ⟨d, s', h1, h2, h3⟩ := h'
    exact ⟨d, s', h1, ih hs h h2, h3⟩
theorem rIn_fst {nx : Nat → Nat → Int} : ∀ {n a c : Nat}, rIn nx (n + 1) a c → ∃ b s, s < 8 ∧ nx a s = ((b : Nat) : Int) ∧ rIn nx n b c := by
  intro n
  induction n with
  | zero => intro a c h; obtain ⟨d, s, h1, h2, h3⟩ := h; cases h2; exact ⟨c, s, h1, h3, rfl⟩
  | succ n ih =>
    intro a c h
    obtain ⟨d, s, h1, h2, h3⟩ := h
    obtain ⟨b, s', q1, q2, q3⟩ := ih h2
    exact ⟨b, s', q1, q2, d, s, h1, q3, h3⟩
theorem rIn_add {nx : Nat → Nat → Int} : ∀ {m n a b c : Nat}, rIn nx n a b → rIn nx m b c → rIn nx (n + m) a c := by
  intro m
  induction m with
  | zero => intro n a b c h h'; cases h'; exact h
  | succ m ih =>
    intro n a b c h h'
    obtain ⟨d, s, h1, h2, h3⟩ := h'
    exact ⟨d, s, h1, ih h h2, h3⟩
theorem rIn_lt {nx : Nat → Nat → Int} {M : Nat} (hM : ∀ a s, nx a s < M) : ∀ {n a b : Nat}, a < M → rIn nx n a b → b < M := by
  intro n
  cases n with
  | zero => intro a b h h'; cases h'; exact h
  | succ n => intro a b h h'; obtain ⟨c, s, _, _, e⟩ := h'; have := hM c s; omega
theorem least_of {P : Nat → Prop} {n : Nat} (h : P n) : ∃ d, d ≤ n ∧ P d ∧ ∀ m, P m → d ≤ m := by
  induction n using Nat.strongRecOn with
  | _ n ih =>
    by_cases c : ∃ m, m < n ∧ P m
    · obtain ⟨m, hm, hp⟩ := c
      obtain ⟨d, h1, h2, h3⟩ := ih m hm hp
      exact ⟨d, by omega, h2, h3⟩
    · refine ⟨n, Nat.le_refl _, h, fun m hm => ?_⟩
      by_cases d : n ≤ m
      · exact d
      · exact absurd ⟨m, by omega, hm⟩ c
/-- distances are all taken, so they are small -/
theorem dist_lt {P : Nat → Nat → Prop} {M : Nat} (hs : ∀ d a, P (d + 1) a → ∃ b, P d b) (hu : ∀ d d' a, P d a → P d' a → d = d') (hM : ∀ d a, P d a → a < M) {d a : Nat} (h : P d a) : d < M := by
  have all : ∀ k, k ≤ d → ∃ b, P (d - k) b := by
    intro k
    induction k with
    | zero => intro _; exact ⟨a, h⟩
    | succ k ih =>
      intro hk
      obtain ⟨b, hb⟩ := ih (by omega)
      have e : d - k = (d - (k + 1)) + 1 := by omega
      rw [e] at hb
      exact hs _ _ hb
  have ex : ∀ j, ∃ b, j ≤ d → P j b := by
    intro j
    by_cases c : j ≤ d
    · obtain ⟨b, hb⟩ := all (d - j) (by omega)
      have e : d - (d - j) = j := by omega
      rw [e] at hb
      exact ⟨b, fun _ => hb⟩
    · exact ⟨0, fun h => absurd h c⟩
  have := pigeon M (d + 1) (fun j => Classical.choose (ex j)) (fun i hi => hM i _ (Classical.choose_spec (ex i) (by omega))) (fun i j hi hj e => by
    have h1 := Classical.choose_spec (ex i) (by omega)
    have h2 := Classical.choose_spec (ex j) (by omega)
    have e : Classical.choose (ex i) = Classical.choose (ex j) := e
    rw [e] at h1
    exact hu _ _ _ h1 h2)
  omega
def Dist (nx : Nat → Nat → Int) (a b d : Nat) : Prop := rIn nx d a b ∧ ∀ n, rIn nx n a b → d ≤ n
theorem Dist_u {nx : Nat → Nat → Int} {a b d d' : Nat} (h : Dist nx a b d) (h' : Dist nx a b d') : d = d' := by
  have h1 := h.2 _ h'.1
  have h2 := h'.2 _ h.1
  omega
theorem Dist_of {nx : Nat → Nat → Int} {a b n : Nat} (h : rIn nx n a b) : ∃ d, d ≤ n ∧ Dist nx a b d := by
  obtain ⟨d, h1, h2, h3⟩ := least_of (P := fun n => rIn nx n a b) h
  exact ⟨d, h1, h2, h3⟩
theorem Dist_pred {nx : Nat → Nat → Int} {a b d : Nat} (h : Dist nx a b (d + 1)) : ∃ c s, s < 8 ∧ Dist nx a c d ∧ nx c s = (b : Int) := by
  obtain ⟨c, s, h1, h2, h3⟩ := h.1
  refine ⟨c, s, h1, ⟨h2, fun n hn => ?_⟩, h3⟩
  have := h.2 (n + 1) ⟨c, s, h1, hn, h3⟩
  omega
theorem Dist_lt {nx : Nat → Nat → Int} {M : Nat} (hM : ∀ a s, nx a s < M) {a b d : Nat} (ha : a < M) (h : Dist nx a b d) : d < M :=
  dist_lt (P := fun d b => Dist nx a b d) (fun d b h => by obtain ⟨c, _, _, q, _⟩ := Dist_pred h; exact ⟨c, q⟩) (fun d d' b h h' => Dist_u h h') (fun d b h => rIn_lt hM ha h.1) h
/-! the search by a queue: pairs of a place in the queue and a street, one behind the other -/
def BI (nx : Nat → Nat → Int) (st M T found : Nat) (o L pr : Nat → Nat) : Prop :=
  (1 ≤ found ∧ o 0 = st ∧ L 0 = 0) ∧ (∀ p, p < found → o p < M) ∧ (∀ p q, p < found → q < found → o p = o q → p = q)
  ∧ (∀ p, 1 ≤ p → p < found → pr p < T ∧ pr p / 8 < p ∧ nx (o (pr p / 8)) (pr p % 8) = (o p : Int) ∧ L p = L (pr p / 8) + 1 ∧ ∀ q, 1 ≤ q → q < p → pr q < pr p)
  ∧ (∀ P, P < T → P / 8 < found → 0 ≤ nx (o (P / 8)) (P % 8) → ∃ p, p < found ∧ nx (o (P / 8)) (P % 8) = (o p : Int) ∧ (p = 0 ∨ pr p ≤ P))
theorem BI_old {nx : Nat → Nat → Int} {st M T found : Nat} {o L pr : Nat → Nat} (h : BI nx st M T found o L pr) (hT : T / 8 < found) (hx : nx (o (T / 8)) (T % 8) < 0 ∨ ∃ p, p < found ∧ nx (o (T / 8)) (T % 8) = (o p : Int)) : BI nx st M (T + 1) found o L pr := by
  obtain ⟨h1, h2, h3, h4, h5⟩ := h
  refine ⟨h1, h2, h3, fun p a b => ?_, fun P hP hf h0 => ?_⟩
  · obtain ⟨q1, q2⟩ := h4 p a b
    exact ⟨by omega, q2⟩
  · by_cases c : P = T
    · subst c
      obtain hx | ⟨p, hp, e⟩ := hx
      · omega
      · refine ⟨p, hp, e, ?_⟩
        by_cases c0 : p = 0
        · exact Or.inl c0
        · exact Or.inr (Nat.le_of_lt (h4 p (by omega) hp).1)
    · exact h5 P (by omega) hf h0
theorem BI_new {nx : Nat → Nat → Int} {st M T found v : Nat} {o L pr : Nat → Nat} (h : BI nx st M T found o L pr) (hT : T / 8 < found) (hv : v < M) (hx : nx (o (T / 8)) (T % 8) = (v : Int)) (hn : ∀ p, p < found → o p ≠ v) :
    BI nx st M (T + 1) (found + 1) (pt o found v) (pt L found (L (T / 8) + 1)) (pt pr found T) ∧ found < M := by
  obtain ⟨h1, h2, h3, h4, h5⟩ := h
  have main : BI nx st M (T + 1) (found + 1) (pt o found v) (pt L found (L (T / 8) + 1)) (pt pr found T) := by
    refine ⟨⟨by omega, by rw [pt_lt (by omega)]; exact h1.2.1, by rw [pt_lt (by omega)]; exact h1.2.2⟩, fun p hp => ?_, fun p q hp hq e => ?_, fun p a b => ?_, fun P hP hf h0 => ?_⟩
    · by_cases c : p = found
      · rw [c, pt_eq]; exact hv
      · rw [pt_lt c]; exact h2 p (by omega)
    · by_cases c : p = found
      · by_cases d : q = found
        · omega
        · rw [c, pt_eq, pt_lt d] at e
          exact absurd e.symm (hn q (by omega))
      · by_cases d : q = found
        · rw [d, pt_eq, pt_lt c] at e
          exact absurd e (hn p (by omega))
        · rw [pt_lt c, pt_lt d] at e
          exact h3 p q (by omega) (by omega) e
    · by_cases c : p = found
      · subst c
        rw [pt_eq, pt_eq, pt_eq]
        refine ⟨by omega, hT, by rw [pt_lt (by omega)]; exact hx, by rw [pt_lt (by omega)], fun q q1 q2 => ?_⟩
        rw [pt_lt (by omega)]
        exact (h4 q q1 q2).1
      · rw [pt_lt c, pt_lt c, pt_lt c]
        obtain ⟨q1, q2, q3, q4, q5⟩ := h4 p a (by omega)
        refine ⟨by omega, q2, by rw [pt_lt (by omega)]; exact q3, by rw [pt_lt (by omega)]; exact q4, fun q r1 r2 => ?_⟩
        rw [pt_lt (by omega)]
        exact q5 q r1 r2
    · have hPf : P / 8 < found := by
        by_cases c : P = T
        · omega
        · omega
      rw [pt_lt (by omega)] at h0 ⊢
      by_cases c : P = T
      · subst c
        exact ⟨found, by omega, by rw [pt_eq]; exact hx, Or.inr (by rw [pt_eq]; omega)⟩
      · obtain ⟨p, p1, p2, p3⟩ := h5 P (by omega) hPf h0
        exact ⟨p, by omega, by rw [pt_lt (by omega)]; exact p2, by rw [pt_lt (by omega)]; exact p3⟩
  refine ⟨main, ?_⟩
  have := pigeon M (found + 1) (pt o found v) main.2.1 main.2.2.1
  omega
theorem BI_mono {nx : Nat → Nat → Int} {st M T found : Nat} {o L pr : Nat → Nat} (h : BI nx st M T found o L pr) : ∀ p' p, p ≤ p' → p' < found → L p ≤ L p' := by
  obtain ⟨h1, _, _, h4, _⟩ := h
  intro p'
  induction p' using Nat.strongRecOn with
  | _ p' ih =>
    intro p hp hf
    by_cases c : p = p'
    · rw [c]; exact Nat.le_refl _
    by_cases c0 : p = 0
    · rw [c0, h1.2.2]; exact Nat.zero_le _
    obtain ⟨_, a2, _, a4, _⟩ := h4 p (by omega) (by omega)
    obtain ⟨_, b2, _, b4, b5⟩ := h4 p' (by omega) hf
    have := b5 p (by omega) (by omega)
    have := ih (pr p' / 8) b2 (pr p / 8) (by omega) (by omega)
    omega
theorem BI_reach {nx : Nat → Nat → Int} {st M T found : Nat} {o L pr : Nat → Nat} (h : BI nx st M T found o L pr) : ∀ p, p < found → rIn nx (L p) st (o p) ∧ L p ≤ p := by
  obtain ⟨h1, _, _, h4, _⟩ := h
  intro p
  induction p using Nat.strongRecOn with
  | _ p ih =>
    intro hf
    by_cases c0 : p = 0
    · rw [c0, h1.2.2, h1.2.1]; exact ⟨rfl, Nat.le_refl _⟩
    obtain ⟨_, a2, a3, a4, _⟩ := h4 p (by omega) hf
    obtain ⟨i1, i2⟩ := ih _ a2 (by omega)
    rw [a4]
    exact ⟨⟨_, _, by omega, i1, a3⟩, by omega⟩
theorem BI_least {nx : Nat → Nat → Int} {st M T found : Nat} {o L pr : Nat → Nat} (h : BI nx st M T found o L pr) (hT : 8 * found ≤ T) : ∀ n v, rIn nx n st v → ∃ p, p < found ∧ v = o p ∧ L p ≤ n := by
  have mono := BI_mono h
  obtain ⟨h1, _, _, h4, h5⟩ := h
  intro n
  induction n with
  | zero => intro v hv; exact ⟨0, by omega, by rw [h1.2.1]; exact hv.symm, by rw [h1.2.2]; omega⟩
  | succ n ih =>
    intro v hv
    obtain ⟨c, s, hs, hc, e⟩ := hv
    obtain ⟨q, q1, q2, q3⟩ := ih c hc
    have e1 : (8 * q + s) / 8 = q := by omega
    have e2 : (8 * q + s) % 8 = s := by omega
    obtain ⟨p, p1, p2, p3⟩ := h5 (8 * q + s) (by omega) (by omega) (by rw [e1, e2, ← q2, e]; omega)
    rw [e1, e2, ← q2, e] at p2
    refine ⟨p, p1, by omega, ?_⟩
    obtain c0 | c1 := p3
    · rw [c0, h1.2.2]; omega
    · by_cases c0 : p = 0
      · rw [c0, h1.2.2]; omega
      obtain ⟨_, a2, _, a4, _⟩ := h4 p (by omega) p1
      have := mono q (pr p / 8) (by omega) q1
      omega
theorem BI_dist {nx : Nat → Nat → Int} {st M T found : Nat} {o L pr : Nat → Nat} (h : BI nx st M T found o L pr) (hT : 8 * found ≤ T) {p : Nat} (hp : p < found) : Dist nx st (o p) (L p) := by
  refine ⟨(BI_reach h p hp).1, fun n hn => ?_⟩
  obtain ⟨q, q1, q2, q3⟩ := BI_least h hT n _ hn
  have := h.2.2.1 p q hp q1 q2
  rw [this]; exact q3
