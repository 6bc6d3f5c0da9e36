/-! the way: the class's by whence one came, the reference's down how far it is -/
def upW (pr : Nat → Nat) (p : Nat) : Nat → Nat
  | 0 => p
  | i + 1 => pr (upW pr p i) / 8
theorem way_up {nx : Nat → Nat → Int} {gl : Nat → Bool} {st M found p : Nat} {o L pr : Nat → Nat} {far : Nat → Int} (hM : M ≤ 120) (hnv : ∀ a s, nx a s = -1 ∨ 0 ≤ nx a s) (h : BI nx st M (8 * found) found o L pr) (hF : FF nx gl M far) (hp : p < found) (hg : gl (o p) = true) (hq : ∀ q, q < p → gl (o q) = false) :
    ∀ i, i ≤ L p → (upW pr p i < found ∧ L (upW pr p i) = L p - i ∧ far (o (upW pr p i)) = (i : Int) ∧ ∀ q, q < upW pr p i → ¬ (L q = L p - i ∧ far (o q) = (i : Int)))
      ∧ (i < L p → nx (o (upW pr p (i + 1))) (pr (upW pr p i) % 8) = (o (upW pr p i) : Int) ∧ ∀ s, s < pr (upW pr p i) % 8 → fby nx far (o (upW pr p (i + 1))) s ≠ (i : Int) + 1) := by
  obtain ⟨ft, fl⟩ := first_far h hp hg hq
  obtain ⟨h1, h2, h3, h4, h5⟩ := id h
  have Lb : L p < 120 := by
    have := (BI_reach h p hp).2
    have := pigeon M found o h2 h3
    omega
  have near : ∀ q, q < found → ∀ n, toG nx gl n (o q) → L p ≤ L q + n := by
    rintro q hq n ⟨b, b1, b2⟩
    exact fl _ ⟨b, b1, rIn_add (BI_reach h q hq).1 b2⟩
  have exact_ : ∀ q, q < found → ∀ n : Nat, far (o q) = (n : Int) → n < 1000 → toG nx gl n (o q) := by
    intro q hq n hn hn'
    obtain ⟨d, d1, d2, d3, _⟩ | ⟨d1, _⟩ := hF (o q) (h2 q hq)
    · have : d = n := by omega
      rw [← this]; exact d3
    · omega
  have stepv : ∀ q s, q < found → s < 8 → 0 ≤ nx (o q) s → ∃ q', q' < found ∧ nx (o q) s = (o q' : Int) ∧ (q' = 0 ∨ pr q' ≤ 8 * q + s) := by
    intro q s hq hs h0
    have e1 : (8 * q + s) / 8 = q := by omega
    have e2 : (8 * q + s) % 8 = s := by omega
    have := h5 (8 * q + s) (by omega) (by omega) (by rw [e1, e2]; exact h0)
    rw [e1, e2] at this
    exact this
  have prm : ∀ q q', 1 ≤ q → q ≤ q' → q' < found → pr q ≤ pr q' := by
    intro q q' a b c
    by_cases e : q = q'
    · rw [e]; exact Nat.le_refl _
    · exact Nat.le_of_lt ((h4 q' (by omega) c).2.2.2.2 q a (by omega))
  -- a street down from a spot at level k (far i+1) leads to a spot at level k+1, not ahead of its first
  have down : ∀ i q s, i < L p → q < found → s < 8 → L q = L p - (i + 1) → fby nx far (o q) s = (i : Int) + 1 → (upW pr p i < found ∧ L (upW pr p i) = L p - i ∧ far (o (upW pr p i)) = (i : Int) ∧ ∀ q, q < upW pr p i → ¬ (L q = L p - i ∧ far (o q) = (i : Int))) → pr (upW pr p i) ≤ 8 * q + s := by
    intro i q s hi hq hs hL hb ⟨w1, w2, w3, w4⟩
    unfold fby at hb
    by_cases c : nx (o q) s = -1
    · rw [if_pos c] at hb
      have := (BI_reach h p hp).2
      have : found ≤ 268435456 ∨ 268435456 < found := by omega
      have hLi : (i : Int) < 268435455 := by
        have e := exact_ (upW pr p i) w1
        obtain ⟨d, d1, d2, _, _⟩ | ⟨d1, d2⟩ := hF (o (upW pr p i)) (h2 _ w1)
        · omega
        · omega
      omega
    · rw [if_neg c] at hb
      have h0 : 0 ≤ nx (o q) s := by have := hnv (o q) s; omega
      · obtain ⟨q', r1, r2, r3⟩ := stepv q s hq hs h0
        rw [r2, Int.toNat_natCast] at hb
        have hlt : (i : Int) < 268435455 := by
          obtain ⟨d, d1, d2, _, _⟩ | ⟨d1, d2⟩ := hF (o (upW pr p i)) (h2 _ w1)
          · omega
          · omega
        by_cases cf : far (o q') = 268435456
        · rw [if_pos cf] at hb; omega
        · rw [if_neg cf] at hb
          have fq' : far (o q') = (i : Int) := by omega
          have hi' : i < 1000 := by
            obtain ⟨d, d1, d2, _, _⟩ | ⟨d1, d2⟩ := hF (o q') (h2 q' r1)
            · omega
            · omega
          have near' := near q' r1 i (exact_ q' r1 i fq' hi')
          have Lq' : L q' ≤ L q + 1 := by
            have r : rIn nx (L q + 1) st (o q') := ⟨o q, s, hs, (BI_reach h q hq).1, r2⟩
            obtain ⟨q2, z1, z2, z3⟩ := BI_least h (Nat.le_refl _) _ _ r
            have := h3 q' q2 r1 z1 z2
            rw [this]; exact z3
          have Lq : L q' = L p - i := by omega
          have ge : upW pr p i ≤ q' := by
            by_cases z : upW pr p i ≤ q'
            · exact z
            · exact absurd ⟨Lq, fq'⟩ (w4 q' (by omega))
          have q0 : q' ≠ 0 := fun e => by rw [e, h1.2.2] at Lq; omega
          have u0 : 1 ≤ upW pr p i := by
            by_cases z : upW pr p i = 0
            · rw [z, h1.2.2] at w2; omega
            · omega
          have := prm (upW pr p i) q' u0 ge r1
          obtain r3 | r3 := r3
          · exact absurd r3 q0
          · omega
  intro i
  induction i with
  | zero =>
    intro _
    have base : upW pr p 0 < found ∧ L (upW pr p 0) = L p - 0 ∧ far (o (upW pr p 0)) = ((0 : Nat) : Int) ∧ ∀ q, q < upW pr p 0 → ¬ (L q = L p - 0 ∧ far (o q) = ((0 : Nat) : Int)) := by
      refine ⟨hp, rfl, ?_, fun q hq' ⟨_, e2⟩ => ?_⟩
      · obtain ⟨d, d1, d2, d3, d4⟩ | ⟨_, d2⟩ := hF (o p) (h2 p hp)
        · have := d4 0 ⟨o p, hg, rfl⟩
          show far (o p) = 0
          omega
        · exact absurd ⟨o p, hg, rfl⟩ (d2 0)
      · have := toG_0 (exact_ q (by have : q < p := hq'; omega) 0 e2 (by omega))
        rw [hq q hq'] at this
        cases this
    refine ⟨base, fun hi => ?_⟩
    have u1 : 1 ≤ p := by
      by_cases z : p = 0
      · rw [z, h1.2.2] at hi; omega
      · omega
    obtain ⟨_, a2, a3, a4, _⟩ := h4 p u1 hp
    refine ⟨a3, fun s hs hb => ?_⟩
    have hb' : fby nx far (o (pr p / 8)) s = ((0 : Nat) : Int) + 1 := hb
    have hs' : s < pr p % 8 := hs
    have := down 0 (pr p / 8) s hi (by omega) (by omega) (by omega) hb' base
    have e : pr (upW pr p 0) = pr p := rfl
    omega
  | succ i ih =>
    intro hi
    obtain ⟨⟨w1, w2, w3, w4⟩, hn⟩ := ih (by omega)
    have hn := hn (by omega)
    have u0 : 1 ≤ upW pr p i := by
      by_cases z : upW pr p i = 0
      · rw [z, h1.2.2] at w2; omega
      · omega
    obtain ⟨_, a2, a3, a4, _⟩ := h4 (upW pr p i) u0 w1
    have euw : upW pr p (i + 1) = pr (upW pr p i) / 8 := rfl
    have Lu : L (upW pr p (i + 1)) = L p - (i + 1) := by rw [euw]; omega
    have uf : upW pr p (i + 1) < found := by rw [euw]; omega
    have i1000 : i < 1000 := by omega
    have fu : far (o (upW pr p (i + 1))) = ((i + 1 : Nat) : Int) := by
      have tg : toG nx gl (i + 1) (o (upW pr p (i + 1))) := toG_pre (by omega) hn.1 (exact_ _ w1 i w3 i1000)
      obtain ⟨d, d1, d2, d3, d4⟩ | ⟨_, d2⟩ := hF (o (upW pr p (i + 1))) (h2 _ uf)
      · have x1 := d4 _ tg
        have x2 := near _ uf d d3
        omega
      · exact absurd tg (d2 _)
    have fbu : ∀ q, q < found → L q = L p - (i + 1) → far (o q) = ((i + 1 : Nat) : Int) → ∃ s, s < 8 ∧ fby nx far (o q) s = (i : Int) + 1 := by
      intro q hq hL hf
      have hi1 : i + 1 < 1000 := by
        obtain ⟨d, d1, d2, _, _⟩ | ⟨d1, _⟩ := hF (o q) (h2 q hq)
        · omega
        · omega
      obtain ⟨b, s, b1, b2, b3⟩ := toG_suc (exact_ q hq (i + 1) hf hi1)
      obtain ⟨q', r1, r2, _⟩ := stepv q s hq b1 (by rw [b2]; omega)
      have eb : b = o q' := by omega
      refine ⟨s, b1, ?_⟩
      unfold fby
      rw [if_neg (by omega), b2, Int.toNat_natCast]
      rw [eb] at b3 ⊢
      obtain ⟨d, d1, d2, d3, d4⟩ | ⟨_, d2⟩ := hF (o q') (h2 q' r1)
      · have x1 := d4 _ b3
        have b2' : nx (o q) s = (o q' : Int) := by rw [b2, eb]
        have x2 : ∀ m, toG nx gl m (o q) → i + 1 ≤ m := by
          intro m hm
          obtain ⟨e, e1, e2, e3, e4⟩ | ⟨e1, _⟩ := hF (o q) (h2 q hq)
          · have := e4 m hm; omega
          · omega
        have := x2 (d + 1) (toG_pre b1 b2' d3)
        rw [if_neg (by omega)]; omega
      · exact absurd b3 (d2 _)
    have lst : ∀ q, q < upW pr p (i + 1) → ¬ (L q = L p - (i + 1) ∧ far (o q) = ((i + 1 : Nat) : Int)) := by
      rintro q hq' ⟨e1, e2⟩
      obtain ⟨s, s1, s2⟩ := fbu q (by omega) e1 e2
      have := down i q s (by omega) (by omega) s1 e1 s2 ⟨w1, w2, w3, w4⟩
      omega
    refine ⟨⟨uf, Lu, fu, lst⟩, fun hi' => ?_⟩
    have u1 : 1 ≤ upW pr p (i + 1) := by
      by_cases z : upW pr p (i + 1) = 0
      · rw [z, h1.2.2] at Lu; omega
      · omega
    obtain ⟨_, c2, c3, c4, _⟩ := h4 (upW pr p (i + 1)) u1 uf
    refine ⟨c3, fun s hs hb => ?_⟩
    have eu2 : upW pr p (i + 1 + 1) = pr (upW pr p (i + 1)) / 8 := rfl
    have hL2 : L (upW pr p (i + 1 + 1)) = L p - (i + 1 + 1) := by rw [eu2]; omega
    have := down (i + 1) (upW pr p (i + 1 + 1)) s hi' (by rw [eu2]; omega) (by omega) hL2 hb ⟨uf, Lu, fu, lst⟩
    omega
theorem strOf_L {S : SS} {t found p : Nat} {o L pr : Nat → Nat} {i : Nat} (hr : BR S t found o L pr) (ho : ∀ q, q < found → o q < 120) (hu : ∀ j, j ≤ L p → upW pr p j < found ∧ L (upW pr p j) = L p - j) (h1 : ∀ q, q < found → L q ≠ 0 → 1 ≤ q) (hi : i < L p) (hL : L p < 120) : ∀ (m n k : Nat), m + k = L p - 1 - i → m < n → fX10_streetOfWay_L25 t i S n ((o (upW pr p k) : Nat) : Int) ((L p : Int) - 1 - k) = some (1, ((o (upW pr p (L p - 1 - i)) : Nat) : Int)) := by
  intro m
  induction m with
  | zero =>
    intro n k hk hn
    obtain ⟨n, rfl⟩ := suc_of hn
    have ek : k = L p - 1 - i := by omega
    unfold fX10_streetOfWay_L25
    rw [if_pos (by omega), ek]
  | succ m ih =>
    intro n k hk hn
    obtain ⟨n, rfl⟩ := suc_of hn
    obtain ⟨u1, u2⟩ := hu k (by omega)
    have ok := ho _ u1
    have q1 := h1 _ u1 (by omega)
    have ew : w32 ((L p : Int) - 1 - k + (-1)) = (L p : Int) - 1 - ((k + 1 : Nat) : Int) := by rw [w32_eq (by omega) (by omega)]; omega
    unfold fX10_streetOfWay_L25
    rw [if_neg (by omega), spot_y (by omega) (by omega), bnd_s, if_pos rfl, rdA_ok (by omega) (by omega), Int.toNat_natCast, (hr.2.2.2.2 _ q1 u1).1, lt_ok, ew]
    exact ih n (k + 1) (by omega) (by omega)
theorem streetOfWay_ok {S : SS} {t found p : Nat} {o L pr : Nat → Nat} {i : Int} (hr : BR S t found o L pr) (ho : ∀ q, q < found → o q < 120) (hp : p < found) (hu : ∀ j, j ≤ L p → upW pr p j < found ∧ L (upW pr p j) = L p - j) (h1 : ∀ q, q < found → L q ≠ 0 → 1 ≤ q) (hL : L p < 120) (hi : 0 ≤ i) : fX10_streetOfWay t ((o p : Nat) : Int) i S = some (if i < (L p : Int) then ((pr (upW pr p (L p - 1 - i.toNat)) % 8 : Nat) : Int) else -1) := by
  have op := ho p hp
  unfold fX10_streetOfWay
  rw [goingsTo_ok (by omega) (by omega), Int.toNat_natCast, hr.2.2.1 p hp, bnd_s, if_neg (by omega)]
  by_cases c : i < (L p : Int)
  · obtain ⟨n, rfl⟩ : ∃ n : Nat, i = n := ⟨i.toNat, by omega⟩
    obtain ⟨u1, u2⟩ := hu (L p - 1 - n) (by omega)
    have ou := ho _ u1
    have l := strOf_L (S := S) (t := t) (i := n) hr ho hu h1 (by omega) hL (L p - 1 - n) FU 0 (by omega) (by unfold FU; omega)
    have e0 : (L p : Int) - 1 - ((0 : Nat) : Int) = (L p : Int) - 1 := by omega
    rw [e0] at l
    have l' : fX10_streetOfWay_L25 t n S FU ((o p : Nat) : Int) ((L p : Int) - 1) = some (1, ((o (upW pr p (L p - 1 - n)) : Nat) : Int)) := l
    rw [if_pos c, if_pos c, lt_ok, w32_eq (by omega) (by omega), l', bnd_s]
    simp only
    rw [if_neg (by decide), spot_y (by omega) (by omega), bnd_s, if_pos rfl, rdA_ok (by omega) (by omega), Int.toNat_natCast, (hr.2.2.2.2 _ (h1 _ u1 (by omega)) u1).2, Int.toNat_natCast]
  · rw [if_neg c, if_neg c]
