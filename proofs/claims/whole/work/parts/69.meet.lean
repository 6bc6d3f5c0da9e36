/-! bound -/
def bdQ (w y0 : Int) (X : Int → Prop) (r : Int) : Prop := (r = y0 ∨ X r) ∧ (w = 0 → r ≤ y0 ∧ ∀ x, X x → r ≤ x) ∧ (w ≠ 0 → y0 ≤ r ∧ ∀ x, X x → x ≤ r)
theorem bdQ_u {w y0 r r' : Int} {X Y : Int → Prop} (e : ∀ x, X x ↔ Y x) (h : bdQ w y0 X r) (h' : bdQ w y0 Y r') : r = r' := by
  obtain ⟨a1, a2, a3⟩ := h
  obtain ⟨b1, b2, b3⟩ := h'
  by_cases c : w = 0
  · obtain ⟨x1, x2⟩ := a2 c
    obtain ⟨y1, y2⟩ := b2 c
    have h1 : r ≤ r' := by
      obtain h | h := b1
      · omega
      · exact x2 _ ((e _).mpr h)
    have h2 : r' ≤ r := by
      obtain h | h := a1
      · omega
      · exact y2 _ ((e _).mp h)
    omega
  · obtain ⟨x1, x2⟩ := a3 c
    obtain ⟨y1, y2⟩ := b3 c
    have h1 : r' ≤ r := by
      obtain h | h := b1
      · omega
      · exact x2 _ ((e _).mpr h)
    have h2 : r ≤ r' := by
      obtain h | h := a1
      · omega
      · exact y2 _ ((e _).mp h)
    omega
theorem bdQ_add {w y0 r x : Int} {X : Int → Prop} (h : bdQ w y0 X r) : bdQ w y0 (fun z => X z ∨ z = x) (if w = 0 then (if x < r then x else r) else (if r < x then x else r)) := by
  obtain ⟨a1, a2, a3⟩ := h
  by_cases c : w = 0
  · rw [if_pos c]
    obtain ⟨x1, x2⟩ := a2 c
    by_cases d : x < r
    · rw [if_pos d]
      exact ⟨Or.inr (Or.inr rfl), fun _ => ⟨by omega, fun z hz => by obtain hz | hz := hz; have := x2 z hz; omega; omega⟩, fun h => absurd c h⟩
    · rw [if_neg d]
      refine ⟨?_, fun _ => ⟨by omega, fun z hz => ?_⟩, fun h => absurd c h⟩
      · obtain h | h := a1
        · exact Or.inl h
        · exact Or.inr (Or.inl h)
      · obtain hz | hz := hz
        · exact x2 z hz
        · omega
  · rw [if_neg c]
    obtain ⟨x1, x2⟩ := a3 c
    by_cases d : r < x
    · rw [if_pos d]
      refine ⟨Or.inr (Or.inr rfl), fun h => absurd h c, fun _ => ⟨by omega, fun z hz => ?_⟩⟩
      obtain hz | hz := hz
      · have := x2 z hz; omega
      · omega
    · rw [if_neg d]
      refine ⟨?_, fun h => absurd h c, fun _ => ⟨by omega, fun z hz => ?_⟩⟩
      · obtain h | h := a1
        · exact Or.inl h
        · exact Or.inr (Or.inl h)
      · obtain hz | hz := hz
        · exact x2 z hz
        · omega
theorem bdQ_c {w y0 r : Int} {X Y : Int → Prop} (e : ∀ x, X x ↔ Y x) (h : bdQ w y0 X r) : bdQ w y0 Y r := by
  have : X = Y := funext (fun x => propext (e x))
  rw [← this]; exact h
theorem bound_c {S : SS} {found : Nat} {o L pr : Nat → Nat} {w y0 : Int} (hr : BR S 35 found o L pr) (hf : found ≤ 120) (ho : ∀ p, p < found → o p < 120) : ∀ (m n k : Nat) (r : Int), m + k = found → m < n → bdQ w y0 (fun x => ∃ i, i < k ∧ x = ((o i % 20 : Nat) : Int)) r → ∃ r', fX11_bound_L55 w S n r k = some r' ∧ bdQ w y0 (fun x => ∃ i, i < found ∧ x = ((o i % 20 : Nat) : Int)) r' := by
  intro m
  induction m with
  | zero =>
    intro n k r hk hn h
    obtain ⟨n, rfl⟩ := suc_of hn
    have ek : k = found := by omega
    subst ek
    unfold fX11_bound_L55
    rw [hr.1, if_pos (by omega)]
    exact ⟨r, rfl, h⟩
  | succ m ih =>
    intro n k r hk hn h
    obtain ⟨n, rfl⟩ := suc_of hn
    have hk' := ho k (by omega)
    have ed : Int.tmod (o k : Int) 20 = ((o k % 20 : Nat) : Int) := by rw [tmod20 (by omega)]; omega
    have e : (if w = 0 then (lt (if ((o k % 20 : Nat) : Int) < r then ((o k % 20 : Nat) : Int) else r) fun x4 => some x4) else (lt (if r < ((o k % 20 : Nat) : Int) then ((o k % 20 : Nat) : Int) else r) fun x5 => some x5) : Option Int) = some (if w = 0 then (if ((o k % 20 : Nat) : Int) < r then ((o k % 20 : Nat) : Int) else r) else (if r < ((o k % 20 : Nat) : Int) then ((o k % 20 : Nat) : Int) else r)) := by
      by_cases c : w = 0
      · rw [if_pos c, if_pos c]; rfl
      · rw [if_neg c, if_neg c]; rfl
    unfold fX11_bound_L55
    rw [spotAt_ok hr (by omega) hf, hr.1, if_neg (by omega), bnd_s, lt_ok, ed, e, bnd_s, lt_ok, w32_k (by omega)]
    refine ih n (k + 1) _ (by omega) (by omega) (bdQ_c (fun x => ?_) (bdQ_add (x := ((o k % 20 : Nat) : Int)) h))
    constructor
    · rintro (⟨i, i1, i2⟩ | h)
      · exact ⟨i, by omega, i2⟩
      · exact ⟨k, by omega, h⟩
    · rintro ⟨i, i1, i2⟩
      by_cases ci : i = k
      · subst ci; exact Or.inr i2
      · exact Or.inl ⟨i, by omega, i2⟩
theorem bound_m {S : SS} {M : Nat} {w y0 : Int} (hM : M = (20 * S 131 1).toNat) (h1 : 1 ≤ S 131 1 ∧ S 131 1 ≤ 6) : ∀ (m n k : Nat) (r : Int), m + k = M → m < n → bdQ w y0 (fun x => ∃ a, a < k ∧ S 140 a ≠ 268435456 ∧ x = ((a % 20 : Nat) : Int)) r → ∃ r', fX12_bound_L45 w S n r k = some r' ∧ bdQ w y0 (fun x => ∃ a, a < M ∧ S 140 a ≠ 268435456 ∧ x = ((a % 20 : Nat) : Int)) r' := by
  have r1 : S 131 (1 : Int).toNat = S 131 1 := rfl
  intro m
  induction m with
  | zero =>
    intro n k r hk hn h
    obtain ⟨n, rfl⟩ := suc_of hn
    have ek : k = M := by omega
    unfold fX12_bound_L45 fX12_stands
    rw [rdA_ok (by decide) (by decide), r1, w32_eq (by omega) (by omega), bnd_s, if_pos (by omega)]
    rw [ek] at h
    exact ⟨r, rfl, h⟩
  | succ m ih =>
    intro n k r hk hn h
    obtain ⟨n, rfl⟩ := suc_of hn
    have ed : Int.tmod (k : Int) 20 = ((k % 20 : Nat) : Int) := by rw [tmod20 (by omega)]; omega
    unfold fX12_bound_L45 fX12_stands
    rw [rdA_ok (by decide) (by decide), r1, w32_eq (by omega) (by omega), bnd_s, if_neg (by omega), rdA_ok (by omega) (by omega), Int.toNat_natCast, w32_k (by omega)]
    by_cases c : S 140 k = 268435456
    · rw [if_pos c, bnd_s, lt_ok]
      refine ih n (k + 1) r (by omega) (by omega) (bdQ_c (fun x => ?_) h)
      constructor
      · rintro ⟨a, a1, a2⟩; exact ⟨a, by omega, a2⟩
      · rintro ⟨a, a1, a2, a3⟩
        by_cases ca : a = k
        · subst ca; exact absurd c a2
        · exact ⟨a, by omega, a2, a3⟩
    · have e : (if w = 0 then (if r ≤ ((k % 20 : Nat) : Int) then some r else some ((k % 20 : Nat) : Int)) else (if ((k % 20 : Nat) : Int) ≤ r then some r else some ((k % 20 : Nat) : Int)) : Option Int) = some (if w = 0 then (if ((k % 20 : Nat) : Int) < r then ((k % 20 : Nat) : Int) else r) else (if r < ((k % 20 : Nat) : Int) then ((k % 20 : Nat) : Int) else r)) := by
        by_cases c : w = 0
        · rw [if_pos c, if_pos c]
          by_cases d : ((k % 20 : Nat) : Int) < r
          · rw [if_pos d, if_neg (by omega)]
          · rw [if_neg d, if_pos (by omega)]
        · rw [if_neg c, if_neg c]
          by_cases d : r < ((k % 20 : Nat) : Int)
          · rw [if_pos d, if_neg (by omega)]
          · rw [if_neg d, if_pos (by omega)]
      rw [if_neg c, lt_ok, ed, e, bnd_s, lt_ok]
      refine ih n (k + 1) _ (by omega) (by omega) (bdQ_c (fun x => ?_) (bdQ_add (x := ((k % 20 : Nat) : Int)) h))
      constructor
      · rintro (⟨i, i1, i2⟩ | h)
        · exact ⟨i, by omega, i2⟩
        · exact ⟨k, by omega, c, h⟩
      · rintro ⟨i, i1, i2, i3⟩
        by_cases ci : i = k
        · subst ci; exact Or.inr i3
        · exact Or.inl ⟨i, by omega, i2, i3⟩
theorem k_bound : K_bound Inv := by
  intro g w cg cw S hI
  obtain ⟨i0, hC, hS, _⟩ := id hI
  obtain ⟨_, hB, _⟩ := id hC
  have h1 := hB.1
  have h3 := hB.2.2.1
  unfold fX11_bound fX12_bound
  rw [has_g hC, bnd_s]
  by_cases a : 0 ≤ g ∧ g < S 131 3
  · rw [if_pos (decide_eq_true a)]
    by_cases b : 0 ≤ w ∧ w ≤ 1
    · obtain ⟨S1, found, o, L, pr, S2, q1, q2, q3, q4, q5, q6, q7, q8, q9, q10, q11, q12⟩ := both_now hI a
      have e131 : S1 131 = S 131 := q7 131 (by omega)
      have e2 : S2 131 = S 131 := (q11 131 (by omega) (by omega) (by omega)).trans e131
      have hf : found ≤ (20 * S 131 1).toNat := pigeon _ found o q4.2.1 q4.2.2.1
      have b0 : ∀ X : Int → Prop, (∀ x, ¬ X x) → bdQ w (S 131 (37 + g).toNat) X (S 131 (37 + g).toNat) := fun X hX => ⟨Or.inl rfl, fun _ => ⟨Int.le_refl _, fun x hx => absurd hx (hX x)⟩, fun _ => ⟨Int.le_refl _, fun x hx => absurd hx (hX x)⟩⟩
      obtain ⟨r, l1, l2⟩ := bound_c (w := w) (y0 := S 131 (37 + g).toNat) q5 (by omega) (fun p hp => by have := q4.2.1 p hp; omega) found FU 0 _ (by omega) (by unfold FU; omega) (b0 _ (fun x => by rintro ⟨i, h, _⟩; omega))
      obtain ⟨r', m1, m2⟩ := bound_m (S := S2) (w := w) (y0 := S 131 (37 + g).toNat) (M := (20 * S 131 1).toNat) (by rw [e2]) (by rw [e2]; exact h1) (20 * S 131 1).toNat FU 0 _ (by omega) (by unfold FU; omega) (b0 _ (fun x => by rintro ⟨i, h, _⟩; omega))
      have er : r = r' := by
        refine bdQ_u (fun x => ?_) l2 m2
        constructor
        · rintro ⟨i, i1, i2⟩
          have ho := q4.2.1 i i1
          refine ⟨o i, ho, ?_, i2⟩
          obtain ⟨d, d1, d2, d3, _⟩ | ⟨d1, d2, d3⟩ := go_gone q6 q9 (v := o i) (by omega)
          · omega
          · exact absurd (BI_reach q4 i i1).1 (d3 _)
        · rintro ⟨b, b1, b2, b3⟩
          obtain ⟨d, d1, d2, d3, d4⟩ | ⟨d1, d2, d3⟩ := go_gone q6 q9 (v := b) (by omega)
          · obtain ⟨p, p1, p2, _⟩ := BI_least q4 (Nat.le_refl _) d b d4.1
            exact ⟨p, p1, by rw [b3, p2]⟩
          · exact absurd d2 b2
      have l1' : fX11_bound_L55 w S1 FU (S 131 (37 + g).toNat) 0 = some r := l1
      have m1' : fX12_bound_L45 w S2 FU (S 131 (37 + g).toNat) 0 = some r' := m1
      have hS1 : Stand S1 := stand_fr (q7 _ (by omega)) (q7 _ (by omega)) (q7 _ (by omega)) (q7 _ (by omega)) e131 hS
      have ey : fX6_yearOf 7 g S1 = some (S 131 (37 + g).toNat) := by
        rw [yearOf_V a.1 (by omega) (stV_of hS1.1), e131]
        exact congrArg some (congrArg (S 131) (by omega))
      rw [if_neg (by omega), if_pos b.2, q1, bnd_s, q2, bnd_s, ey, bnd_s, l1', bnd_s]
      refine ⟨_, S1, S2, rfl, ?_, q12⟩
      rw [lt_ok, up_same (by rw [q7 130 (by omega)]; exact i0), is_g (by rw [e131]; exact hB), e131, bnd_s, if_pos (decide_eq_true a), within_ok, bnd_s, if_pos (decide_eq_true b), q8, bnd_s, w32_eq (x := 37 + g) (by omega) (by omega), rdA_ok (by omega) (by omega), e2, m1', bnd_s, er]
    · have e : ∀ A : Option (Int × SS), (if w < 0 then some ((-2), S) else if w ≤ 1 then A else some ((-2), S) : Option (Int × SS)) = some (-2, S) := by
        intro A
        by_cases c : w < 0
        · rw [if_pos c]
        · rw [if_neg c, if_neg (by omega)]
      rw [e]
      refine ⟨_, S, S, rfl, ?_, hI⟩
      rw [lt_ok, up_same i0, is_g hB, bnd_s, if_pos (decide_eq_true a), within_ok, bnd_s, if_neg (by rw [decide_eq_true_eq]; exact b)]
  · rw [if_neg (by rw [decide_eq_true_eq]; exact a)]
    refine ⟨_, S, S, rfl, ?_, hI⟩
    rw [lt_ok, up_same i0, is_g hB, bnd_s, if_neg (by rw [decide_eq_true_eq]; exact a)]
/-! meetings -/
def bst (f : Nat → Int) : Nat → Int
  | 0 => -1
  | k + 1 => if f k = -1 then bst f k else if bst f k = -1 then (k : Int) else if f (bst f k).toNat ≤ f k then bst f k else (k : Int)
theorem bst_b {f : Nat → Int} : ∀ k, bst f k = -1 ∨ (0 ≤ bst f k ∧ bst f k < k ∧ f (bst f k).toNat ≠ -1) := by
  intro k
  induction k with
  | zero => exact Or.inl rfl
  | succ k ih =>
    show (if f k = -1 then bst f k else if bst f k = -1 then (k : Int) else if f (bst f k).toNat ≤ f k then bst f k else (k : Int)) = -1 ∨ _ ∧ (if f k = -1 then bst f k else if bst f k = -1 then (k : Int) else if f (bst f k).toNat ≤ f k then bst f k else (k : Int)) < _ ∧ _
    show (if f k = -1 then bst f k else if bst f k = -1 then (k : Int) else if f (bst f k).toNat ≤ f k then bst f k else (k : Int)) = -1 ∨ (0 ≤ (if f k = -1 then bst f k else if bst f k = -1 then (k : Int) else if f (bst f k).toNat ≤ f k then bst f k else (k : Int)) ∧ (if f k = -1 then bst f k else if bst f k = -1 then (k : Int) else if f (bst f k).toNat ≤ f k then bst f k else (k : Int)) < ((k + 1 : Nat) : Int) ∧ f (if f k = -1 then bst f k else if bst f k = -1 then (k : Int) else if f (bst f k).toNat ≤ f k then bst f k else (k : Int)).toNat ≠ -1)
    by_cases c : f k = -1
    · rw [if_pos c]
      obtain h | h := ih
      · exact Or.inl h
      · exact Or.inr ⟨h.1, by omega, h.2.2⟩
    · rw [if_neg c]
      by_cases d : bst f k = -1
      · rw [if_pos d]; exact Or.inr ⟨by omega, by omega, by rw [Int.toNat_natCast]; exact c⟩
      · rw [if_neg d]
        by_cases e : f (bst f k).toNat ≤ f k
        · rw [if_pos e]
          obtain h | h := ih
          · exact Or.inl h
          · exact Or.inr ⟨h.1, by omega, h.2.2⟩
        · rw [if_neg e]; exact Or.inr ⟨by omega, by omega, by rw [Int.toNat_natCast]; exact c⟩
theorem bst_more {f : Nat → Int} {M : Nat} : ∀ j, (∀ v, M ≤ v → v < M + j → f v = -1) → bst f (M + j) = bst f M := by
  intro j
  induction j with
  | zero => intro _; rfl
  | succ j ih =>
    intro h
    show (if f (M + j) = -1 then bst f (M + j) else _) = _
    rw [if_pos (h (M + j) (by omega) (by omega))]
    exact ih (fun v h1 h2 => h v h1 (by omega))
def togF (r r' : Nat → Int) (v : Nat) : Int := if r v = -1 then -1 else if r' v = -1 then -1 else r v + r' v
def togM (r r' : Nat → Int) (v : Nat) : Int := if r v = 268435456 then -1 else if r' v = 268435456 then -1 else r v + r' v
theorem bst_congr {f g : Nat → Int} : ∀ k, (∀ v, v < k → f v = g v) → bst f k = bst g k := by
  intro k
  induction k with
  | zero => intro _; rfl
  | succ k ih =>
    intro h
    have e := ih (fun v hv => h v (by omega))
    show (if f k = -1 then bst f k else if bst f k = -1 then (k : Int) else if f (bst f k).toNat ≤ f k then bst f k else (k : Int)) = (if g k = -1 then bst g k else if bst g k = -1 then (k : Int) else if g (bst g k).toNat ≤ g k then bst g k else (k : Int))
    rw [e, h k (by omega)]
    obtain hb | hb := @bst_b g k
    · rw [if_pos hb, if_pos hb]
    · rw [h (bst g k).toNat (by omega)]
theorem tog_c {S : SS} {a : Int} (h0 : 0 ≤ a) (h1 : a < 120) (hb : ∀ v, v < 120 → (-1 ≤ S 37 v ∧ S 37 v < 120) ∧ (-1 ≤ S 45 v ∧ S 45 v < 120)) : fX11_goingsTogether a S = some (togF (S 37) (S 45) a.toNat) := by
  have := hb a.toNat (by omega)
  have e37 : S (35 + 2) a.toNat = S 37 a.toNat := rfl
  have e45 : S (43 + 2) a.toNat = S 45 a.toNat := rfl
  unfold fX11_goingsTogether togF
  rw [goingsTo_ok h0 h1, bnd_s, goingsTo_ok h0 h1, bnd_s, e37, e45]
  by_cases c : S 37 a.toNat = -1
  · rw [if_pos c, if_pos c]
  rw [if_neg c, if_neg c]
  by_cases c : S 45 a.toNat = -1
  · rw [if_pos c, if_pos c]
  rw [if_neg c, if_neg c, w32_eq (by omega) (by omega)]
theorem meet_c {S : SS} (hb : ∀ v, v < 120 → (-1 ≤ S 37 v ∧ S 37 v < 120) ∧ (-1 ≤ S 45 v ∧ S 45 v < 120)) : ∀ (m n k : Nat), m + k = 120 → m < n → fX11_meetingSpot_L45 S n (bst (togF (S 37) (S 45)) k) k = some (bst (togF (S 37) (S 45)) 120) := by
  intro m
  induction m with
  | zero =>
    intro n k hk hn
    obtain ⟨n, rfl⟩ := suc_of hn
    have ek : k = 120 := by omega
    subst ek
    unfold fX11_meetingSpot_L45
    rw [if_pos (by omega)]
  | succ m ih =>
    intro n k hk hn
    obtain ⟨n, rfl⟩ := suc_of hn
    have e : (if togF (S 37) (S 45) k = -1 then some (bst (togF (S 37) (S 45)) k) else if bst (togF (S 37) (S 45)) k = -1 then some (k : Int) else (Option.bind (fX11_goingsTogether (bst (togF (S 37) (S 45)) k) S) fun q3 => if q3 ≤ togF (S 37) (S 45) k then some (bst (togF (S 37) (S 45)) k) else some (k : Int)) : Option Int) = some (bst (togF (S 37) (S 45)) (k + 1)) := by
      show _ = some (if togF (S 37) (S 45) k = -1 then bst (togF (S 37) (S 45)) k else if bst (togF (S 37) (S 45)) k = -1 then (k : Int) else if togF (S 37) (S 45) (bst (togF (S 37) (S 45)) k).toNat ≤ togF (S 37) (S 45) k then bst (togF (S 37) (S 45)) k else (k : Int))
      by_cases c : togF (S 37) (S 45) k = -1
      · rw [if_pos c, if_pos c]
      rw [if_neg c, if_neg c]
      obtain d | d := @bst_b (togF (S 37) (S 45)) k
      · rw [if_pos d, if_pos d]
      · rw [if_neg (by omega), if_neg (by omega), tog_c d.1 (by omega) hb, bnd_s]
        by_cases f : togF (S 37) (S 45) (bst (togF (S 37) (S 45)) k).toNat ≤ togF (S 37) (S 45) k
        · rw [if_pos f, if_pos f]
        · rw [if_neg f, if_neg f]
    unfold fX11_meetingSpot_L45
    rw [if_neg (by omega), tog_c (by omega) (by omega) hb, bnd_s, Int.toNat_natCast, e, bnd_s, lt_ok, w32_k (by omega)]
    exact ih n (k + 1) (by omega) (by omega)
theorem meet_m {S : SS} {M : Nat} (hM : M = (20 * S 131 1).toNat) (h1 : 1 ≤ S 131 1 ∧ S 131 1 ≤ 6) (hb : ∀ v, v < 120 → (0 ≤ S 140 v ∧ S 140 v ≤ 268435456) ∧ (0 ≤ S 141 v ∧ S 141 v ≤ 268435456)) : ∀ (m n k : Nat), m + k = M → m < n → fX12_meetsAt_L29 S n (bst (togM (S 140) (S 141)) k) k = some (bst (togM (S 140) (S 141)) M) := by
  have r1 : S 131 (1 : Int).toNat = S 131 1 := rfl
  intro m
  induction m with
  | zero =>
    intro n k hk hn
    obtain ⟨n, rfl⟩ := suc_of hn
    have ek : k = M := by omega
    unfold fX12_meetsAt_L29 fX12_stands
    rw [rdA_ok (by decide) (by decide), r1, w32_eq (by omega) (by omega), bnd_s, if_pos (by omega), ek]
  | succ m ih =>
    intro n k hk hn
    obtain ⟨n, rfl⟩ := suc_of hn
    have bk := hb k (by omega)
    have e : (if S 140 k = 268435456 then some (bst (togM (S 140) (S 141)) k) else (rdA S 141 120 k fun v5 => if v5 = 268435456 then some (bst (togM (S 140) (S 141)) k) else if bst (togM (S 140) (S 141)) k = -1 then some (k : Int) else (rdA S 140 120 k fun v7 => rdA S 141 120 k fun v9 => rdA S 140 120 (bst (togM (S 140) (S 141)) k) fun v11 => rdA S 141 120 (bst (togM (S 140) (S 141)) k) fun v13 => if w32 (v11 + v13) ≤ w32 (v7 + v9) then some (bst (togM (S 140) (S 141)) k) else some (k : Int))) : Option Int) = some (bst (togM (S 140) (S 141)) (k + 1)) := by
      show _ = some (if togM (S 140) (S 141) k = -1 then bst (togM (S 140) (S 141)) k else if bst (togM (S 140) (S 141)) k = -1 then (k : Int) else if togM (S 140) (S 141) (bst (togM (S 140) (S 141)) k).toNat ≤ togM (S 140) (S 141) k then bst (togM (S 140) (S 141)) k else (k : Int))
      by_cases c : S 140 k = 268435456
      · have t : togM (S 140) (S 141) k = -1 := by unfold togM; rw [if_pos c]
        rw [if_pos c, if_pos t]
      rw [if_neg c, rdA_ok (by omega) (by omega), Int.toNat_natCast]
      by_cases c' : S 141 k = 268435456
      · have t : togM (S 140) (S 141) k = -1 := by unfold togM; rw [if_neg c, if_pos c']
        rw [if_pos c', if_pos t]
      have t : togM (S 140) (S 141) k = S 140 k + S 141 k := by unfold togM; rw [if_neg c, if_neg c']
      rw [if_neg c', if_neg (c := togM (S 140) (S 141) k = -1) (by omega)]
      obtain d | ⟨d1, d2, d3⟩ := @bst_b (togM (S 140) (S 141)) k
      · rw [if_pos d, if_pos d]
      · have bb := hb (bst (togM (S 140) (S 141)) k).toNat (by omega)
        have tb : togM (S 140) (S 141) (bst (togM (S 140) (S 141)) k).toNat = S 140 (bst (togM (S 140) (S 141)) k).toNat + S 141 (bst (togM (S 140) (S 141)) k).toNat := by
          have d3' := d3
          unfold togM at d3'
          by_cases x : S 140 (bst (togM (S 140) (S 141)) k).toNat = 268435456
          · unfold togM at x; rw [if_pos x] at d3'; exact absurd rfl d3'
          by_cases y : S 141 (bst (togM (S 140) (S 141)) k).toNat = 268435456
          · have x' := x
            unfold togM at x' y; rw [if_neg x', if_pos y] at d3'; exact absurd rfl d3'
          generalize bst (togM (S 140) (S 141)) k = bb at x y
          unfold togM
          rw [if_neg x, if_neg y]
        rw [if_neg (by omega), if_neg (by omega), rdA_ok (by omega) (by omega), rdA_ok (by omega) (by omega), rdA_ok d1 (by omega), rdA_ok d1 (by omega), Int.toNat_natCast, w32_eq (x := S 140 (bst (togM (S 140) (S 141)) k).toNat + S 141 (bst (togM (S 140) (S 141)) k).toNat) (by omega) (by omega), w32_eq (by omega) (by omega), ← tb, ← t]
        by_cases f : togM (S 140) (S 141) (bst (togM (S 140) (S 141)) k).toNat ≤ togM (S 140) (S 141) k
        · rw [if_pos f, if_pos f]
        · rw [if_neg f, if_neg f]
    unfold fX12_meetsAt_L29 fX12_stands
    rw [rdA_ok (by decide) (by decide), r1, w32_eq (by omega) (by omega), bnd_s, if_neg (by omega), rdA_ok (by omega) (by omega), Int.toNat_natCast, e, bnd_s, lt_ok, w32_k (by omega)]
    exact ih n (k + 1) (by omega) (by omega)
theorem areTwo_ok {S : SS} (hC : Core S) {g h : Int} : fX11_areTwo g h S = some (decide ((0 ≤ g ∧ g < S 131 3) ∧ (0 ≤ h ∧ h < S 131 3) ∧ g ≠ h)) := by
  unfold fX11_areTwo
  rw [has_g hC, bnd_s]
  by_cases a : 0 ≤ g ∧ g < S 131 3
  · rw [if_pos (decide_eq_true a), has_g hC, bnd_s]
    by_cases b : 0 ≤ h ∧ h < S 131 3
    · rw [if_pos (decide_eq_true b)]
      by_cases c : g = h
      · rw [if_pos c, decide_eq_false (fun x => x.2.2 c)]
      · rw [if_neg c, decide_eq_true ⟨a, b, c⟩]
    · rw [if_neg (by rw [decide_eq_true_eq]; exact b), decide_eq_false (fun x => b x.2.1)]
  · rw [if_neg (by rw [decide_eq_true_eq]; exact a), decide_eq_false (fun x => a x.1)]
theorem areGoers_ok {S : SS} (hB : townB (S 131)) {g h : Int} : fX12_areGoers g h S = some (decide ((0 ≤ g ∧ g < S 131 3) ∧ (0 ≤ h ∧ h < S 131 3) ∧ g ≠ h)) := by
  unfold fX12_areGoers
  rw [is_g hB, bnd_s]
  by_cases a : 0 ≤ g ∧ g < S 131 3
  · rw [if_pos (decide_eq_true a), is_g hB, bnd_s]
    by_cases b : 0 ≤ h ∧ h < S 131 3
    · rw [if_pos (decide_eq_true b)]
      by_cases c : g = h
      · rw [if_pos c, decide_eq_false (fun x => x.2.2 c)]
      · rw [if_neg c, decide_eq_true ⟨a, b, c⟩]
    · rw [if_neg (by rw [decide_eq_true_eq]; exact b), decide_eq_false (fun x => b x.2.1)]
  · rw [if_neg (by rw [decide_eq_true_eq]; exact a), decide_eq_false (fun x => a x.1)]
theorem goF_b {nx : Nat → Nat → Int} {st : Nat} {r : Nat → Int} (h : goF nx st r) {v : Nat} (hv : v < 120) : -1 ≤ r v ∧ r v < 120 := by
  obtain ⟨d, _, d2, d3⟩ | ⟨_, n2⟩ := h v hv <;> omega
theorem goneF_b {nx : Nat → Nat → Int} {st : Nat} {r : Nat → Int} (h : goneF nx st r) {v : Nat} (hv : v < 120) : 0 ≤ r v ∧ r v ≤ 268435456 := by
  obtain ⟨d, _, d2, d3⟩ | ⟨_, n2⟩ := h v hv <;> omega
theorem meets_both {S : SS} {g h : Int} (hI : Inv S) (hg : 0 ≤ g ∧ g < S 131 3) (hh : 0 ≤ h ∧ h < S 131 3) :
    ∃ S1 S2 x, fX11_meetingSpot g h S = some (x, S1) ∧ fX12_meetsAt g h S1 = some (x, S2) ∧ Inv S2 ∧ S1 130 0 = 0 ∧ S1 131 = S 131 ∧ ((x = -1) ∨ (0 ≤ x ∧ x < 120 ∧ togF (S1 37) (S1 45) x.toNat = S2 140 x.toNat + S2 141 x.toNat ∧ (0 ≤ S2 140 x.toNat ∧ S2 140 x.toNat < 120) ∧ (0 ≤ S2 141 x.toNat ∧ S2 141 x.toNat < 120))) ∧ (∀ v, v < 120 → (-1 ≤ S1 37 v ∧ S1 37 v < 120) ∧ (-1 ≤ S1 45 v ∧ S1 45 v < 120)) := by
  obtain ⟨i0, hC, hS, _⟩ := id hI
  obtain ⟨_, hB, _⟩ := id hC
  have h1 := hB.1
  have h3 := hB.2.2.1
  obtain ⟨s1, s2, s3⟩ := spot_now hS hB hg.1 (show g < 3 by omega)
  obtain ⟨u1, u2, u3⟩ := spot_now hS hB hh.1 (show h < 3 by omega)
  have es : ((spotP (S 131) g).toNat : Int) = spotP (S 131) g := by omega
  have eu : ((spotP (S 131) h).toNat : Int) = spotP (S 131) h := by omega
  obtain ⟨S1, a1, a2, found, o, L, pr, a3, a4, a5⟩ := spread_now (t := 35) (st := (spotP (S 131) g).toNat) (by omega) hC hS hg (by omega)
  rw [es] at a1
  have f1 : ∀ a, (a < 30 ∨ 40 < a) → S1 a = S a := fun a ha => w_fX10_spread a1 (by omega)
  have e1 : S1 131 = S 131 := f1 131 (by omega)
  have C1 : Core S1 := core_fr (fun a ha => f1 a (by omega)) a2 hC
  have T1 : Stand S1 := stand_fr (f1 _ (by omega)) (f1 _ (by omega)) (f1 _ (by omega)) (f1 _ (by omega)) e1 hS
  obtain ⟨S2, b1, b2, found', o', L', pr', b3, b4, b5⟩ := spread_now (S := S1) (t := 43) (g := h) (st := (spotP (S 131) h).toNat) (by omega) C1 T1 (by rw [e1]; exact hh) (by rw [e1]; omega)
  rw [eu] at b1
  rw [e1] at b3
  have f2 : ∀ a, (a < 30 ∨ 33 < a) ∧ (a < 43 ∨ 48 < a) → S2 a = S1 a := fun a ha => w_fX10_spread b1 (by omega)
  have fz : ∀ a, (a < 30 ∨ 48 < a) → S2 a = S a := fun a ha => (f2 a (by omega)).trans (f1 a (by omega))
  have e2 : S2 131 = S 131 := fz 131 (by omega)
  have g1 : goF (nowG (S 131) g) (spotP (S 131) g).toNat (S2 37) := by rw [f2 37 (by omega)]; exact BR_goF (by omega) a3 a4
  have g2 : goF (nowG (S 131) h) (spotP (S 131) h).toNat (S2 45) := BR_goF (by omega) b3 b4
  have hbF : ∀ v, v < 120 → (-1 ≤ S2 37 v ∧ S2 37 v < 120) ∧ (-1 ≤ S2 45 v ∧ S2 45 v < 120) := fun v hv => ⟨goF_b g1 hv, goF_b g2 hv⟩
  have l1 : fX11_meetingSpot_L45 S2 FU (-1) 0 = some (bst (togF (S2 37) (S2 45)) 120) := meet_c hbF 120 FU 0 (by omega) (by decide)
  have hq : fX11_meetingSpot g h S = some (bst (togF (S2 37) (S2 45)) 120, S2) := by
    have u1' := (spot_now T1 (by rw [e1]; exact hB) hh.1 (show h < 3 by omega)).1
    rw [e1] at u1'
    unfold fX11_meetingSpot
    rw [s1, bnd_s, a1, bnd_s, u1', bnd_s, b1, bnd_s, lt_ok, l1, bnd_s]
  -- the reference
  have B2 : townB (S2 131) := by rw [e2]; exact hB
  have D2 : stBd (S2 131) 34 (S2 131 1) := by rw [e2]; exact hS.2
  obtain ⟨S3, c1, c2, c3⟩ := lays_now (S := S2) (g := h) B2 D2 (by rw [e2]; exact hh)
  rw [e2] at c2
  have e3 : S3 131 = S 131 := (c3 131 (by omega) (by omega)).trans e2
  obtain ⟨S4, d1, d2, d3⟩ := laysGone_ok (nx := nowG (S 131) h) (st := (spotP (S 131) h).toNat) (M := (20 * S 131 1).toNat) (c := 141) (S := S3) (by rw [e3]) (by rw [e3]; exact h1) (nowG_lt hB) nowG_m (by omega) (Or.inr rfl) c2
  rw [eu] at d1
  have e4 : S4 131 = S 131 := (d3 131 (by omega)).trans e3
  obtain ⟨S5, k1, k2, k3, k4⟩ := laysFrom_ok (S := S4) (g := g) (by rw [e4]; exact hB) (by rw [e4]; exact hS.2) (by rw [e4]; exact hg)
  rw [e4] at k2 k3
  have e5 : S5 131 = S 131 := (k4 131 (by omega) (by omega) (by omega)).trans e4
  have g141 : goneF (nowG (S 131) h) (spotP (S 131) h).toNat (S5 141) := by rw [k4 141 (by omega) (by omega) (by omega)]; exact d2
  have l2 : fX12_meetsAt_L29 S5 FU (-1) 0 = some (bst (togM (S5 140) (S5 141)) (20 * S 131 1).toNat) := meet_m (S := S5) (M := (20 * S 131 1).toNat) (by rw [e5]) (by rw [e5]; exact h1) (fun v hv => ⟨goneF_b k2 hv, goneF_b g141 hv⟩) (20 * S 131 1).toNat FU 0 (by omega) (by unfold FU; omega)
  have hm : fX12_meetsAt g h S2 = some (bst (togM (S5 140) (S5 141)) (20 * S 131 1).toNat, S5) := by
    have st3 := standOf_ok (S := S3) (g := h) (by rw [e3]; exact hS.2) (by rw [e3]; exact hB) hh.1 (by omega)
    rw [e3] at st3
    unfold fX12_meetsAt
    rw [c1, bnd_s, st3, bnd_s, d1, bnd_s, k1, bnd_s, lt_ok, l2, bnd_s]
  have eqf : ∀ v, v < 120 → togF (S2 37) (S2 45) v = togM (S5 140) (S5 141) v := by
    intro v hv
    unfold togF togM
    obtain ⟨d, d1, d2, d3, _⟩ | ⟨d1, d2, _⟩ := go_gone g1 k2 hv
    · rw [if_neg (by omega), if_neg (c := S5 140 v = 268435456) (by omega)]
      obtain ⟨e, e1, e2, e3, _⟩ | ⟨e1, e2, _⟩ := go_gone g2 g141 hv
      · rw [if_neg (by omega), if_neg (by omega), d1, d2, e1, e2]
      · rw [if_pos e1, if_pos e2]
    · rw [if_pos d1, if_pos d2]
  have hi : ∀ v, (20 * S 131 1).toNat ≤ v → v < 120 → togF (S2 37) (S2 45) v = -1 := by
    intro v h1 h2
    unfold togF
    obtain ⟨d, q1, _, _⟩ | ⟨_, q2⟩ := g1 v h2
    · have := rIn_lt (nowG_lt (g := g) hB) (show (spotP (S 131) g).toNat < (20 * S 131 1).toNat by omega) q1.1
      omega
    · rw [if_pos q2]
  have ex : bst (togF (S2 37) (S2 45)) 120 = bst (togM (S5 140) (S5 141)) (20 * S 131 1).toNat := by
    have := @bst_more (togF (S2 37) (S2 45)) (20 * S 131 1).toNat (120 - (20 * S 131 1).toNat) (fun v a b => hi v a (by omega))
    rw [show (20 * S 131 1).toNat + (120 - (20 * S 131 1).toNat) = 120 by omega] at this
    rw [this]
    exact bst_congr _ (fun v hv => eqf v (by omega))
  have fw : ∀ a, (a < 135 ∨ 136 < a) → a ≠ 138 → a ≠ 140 → a ≠ 141 → S5 a = S2 a := fun a q1 q2 q3 q4 => ((k4 a q1 q2 q3).trans (d3 a q4)).trans (c3 a q1 q2)
  refine ⟨S2, S5, _, hq, by rw [hm, ex], inv_q hI b2 (fun a ha => by unfold keepA at ha; exact fz a (by omega)) (fun a ha => by unfold keepA at ha; exact fw a (by omega) (by omega) (by omega) (by omega)), by rw [fz 130 (by omega)]; exact i0, e2, ?_, hbF⟩
  obtain b | ⟨w1, w2, w3⟩ := @bst_b (togF (S2 37) (S2 45)) 120
  · exact Or.inl b
  · have hv : (bst (togF (S2 37) (S2 45)) 120).toNat < 120 := by omega
    generalize bst (togF (S2 37) (S2 45)) 120 = x at w1 w2 w3 hv
    refine Or.inr ⟨w1, by omega, ?_⟩
    obtain ⟨d, d1, d2, d3, _⟩ | ⟨d1, d2, _⟩ := go_gone g1 k2 hv
    · obtain ⟨e, e1, e2, e3, _⟩ | ⟨e1, e2, _⟩ := go_gone g2 g141 hv
      · refine ⟨?_, by omega, by omega⟩
        unfold togF
        rw [if_neg (by omega), if_neg (by omega), d1, d2, e1, e2]
      · unfold togF at w3
        rw [if_neg (by omega), if_pos e1] at w3
        exact absurd rfl w3
    · unfold togF at w3
      rw [if_pos d1] at w3
      exact absurd rfl w3
theorem k_meet : K_meet Inv := by
  intro g h cg ch S hI
  obtain ⟨i0, hC, hS, _⟩ := id hI
  obtain ⟨_, hB, _⟩ := id hC
  unfold fX11_meet fX12_meet
  rw [areTwo_ok hC, bnd_s]
  by_cases a : (0 ≤ g ∧ g < S 131 3) ∧ (0 ≤ h ∧ h < S 131 3) ∧ g ≠ h
  · obtain ⟨S1, S2, x, q1, q2, q3, q4, q5, q6, q7⟩ := meets_both hI a.1 a.2.1
    have B1 : townB (S1 131) := by rw [q5]; exact hB
    rw [if_pos (decide_eq_true a), q1, bnd_s]
    simp only
    obtain c | ⟨c1, c2, c3, c4, c5⟩ := q6
    · have e : fX11_goingsTogether x S1 = some (-1) := by
        unfold fX11_goingsTogether fX10_goingsTo
        rw [c]; rfl
      rw [e, bnd_s]
      refine ⟨_, S1, S2, rfl, ?_, q3⟩
      rw [lt_ok, up_same q4, areGoers_ok B1, q5, bnd_s, if_pos (decide_eq_true a), q2, bnd_s]
      simp only
      rw [if_pos c]
    · rw [tog_c c1 c2 q7, bnd_s]
      refine ⟨_, S1, S2, rfl, ?_, q3⟩
      rw [lt_ok, up_same q4, areGoers_ok B1, q5, bnd_s, if_pos (decide_eq_true a), q2, bnd_s]
      simp only
      rw [if_neg (by omega), rdA_ok c1 (by omega), rdA_ok c1 (by omega), w32_eq (by omega) (by omega), c3]
  · rw [if_neg (by rw [decide_eq_true_eq]; exact a)]
    refine ⟨_, S, S, rfl, ?_, hI⟩
    rw [lt_ok, up_same i0, areGoers_ok hB, bnd_s, if_neg (by rw [decide_eq_true_eq]; exact a)]
theorem k_meetAt : K_meetAt Inv := by
  intro g h w cg ch cw S hI
  obtain ⟨i0, hC, hS, _⟩ := id hI
  obtain ⟨_, hB, _⟩ := id hC
  unfold fX11_meetAt fX12_meetAt
  rw [areTwo_ok hC, bnd_s]
  by_cases a : (0 ≤ g ∧ g < S 131 3) ∧ (0 ≤ h ∧ h < S 131 3) ∧ g ≠ h
  · rw [if_pos (decide_eq_true a)]
    by_cases b : 0 ≤ w ∧ w ≤ 1
    · obtain ⟨S1, S2, x, q1, q2, q3, q4, q5, q6, q7⟩ := meets_both hI a.1 a.2.1
      have B1 : townB (S1 131) := by rw [q5]; exact hB
      rw [if_neg (by omega), if_pos b.2, q1, bnd_s]
      simp only
      have m : ∀ r, (if x = -1 then some ((-1), S2) else if w = 0 then some (w32 (Int.tdiv x 20), S2) else some (Int.tmod x 20, S2) : Option (Int × SS)) = some (r, S2) → (lt (up S1 130 0 0) fun S1 => (fX12_areGoers g h S1).bind fun q2 => if q2 = true then (fX12_within w 0 1).bind fun q3 => if q3 = true then (fX12_meetsAt g h S1).bind fun q4 => if q4.1 = -1 then some ((-1), q4.2) else if w = 0 then some (w32 (Int.tdiv q4.1 20), q4.2) else some (Int.tmod q4.1 20, q4.2) else some ((-2), S1) else some ((-2), S1)) = some (r, S2) := by
        intro r hr
        rw [lt_ok, up_same q4, areGoers_ok B1, q5, bnd_s, if_pos (decide_eq_true a), within_ok, bnd_s, if_pos (decide_eq_true b), q2, bnd_s]
        exact hr
      by_cases c : x = -1
      · rw [if_pos c]
        exact ⟨_, S1, S2, rfl, m _ (by rw [if_pos c]), q3⟩
      · rw [if_neg c]
        by_cases d : w = 0
        · rw [if_pos d]
          exact ⟨_, S1, S2, rfl, m _ (by rw [if_neg c, if_pos d]), q3⟩
        · rw [if_neg d]
          exact ⟨_, S1, S2, rfl, m _ (by rw [if_neg c, if_neg d]), q3⟩
    · have e : ∀ A : Option (Int × SS), (if w < 0 then some ((-2), S) else if w ≤ 1 then A else some ((-2), S) : Option (Int × SS)) = some (-2, S) := by
        intro A
        by_cases c : w < 0
        · rw [if_pos c]
        · rw [if_neg c, if_neg (by omega)]
      rw [e]
      refine ⟨_, S, S, rfl, ?_, hI⟩
      rw [lt_ok, up_same i0, areGoers_ok hB, bnd_s, if_pos (decide_eq_true a), within_ok, bnd_s, if_neg (by rw [decide_eq_true_eq]; exact b)]
  · rw [if_neg (by rw [decide_eq_true_eq]; exact a)]
    refine ⟨_, S, S, rfl, ?_, hI⟩
    rw [lt_ok, up_same i0, areGoers_ok hB, bnd_s, if_neg (by rw [decide_eq_true_eq]; exact a)]
