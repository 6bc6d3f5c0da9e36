def dg (nx : Nat → Nat → Int) (a w j : Nat) : Int := ysum (fun s => if nx a s = (w : Int) then 1 else 0) j
theorem dg_s {nx : Nat → Nat → Int} {a w j : Nat} : dg nx a w (j + 1) = dg nx a w j + (if nx a j = (w : Int) then 1 else 0) := rfl
theorem dg_b {nx : Nat → Nat → Int} {a w : Nat} : ∀ j : Nat, 0 ≤ dg nx a w j ∧ dg nx a w j ≤ j := by
  intro j
  induction j with
  | zero => exact ⟨Int.le_refl _, Int.le_refl _⟩
  | succ j ih =>
    rw [dg_s]
    split <;> omega
theorem dg_pos {nx : Nat → Nat → Int} {a w : Nat} : ∀ j, 0 < dg nx a w j ↔ ∃ s, s < j ∧ nx a s = (w : Int) := by
  intro j
  induction j with
  | zero => exact ⟨fun h => absurd h (by show ¬ (0 : Int) < 0; omega), fun ⟨s, h, _⟩ => by omega⟩
  | succ j ih =>
    have b := (dg_b (nx := nx) (a := a) (w := w) j).1
    rw [dg_s]
    by_cases c : nx a j = (w : Int)
    · rw [if_pos c]
      exact ⟨fun _ => ⟨j, by omega, c⟩, fun _ => by omega⟩
    · rw [if_neg c, Int.add_zero, ih]
      constructor
      · rintro ⟨s, h, e⟩; exact ⟨s, by omega, e⟩
      · rintro ⟨s, h, e⟩
        exact ⟨s, by have : s ≠ j := fun z => c (by rw [← z]; exact e); omega, e⟩
theorem dg_8 {nx : Nat → Nat → Int} {a w : Nat} {q : Int} (h2 : 0 ≤ q ∧ q ≤ 8) (hz : ∀ a s : Nat, q ≤ (s : Int) → nx a s = -1) : dg nx a w q.toNat = dg nx a w 8 := by
  have e := ysum_more (f := fun s => if nx a s = (w : Int) then (1 : Int) else 0) (M := q.toNat) (8 - q.toNat) (fun k h h' => by
    show (if nx a k = (w : Int) then (1 : Int) else 0) = 0
    rw [if_neg (by rw [hz a k (by omega)]; omega)])
  rw [show q.toNat + (8 - q.toNat) = 8 by omega] at e
  exact e.symm
def IC (nx : Nat → Nat → Int) (G : Nat → Int) (w n : Nat) : Int := ysum (fun b => if G b = 0 then dg nx b w 8 else 0) n
theorem IC_s {nx : Nat → Nat → Int} {G : Nat → Int} {w n : Nat} : IC nx G w (n + 1) = IC nx G w n + (if G n = 0 then dg nx n w 8 else 0) := rfl
theorem IC_b {nx : Nat → Nat → Int} {G : Nat → Int} {w : Nat} : ∀ n : Nat, 0 ≤ IC nx G w n ∧ IC nx G w n ≤ 8 * n := by
  intro n
  induction n with
  | zero => exact ⟨Int.le_refl _, Int.le_refl _⟩
  | succ n ih =>
    have := dg_b (nx := nx) (a := n) (w := w) 8
    rw [IC_s]
    generalize dg nx n w 8 = d at *
    split <;> omega
theorem IC_pos {nx : Nat → Nat → Int} {G : Nat → Int} {w : Nat} : ∀ n, 0 < IC nx G w n ↔ ∃ a s, a < n ∧ s < 8 ∧ G a = 0 ∧ nx a s = (w : Int) := by
  intro n
  induction n with
  | zero => exact ⟨fun h => absurd h (by show ¬ (0 : Int) < 0; omega), fun ⟨a, s, h, _⟩ => by omega⟩
  | succ n ih =>
    have b := (IC_b (nx := nx) (G := G) (w := w) n).1
    have p := dg_pos (nx := nx) (a := n) (w := w) 8
    have q := (dg_b (nx := nx) (a := n) (w := w) 8).1
    rw [IC_s]
    by_cases c : G n = 0
    · rw [if_pos c]
      constructor
      · intro h
        by_cases z : 0 < dg nx n w 8
        · obtain ⟨s, h1, h2⟩ := p.mp z
          exact ⟨n, s, by omega, h1, c, h2⟩
        · obtain ⟨a, s, h1, h2, h3, h4⟩ := ih.mp (by generalize dg nx n w 8 = d at *; omega)
          exact ⟨a, s, by omega, h2, h3, h4⟩
      · rintro ⟨a, s, h1, h2, h3, h4⟩
        by_cases z : a = n
        · subst z
          have := p.mpr ⟨s, h2, h4⟩
          generalize dg nx a w 8 = d at *
          omega
        · have := ih.mpr ⟨a, s, by omega, h2, h3, h4⟩
          generalize dg nx n w 8 = d at *
          omega
    · rw [if_neg c, Int.add_zero, ih]
      constructor
      · rintro ⟨a, s, h1, h2, h3, h4⟩; exact ⟨a, s, by omega, h2, h3, h4⟩
      · rintro ⟨a, s, h1, h2, h3, h4⟩
        exact ⟨a, s, by have : a ≠ n := fun z => c (by rw [← z]; exact h3); omega, h2, h3, h4⟩
theorem IC_rm {nx : Nat → Nat → Int} {G : Nat → Int} {w v M : Nat} {c : Int} (hv : v < M) (h : G v = 0) (hc : c ≠ 0) : IC nx (pt G v c) w M = IC nx G w M - dg nx v w 8 := by
  unfold IC
  rw [sum_upd (f := fun b => if G b = 0 then dg nx b w 8 else 0) (f' := fun b => if pt G v c b = 0 then dg nx b w 8 else 0) hv (fun k hk => by show (if pt G v c k = 0 then _ else _) = _; rw [pt_o hk])]
  show _ + ((if pt G v c v = 0 then dg nx v w 8 else 0) - (if G v = 0 then dg nx v w 8 else 0)) = _
  rw [pt_h, if_neg hc, if_pos h]
  generalize dg nx v w 8 = d
  omega
theorem kr_0 {R : Nat → Int} {g x : Int} {st : Nat} (hst : ∀ S : SS, S 131 = R → fX12_standOf g S = some (st : Int)) : ∀ (m n k : Nat) (S : SS), m + k = 120 → m < n → S 131 = R → ∃ S', fX12_noRing_L2 g x n k S = some S' ∧ (∀ j, j < 120 → S' 140 j = if k ≤ j then (if j = st then 0 else 268435456) else S 140 j) ∧ (∀ j, j < 120 → S' 145 j = if k ≤ j then 0 else S 145 j) := by
  intro m
  induction m with
  | zero =>
    intro n k S hk hn hR
    obtain ⟨n, rfl⟩ := suc_of hn
    unfold fX12_noRing_L2
    rw [if_pos (by omega)]
    exact ⟨S, rfl, fun j hj => by rw [if_neg (by omega)], fun j hj => by rw [if_neg (by omega)]⟩
  | succ m ih =>
    intro n k S hk hn hR
    obtain ⟨n, rfl⟩ := suc_of hn
    have e : (if (k : Int) = (st : Int) then some (0 : Int) else some 268435456) = some (if k = st then 0 else 268435456) := by
      by_cases c : k = st
      · rw [if_pos (by omega), if_pos c]
      · rw [if_neg (by omega), if_neg c]
    unfold fX12_noRing_L2
    rw [if_neg (by omega), hst S hR, bnd_s, e, bnd_s, wrA_ok (by omega) (by omega), wrA_ok (by omega) (by omega), Int.toNat_natCast, lt_ok, w32_k (by omega)]
    obtain ⟨S', x1, x2, x3⟩ := ih n (k + 1) (up (up S 140 k (if k = st then 0 else 268435456)) 145 k 0) (by omega) (by omega) (by rw [up_row (by decide), up_row (by decide)]; exact hR)
    refine ⟨S', x1, fun j hj => ?_, fun j hj => ?_⟩
    · rw [x2 j hj, up_row (by decide), up_at]
      by_cases c : j = k
      · subst c; rw [if_neg (show ¬ j + 1 ≤ j by omega), if_pos rfl, if_pos (show j ≤ j by omega)]
      · rw [if_neg (c := j = k) c]
        by_cases d : k + 1 ≤ j
        · rw [if_pos d, if_pos (show k ≤ j by omega)]
        · rw [if_neg d, if_neg (show ¬ k ≤ j by omega)]
    · rw [x3 j hj, up_at]
      by_cases c : j = k
      · rw [if_neg (by omega), if_pos c, if_pos (by omega)]
      · rw [if_neg (c := j = k) c, up_row (by decide)]
        by_cases d : k + 1 ≤ j
        · rw [if_pos d, if_pos (by omega)]
        · rw [if_neg d, if_neg (by omega)]
theorem cn_in {R : Nat → Int} {g x : Int} {M a : Nat} {nx : Nat → Nat → Int} (hM : M ≤ 120) (h2 : 0 ≤ R 2 ∧ R 2 ≤ 8) (hnx : ∀ a s, nx a s < M) (hnn : ∀ a s, nx a s = -1 ∨ 0 ≤ nx a s) (ha : a < M) (hL : ∀ (S : SS) (a s : Nat), bthT R g M S → a < M → (s : Int) < R 2 → fX12_lawTo a s x S = some (nx a s)) {B : Nat → Int} (hB : ∀ w, 0 ≤ B w ∧ B w ≤ 960) : ∀ (m n k : Nat) (S : SS), m + k = (R 2).toNat → m < n → bthT R g M S → S 140 a = 0 → (∀ w, w < 120 → S 145 w = B w + dg nx a w k) → ∃ S', fX12_noRing_L157 x a n k S = some S' ∧ ∀ w, w < 120 → S' 145 w = B w + dg nx a w (R 2).toNat := by
  intro m
  induction m with
  | zero =>
    intro n k S hk hn hT h0 hI
    obtain ⟨n, rfl⟩ := suc_of hn
    unfold fX12_noRing_L157
    rw [rdA_ok (by decide) (by decide), show S 131 (2 : Int).toNat = R 2 by rw [hT.1]; rfl, if_pos (by omega)]
    have ek : k = (R 2).toNat := by omega
    rw [← ek]
    exact ⟨S, rfl, hI⟩
  | succ m ih =>
    intro n k S hk hn hT h0 hI
    obtain ⟨n, rfl⟩ := suc_of hn
    obtain ⟨r, hr⟩ : ∃ r, r = fX12_noRing_L157 x a (n + 1) k S := ⟨_, rfl⟩
    rw [← hr]
    unfold fX12_noRing_L157 at hr
    rw [rdA_ok (by decide) (by decide), show S 131 (2 : Int).toNat = R 2 by rw [hT.1]; rfl, if_neg (by omega), rdA_ok (by omega) (by omega), Int.toNat_natCast, if_pos h0, hL S a k hT ha (by omega), bnd_s] at hr
    by_cases e : nx a k = -1
    · rw [if_pos e, bnd_s, lt_ok, w32_k (by omega)] at hr
      rw [hr]
      exact ih n (k + 1) S (by omega) (by omega) hT h0 (fun w hw => by rw [hI w hw, dg_s, if_neg (by omega), Int.add_zero])
    · have hw0 : 0 ≤ nx a k := by
        rcases hnn a k with y | y
        · exact absurd y e
        · exact y
      have hw1 := hnx a k
      obtain ⟨w, hw⟩ : ∃ w : Nat, nx a k = w := ⟨(nx a k).toNat, by omega⟩
      have bd := dg_b (nx := nx) (a := a) (w := w) k
      have bB := hB w
      have iw := hI w (by omega)
      have ev : w32 (S 145 w + 1) = S 145 w + 1 := by
        generalize dg nx a w k = d at *
        rw [w32_eq (by omega) (by omega)]
      rw [if_neg e, bnd_s, hw, rdA_ok (by omega) (by omega), wrA_ok (by omega) (by omega), Int.toNat_natCast, ev, bnd_s, lt_ok, w32_k (by omega)] at hr
      rw [hr]
      clear ev
      refine ih n (k + 1) (up S 145 w (S 145 w + 1)) (by omega) (by omega) (bthT_fr (up_row (by decide)) (up_row (by decide)) hT) (by rw [up_row (by decide)]; exact h0) (fun u hu => ?_)
      rw [up_at, dg_s, hw]
      by_cases c : u = w
      · subst c
        rw [if_pos rfl, if_pos rfl, iw]
        generalize dg nx a u k = d
        omega
      · rw [if_neg c, if_neg (by omega), Int.add_zero]
        exact hI u hu
theorem cn_out {R : Nat → Int} {g x : Int} {M : Nat} {nx : Nat → Nat → Int} (hMM : M = (20 * R 1).toNat) (h1 : 1 ≤ R 1 ∧ R 1 ≤ 6) (h2 : 0 ≤ R 2 ∧ R 2 ≤ 8) (hnx : ∀ a s, nx a s < M) (hnn : ∀ a s, nx a s = -1 ∨ 0 ≤ nx a s) (hz : ∀ a s : Nat, R 2 ≤ (s : Int) → nx a s = -1) (hL : ∀ (S : SS) (a s : Nat), bthT R g M S → a < M → (s : Int) < R 2 → fX12_lawTo a s x S = some (nx a s)) : ∀ (m n a : Nat) (S : SS), m + a = M → m < n → bthT R g M S → (∀ w, w < 120 → S 145 w = IC nx (S 140) w a) → ∃ S', fX12_noRing_L145 x n a S = some S' ∧ S' 140 = S 140 ∧ ∀ w, w < 120 → S' 145 w = IC nx (S 140) w M := by
  intro m
  induction m with
  | zero =>
    intro n a S hk hn hT hI
    obtain ⟨n, rfl⟩ := suc_of hn
    unfold fX12_noRing_L145
    rw [stands_ok (by rw [hT.1]; exact h1.1) (by rw [hT.1]; exact h1.2), hT.1, bnd_s, if_pos (by omega)]
    have ek : a = M := by omega
    rw [← ek]
    exact ⟨S, rfl, rfl, hI⟩
  | succ m ih =>
    intro n a S hk hn hT hI
    obtain ⟨n, rfl⟩ := suc_of hn
    have ib : ∀ w, 0 ≤ IC nx (S 140) w a ∧ IC nx (S 140) w a ≤ 960 := fun w => by
      have := IC_b (nx := nx) (G := S 140) (w := w) a
      generalize IC nx (S 140) w a = d at *
      omega
    have step : ∃ S1, fX12_noRing_L157 x a FU 0 S = some S1 ∧ ∀ w, w < 120 → S1 145 w = IC nx (S 140) w (a + 1) := by
      by_cases c : S 140 a = 0
      · obtain ⟨S1, x1, x2⟩ := cn_in (by omega) h2 hnx hnn (show a < M by omega) hL (B := fun w => IC nx (S 140) w a) ib (R 2).toNat FU 0 S (by omega) (by unfold FU; omega) hT c (fun w hw => by rw [hI w hw]; exact (Int.add_zero _).symm)
        refine ⟨S1, x1, fun w hw => ?_⟩
        rw [x2 w hw, IC_s, if_pos c, dg_8 h2 hz]
      · refine ⟨S, ?_, fun w hw => by rw [hI w hw, IC_s, if_neg c, Int.add_zero]⟩
        obtain ⟨f, hf⟩ : ∃ f, FU = f + 1 := ⟨999999, rfl⟩
        rw [hf]
        unfold fX12_noRing_L157
        rw [rdA_ok (by omega) (by omega), rdA_ok (by omega) (by omega), Int.toNat_natCast, if_neg c, ite_self]
    obtain ⟨S1, x1, x2⟩ := step
    have e140 : S1 140 = S 140 := w_fX12_noRing_L157 (by decide) _ _ _ _ x1
    have T1 : bthT R g M S1 := bthT_fr (w_fX12_noRing_L157 (by decide) _ _ _ _ x1) (w_fX12_noRing_L157 (by decide) _ _ _ _ x1) hT
    obtain ⟨S2, y1, y2, y3⟩ := ih n (a + 1) S1 (by omega) (by omega) T1 (fun w hw => by rw [e140]; exact x2 w hw)
    unfold fX12_noRing_L145
    rw [stands_ok (by rw [hT.1]; exact h1.1) (by rw [hT.1]; exact h1.2), hT.1, bnd_s, if_neg (by omega), x1, bnd_s, lt_ok, w32_k (by omega)]
    exact ⟨S2, y1, y2.trans e140, fun w hw => by rw [y3 w hw, e140]⟩
