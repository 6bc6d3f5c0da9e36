/-! by-laws, the reference's tables -/
theorem stands_ok {S : SS} (h0 : 1 ≤ S 131 1) (h1 : S 131 1 ≤ 6) : fX12_stands S = some (20 * S 131 1) := by
  unfold fX12_stands
  rw [rdA_ok (by decide) (by decide)]
  show some (w32 (20 * S 131 1)) = _
  rw [w32_eq (by omega) (by omega)]
theorem tdiv2 {k : Nat} (h : k < 1000) : w32 (Int.tdiv (k : Int) 2) = ((k / 2 : Nat) : Int) := by
  rw [Int.tdiv_eq_ediv_of_nonneg (by omega), w32_eq (by omega) (by omega)]; omega
theorem tmod2 {k : Nat} : Int.tmod (k : Int) 2 = ((k % 2 : Nat) : Int) := by
  rw [Int.tmod_eq_emod_of_nonneg (by omega)]; omega
def bthK (R : Nat → Int) (g : Int) (a i : Nat) : Int := if ((i / 2 : Nat) : Int) < R 2 ∧ (a : Int) / 20 = (if i % 2 = 0 then R (10 + i / 2) else R (18 + i / 2)) ∧ 0 ≤ aftP R g ((i / 2 : Nat) : Int) a 2 (R 48) then aftP R g ((i / 2 : Nat) : Int) a 2 (R 48) else -1
def isB (x y : Int) : Prop := x = y
set_option maxHeartbeats 100000 in
theorem both_in {R : Nat → Int} {g : Int} {a : Nat} (hB : townB R) (hb : 0 ≤ R 48 ∧ R 48 ≤ 9) (hg : 0 ≤ g ∧ g < R 3) (ha : a < 120) : ∀ (m n k : Nat) (S : SS), m + k = 16 → m < n → S 131 = R → ∃ S', fX12_laysBoth_L12 g a n k S = some S' ∧ (∀ i, i < 16 → S' 144 (16 * a + i) = if k ≤ i then bthK R g a i else S 144 (16 * a + i)) ∧ (∀ j, j < 16 * a ∨ 16 * a + 16 ≤ j → S' 144 j = S 144 j) ∧ S' 131 = R := by
  have h2 := hB.2.1
  have h3 := hB.2.2.1
  intro m
  induction m with
  | zero =>
    intro n k S hk hn hR
    obtain ⟨n, rfl⟩ := suc_of hn
    unfold fX12_laysBoth_L12
    rw [if_pos (by omega)]
    exact ⟨S, rfl, fun i hi => by rw [if_neg (by omega)], fun _ _ => rfl, hR⟩
  | succ m ih =>
    intro n k S hk hn hR
    obtain ⟨n, rfl⟩ := suc_of hn
    have hs8 : k / 2 < 8 := by omega
    have hk16 : k < 16 := by omega
    have fin : ∀ (S1 : SS) (x : Int), S1 131 = R → S1 144 = S 144 → isB x (bthK R g a k) → ∃ S', (wrA S1 144 1920 (w32 ((w32 (16 * (a : Int))) + (k : Int))) x fun S18 => lt (w32 ((k : Int) + 1)) fun x20 => fX12_laysBoth_L12 g a n x20 S18) = some S' ∧ (∀ i, i < 16 → S' 144 (16 * a + i) = if k ≤ i then bthK R g a i else S 144 (16 * a + i)) ∧ (∀ j, j < 16 * a ∨ 16 * a + 16 ≤ j → S' 144 j = S 144 j) ∧ S' 131 = R := by
      intro S1 x e1 e2 e3
      rw [show w32 ((w32 (16 * (a : Int))) + (k : Int)) = ((16 * a + k : Nat) : Int) by rw [w32_eq (x := 16 * (a : Int)) (by omega) (by omega), w32_eq (by omega) (by omega)]; omega, wrA_ok (by omega) (by omega), Int.toNat_natCast, lt_ok, w32_k (by omega)]
      obtain ⟨S', x1, x2, x3, x4⟩ := ih n (k + 1) (up S1 144 (16 * a + k) x) (by omega) (by omega) (by rw [up_row (by decide)]; exact e1)
      refine ⟨S', x1, fun i hi => ?_, fun j hj => ?_, x4⟩
      · rw [x2 i hi]
        by_cases c : k + 1 ≤ i
        · rw [if_pos c, if_pos (by omega)]
        · rw [if_neg c, up_at, e2]
          by_cases d : i = k
          · subst d; rw [if_pos rfl, if_pos (by omega)]; exact e3
          · rw [if_neg (by omega), if_neg (by omega)]
      · rw [x3 j hj, up_k (by omega), e2]
    obtain ⟨r, hr⟩ : ∃ r, r = fX12_laysBoth_L12 g a (n + 1) k S := ⟨_, rfl⟩
    rw [← hr]
    unfold fX12_laysBoth_L12 at hr
    rw [if_neg (by omega), tdiv2 (by omega), lt_ok, rdA_ok (by decide) (by decide), show S 131 (2 : Int).toNat = R 2 by rw [hR]; rfl, tmod2] at hr
    by_cases c1 : R 2 ≤ ((k / 2 : Nat) : Int)
    · rw [if_pos c1, bnd_s] at hr
      simp only [if_true] at hr
      rw [bnd_s] at hr
      rw [hr]
      refine fin S (-1) hR rfl ?_
      unfold isB bthK
      rw [if_neg (fun z => absurd z.1 (Int.not_lt.mpr c1))]
    · rw [if_neg c1, show w32 (10 + ((k / 2 : Nat) : Int)) = ((10 + k / 2 : Nat) : Int) by rw [w32_eq (by omega) (by omega)]; omega, show w32 (18 + ((k / 2 : Nat) : Int)) = ((18 + k / 2 : Nat) : Int) by rw [w32_eq (by omega) (by omega)]; omega, rdA_ok (by omega) (by omega), rdA_ok (by omega) (by omega), Int.toNat_natCast, Int.toNat_natCast, hR, tdiv20 (by omega)] at hr
      have ec : (if ((k % 2 : Nat) : Int) = 0 then some (R (10 + k / 2)) else some (R (18 + k / 2))) = some (if k % 2 = 0 then R (10 + k / 2) else R (18 + k / 2)) := by
        by_cases z : k % 2 = 0
        · rw [if_pos (by omega), if_pos z]
        · rw [if_neg (by omega), if_neg z]
      rw [ec, bnd_s, w32_eq (x := (a : Int) / 20) (by omega) (by omega)] at hr
      clear ec
      by_cases c2 : (a : Int) / 20 = (if k % 2 = 0 then R (10 + k / 2) else R (18 + k / 2))
      · rw [if_pos c2] at hr
        have hsp : 0 ≤ (a : Int) ∧ (a : Int) < 120 := by omega
        have hss : 0 ≤ ((k / 2 : Nat) : Int) ∧ ((k / 2 : Nat) : Int) < R 2 := by omega
        obtain ⟨S1, a1⟩ := whyBy_ok (S := S) (g := g) (s := ((k / 2 : Nat) : Int)) (at1 := (a : Int)) (sg := 2) (by rw [hR]; exact hB) ⟨hg.1, Int.lt_of_lt_of_le hg.2 h3.2⟩ (by rw [hR]; exact hss) hsp (by rw [hR]; exact hb)
        rw [hR] at a1
        have g1 : S1 131 = R := (w_fX12_whyBy a1 (by decide)).trans hR
        have g2 : S1 144 = S 144 := w_fX12_whyBy a1 (by decide)
        have gt : 0 ≤ aftP R g ((k / 2 : Nat) : Int) a 2 (R 48) → ∃ S2, fX12_goneTo g a ((k / 2 : Nat) : Int) S1 = some (aftP R g ((k / 2 : Nat) : Int) a 2 (R 48), S2) := fun z => by
          obtain ⟨S2, d1⟩ := goneTo_ok (S := S1) (g := g) (s := ((k / 2 : Nat) : Int)) (at1 := (a : Int)) (sg := 2) (by rw [g1]; exact hB) ⟨hg.1, Int.lt_of_lt_of_le hg.2 h3.2⟩ (by rw [g1]; exact hss) hsp (by rw [g1]; exact hb) (by rw [g1]; exact z)
          rw [g1] at d1
          exact ⟨S2, d1⟩
        rw [a1, bnd_s] at hr
        clear a1
        have eb : bthK R g a k = if 0 ≤ aftP R g ((k / 2 : Nat) : Int) a 2 (R 48) then aftP R g ((k / 2 : Nat) : Int) a 2 (R 48) else -1 := by
          unfold bthK
          by_cases z : 0 ≤ aftP R g ((k / 2 : Nat) : Int) a 2 (R 48)
          · rw [if_pos ⟨Int.not_le.mp c1, c2, z⟩, if_pos z]
          · rw [if_neg (fun y => z y.2.2), if_neg z]
        generalize aftP R g ((k / 2 : Nat) : Int) a 2 (R 48) = v at hr gt eb
        simp only at hr
        by_cases z : 0 ≤ v
        · obtain ⟨S2, d1⟩ := gt z
          rw [if_pos (neg_if z), bnd_s] at hr
          simp only at hr
          rw [if_neg (by decide), d1, bnd_s, bnd_s] at hr
          simp only at hr
          rw [hr]
          exact fin S2 v ((w_fX12_goneTo d1 (by decide)).trans g1) ((w_fX12_goneTo d1 (by decide)).trans g2) (by unfold isB; rw [eb, if_pos z])
        · rw [if_neg (pos_if z), bnd_s] at hr
          simp only [if_true] at hr
          rw [bnd_s] at hr
          simp only at hr
          rw [hr]
          exact fin S1 (-1) g1 g2 (by unfold isB; rw [eb, if_neg z])
      · rw [if_neg c2, bnd_s] at hr
        simp only [if_true] at hr
        rw [bnd_s] at hr
        rw [hr]
        refine fin S (-1) hR rfl ?_
        unfold isB bthK
        rw [if_neg (fun y => c2 y.2.1)]
theorem both_out {R : Nat → Int} {g : Int} {M : Nat} (hM : M = (20 * R 1).toNat) (hB : townB R) (hb : 0 ≤ R 48 ∧ R 48 ≤ 9) (hg : 0 ≤ g ∧ g < R 3) : ∀ (m n a : Nat) (S : SS), m + a = M → m < n → S 131 = R → ∃ S', fX12_laysBoth_L2 g n a S = some S' ∧ (∀ b i, a ≤ b → b < M → i < 16 → S' 144 (16 * b + i) = bthK R g b i) ∧ (∀ j, j < 16 * a → S' 144 j = S 144 j) ∧ S' 131 = R := by
  have h1 := hB.1
  intro m
  induction m with
  | zero =>
    intro n a S hk hn hR
    obtain ⟨n, rfl⟩ := suc_of hn
    unfold fX12_laysBoth_L2
    rw [stands_ok (by rw [hR]; exact h1.1) (by rw [hR]; exact h1.2), hR, bnd_s, if_pos (by omega)]
    exact ⟨S, rfl, fun b i h h' _ => by omega, fun _ _ => rfl, hR⟩
  | succ m ih =>
    intro n a S hk hn hR
    obtain ⟨n, rfl⟩ := suc_of hn
    obtain ⟨S1, x1, x2, x3, x4⟩ := both_in hB hb hg (a := a) (by omega) 16 FU 0 S (by omega) (by unfold FU; omega) hR
    have x1' : fX12_laysBoth_L12 g a FU 0 S = some S1 := x1
    obtain ⟨S2, y1, y2, y3, y4⟩ := ih n (a + 1) S1 (by omega) (by omega) x4
    unfold fX12_laysBoth_L2
    rw [stands_ok (by rw [hR]; exact h1.1) (by rw [hR]; exact h1.2), hR, bnd_s, if_neg (by omega), x1', bnd_s, lt_ok, w32_k (by omega)]
    refine ⟨S2, y1, fun b i h h' hi => ?_, fun j hj => ?_, y4⟩
    · by_cases c : b = a
      · subst c
        rw [y3 _ (by omega), x2 i hi, if_pos (by omega)]
      · exact y2 b i (by omega) h' hi
    · rw [y3 j (by omega), x3 j (by omega)]
def bthT (R : Nat → Int) (g : Int) (M : Nat) (S : SS) : Prop := S 131 = R ∧ ∀ b i, b < M → i < 16 → S 144 (16 * b + i) = bthK R g b i
theorem bthT_fr {R : Nat → Int} {g : Int} {M : Nat} {S S' : SS} (h1 : S' 131 = S 131) (h2 : S' 144 = S 144) (h : bthT R g M S) : bthT R g M S' := ⟨h1.trans h.1, by rw [h2]; exact h.2⟩
theorem laysBoth_ok {R : Nat → Int} {g : Int} {M : Nat} {S : SS} (hM : M = (20 * R 1).toNat) (hB : townB R) (hb : 0 ≤ R 48 ∧ R 48 ≤ 9) (hg : 0 ≤ g ∧ g < R 3) (hR : S 131 = R) : ∃ S', fX12_laysBoth g S = some S' ∧ bthT R g M S' := by
  have h1 := hB.1
  obtain ⟨S1, x1, x2, x3, x4⟩ := both_out hM hB hb hg M FU 0 S (by omega) (by unfold FU; omega) hR
  have x1' : fX12_laysBoth_L2 g FU 0 S = some S1 := x1
  unfold fX12_laysBoth
  rw [x1', bnd_s]
  exact ⟨S1, rfl, x4, fun b i hb hi => x2 b i (by omega) hb hi⟩
theorem side_eq {R : Nat → Int} {g s spot sg sg' bol : Int} (h : sideP R s (spot / 20) sg = sideP R s (spot / 20) sg') : aftP R g s spot sg bol = aftP R g s spot sg' bol := by
  unfold aftP
  rw [h]
theorem side_no {R : Nat → Int} {g s spot sg bol : Int} (h : sideP R s (spot / 20) sg = -1) : aftP R g s spot sg bol = -2 := by
  unfold aftP
  rw [if_pos h]
theorem lawTo_ok {R : Nat → Int} {g x : Int} {M a s : Nat} {S : SS} (hM : M ≤ 120) (hB : townB R) (h : bthT R g M S) (ha : a < M) (hs : (s : Int) < R 2) : fX12_lawTo a s x S = some (lwG R g x a s) := by
  have h2 := hB.2.1
  have hs8 : s < 8 := by omega
  obtain ⟨_, _, ne, _⟩ := hB.2.2.2.2.2.1 s hs
  have e40 := @e40_ok s hs8
  unfold fX12_lawTo
  rw [rdA_ok e40.1 e40.2.1, e40.2.2, h.1]
  clear e40
  unfold lwG gr sgL
  by_cases c : R (40 + s) = 3
  · rw [if_pos c, if_pos c, aft3, if_neg (fun z => absurd z.2 (by decide))]
  · have n10 : (10 + (s : Int)).toNat = 10 + s := by omega
    have n18 : (18 + (s : Int)).toNat = 18 + s := by omega
    rw [if_neg c, if_neg c, isIn_ok (by omega), bnd_s]
    by_cases b : bit x s = true
    · rw [if_pos b, bnd_s, if_pos b]
      rw [show w32 ((w32 ((w32 (16 * (a : Int))) + (w32 (2 * (s : Int))))) + 1) = ((16 * a + (2 * s + 1) : Nat) : Int) by rw [w32_eq (x := 16 * (a : Int)) (by omega) (by omega), w32_eq (x := 2 * (s : Int)) (by omega) (by omega), w32_eq (x := 16 * (a : Int) + 2 * (s : Int)) (by omega) (by omega), w32_eq (by omega) (by omega)]; omega, rdA_ok (by omega) (by omega), Int.toNat_natCast, h.2 a (2 * s + 1) ha (by omega)]
      unfold bthK
      rw [show (2 * s + 1) / 2 = s by omega, if_neg (show ¬ (2 * s + 1) % 2 = 0 by omega)]
      by_cases d : (a : Int) / 20 = R (18 + s)
      · have e := side_eq (R := R) (g := g) (s := (s : Int)) (spot := (a : Int)) (sg := 1) (sg' := 2) (bol := R 48) (by
          unfold sideP
          rw [n10, n18, if_neg (show ¬ (a : Int) / 20 = R (10 + s) by omega), if_neg (show ¬ (a : Int) / 20 = R (10 + s) by omega), if_pos d, if_pos d, if_pos (by decide), if_pos (by decide)])
        rw [e]
        by_cases z : 0 ≤ aftP R g s a 2 (R 48)
        · rw [if_pos ⟨hs, d, z⟩, if_pos ⟨hs, z⟩]
        · rw [if_neg (fun y => z y.2.2), if_neg (fun y => z y.2)]
      · have e := side_no (R := R) (g := g) (s := (s : Int)) (spot := (a : Int)) (sg := 1) (bol := R 48) (by
          unfold sideP
          rw [n10, n18]
          by_cases q : (a : Int) / 20 = R (10 + s)
          · rw [if_pos q, if_neg (by decide)]
          · rw [if_neg q, if_neg d])
        rw [e, if_neg (fun y => d y.2.1), if_neg (fun y => absurd y.2 (by decide))]
    · rw [if_neg b, bnd_s, if_neg b]
      rw [show w32 ((w32 ((w32 (16 * (a : Int))) + (w32 (2 * (s : Int))))) + 0) = ((16 * a + (2 * s) : Nat) : Int) by rw [w32_eq (x := 16 * (a : Int)) (by omega) (by omega), w32_eq (x := 2 * (s : Int)) (by omega) (by omega), w32_eq (x := 16 * (a : Int) + 2 * (s : Int)) (by omega) (by omega), w32_eq (by omega) (by omega)]; omega, rdA_ok (by omega) (by omega), Int.toNat_natCast, h.2 a (2 * s) ha (by omega)]
      unfold bthK
      rw [show 2 * s / 2 = s by omega, if_pos (show 2 * s % 2 = 0 by omega)]
      by_cases d : (a : Int) / 20 = R (10 + s)
      · have e := side_eq (R := R) (g := g) (s := (s : Int)) (spot := (a : Int)) (sg := 0) (sg' := 2) (bol := R 48) (by
          unfold sideP
          rw [n10, n18, if_pos d, if_pos d, if_pos (by decide), if_pos (by decide)])
        rw [e]
        by_cases z : 0 ≤ aftP R g s a 2 (R 48)
        · rw [if_pos ⟨hs, d, z⟩, if_pos ⟨hs, z⟩]
        · rw [if_neg (fun y => z y.2.2), if_neg (fun y => z y.2)]
      · have e := side_no (R := R) (g := g) (s := (s : Int)) (spot := (a : Int)) (sg := 0) (bol := R 48) (by
          unfold sideP
          rw [n10, n18, if_neg d]
          by_cases q : (a : Int) / 20 = R (18 + s)
          · rw [if_pos q, if_neg (by decide)]
          · rw [if_neg q])
        rw [e, if_neg (fun y => d y.2.1), if_neg (fun y => absurd y.2 (by decide))]
