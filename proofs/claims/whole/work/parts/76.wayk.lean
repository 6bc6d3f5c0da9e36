/-! way -/
theorem strAt_L1 {nx : Nat → Nat → Int} {S : SS} {M a s0 : Nat} {l2 l4 : Int} (hM : M ≤ 120) (hnx : ∀ a s, nx a s < M) (hnv : ∀ a s, nx a s = -1 ∨ 0 ≤ nx a s) (ha : a < M) (hx : ∀ s, s < 8 → S 138 (8 * a + s) = nx a s) (hb : ∀ v, v < 120 → 0 ≤ S 139 v ∧ S 139 v ≤ 268435456) (h8 : s0 < 8) (he : fby nx (S 139) a s0 = S 139 a) (hl : ∀ s, s < s0 → fby nx (S 139) a s ≠ S 139 a) : ∀ (m n k : Nat), m + k = s0 → m < n → fX12_streetAt_L33 l2 a l4 S n k = some ((s0 : Nat) : Int) := by
  intro m
  induction m with
  | zero =>
    intro n k hk hn
    obtain ⟨n, rfl⟩ := suc_of hn
    have ek : k = s0 := by omega
    unfold fX12_streetAt_L33
    rw [farBy_ok hM hnx hnv (by omega) (by omega) (hx k (by omega)) hb, bnd_s, rdA_ok (by omega) (by omega), Int.toNat_natCast, ek, if_pos he]
  | succ m ih =>
    intro n k hk hn
    obtain ⟨n, rfl⟩ := suc_of hn
    unfold fX12_streetAt_L33
    rw [farBy_ok hM hnx hnv (by omega) (by omega) (hx k (by omega)) hb, bnd_s, rdA_ok (by omega) (by omega), Int.toNat_natCast, if_neg (hl k (by omega)), lt_ok, w32_k (by omega)]
    exact ih n (k + 1) (by omega) (by omega)
theorem strAt_L2 {nx : Nat → Nat → Int} {S : SS} {M found p : Nat} {o L pr : Nat → Nat} {i : Int} (hM : M ≤ 120) (hnx : ∀ a s, nx a s < M) (hnv : ∀ a s, nx a s = -1 ∨ 0 ≤ nx a s) (hx : ∀ a s, a < M → s < 8 → S 138 (8 * a + s) = nx a s) (hb : ∀ v, v < 120 → 0 ≤ S 139 v ∧ S 139 v ≤ 268435456)
    (ho : ∀ q, q < found → o q < M) (hL : L p < 120) (hu : ∀ j, j ≤ L p → upW pr p j < found ∧ S 139 (o (upW pr p j)) = (j : Int)) (hv : ∀ j, j < L p → nx (o (upW pr p (j + 1))) (pr (upW pr p j) % 8) = (o (upW pr p j) : Int) ∧ ∀ s, s < pr (upW pr p j) % 8 → fby nx (S 139) (o (upW pr p (j + 1))) s ≠ (j : Int) + 1) :
    ∀ (m n k : Nat), m + k = L p → m < n → (k : Int) ≤ i ∨ (L p : Int) ≤ i → fX12_streetAt_L9 i S n ((o (upW pr p m) : Nat) : Int) k = some (if i < (L p : Int) then (0, ((pr (upW pr p (L p - 1 - i.toNat)) % 8 : Nat) : Int)) else (1, 0)) := by
  intro m
  induction m with
  | zero =>
    intro n k hk hn hi
    obtain ⟨n, rfl⟩ := suc_of hn
    obtain ⟨u1, u2⟩ := hu 0 (by omega)
    have ou := ho _ u1
    unfold fX12_streetAt_L9
    rw [rdA_ok (by omega) (by omega), Int.toNat_natCast, u2, if_pos (by omega), if_neg (by omega)]
  | succ m ih =>
    intro n k hk hn hi
    obtain ⟨n, rfl⟩ := suc_of hn
    obtain ⟨u1, u2⟩ := hu (m + 1) (by omega)
    obtain ⟨v1, v2⟩ := hv m (by omega)
    have ou := ho _ u1
    obtain ⟨w1, w2⟩ := hu m (by omega)
    have ow := ho _ w1
    have he : fby nx (S 139) (o (upW pr p (m + 1))) (pr (upW pr p m) % 8) = S 139 (o (upW pr p (m + 1))) := by
      unfold fby
      rw [if_neg (by omega), v1, Int.toNat_natCast, w2, if_neg (by omega), u2]; omega
    have l := strAt_L1 (l2 := i) (l4 := (k : Int)) (S := S) hM hnx hnv ou (fun s hs => hx _ s ou hs) hb (by omega) he (fun s hs => by rw [u2]; exact v2 s hs) (pr (upW pr p m) % 8) FU 0 (by omega) (by unfold FU; omega)
    have l' : fX12_streetAt_L33 i ((o (upW pr p (m + 1)) : Nat) : Int) k S FU 0 = some ((pr (upW pr p m) % 8 : Nat) : Int) := l
    have ex : (8 * ((o (upW pr p (m + 1)) : Nat) : Int) + ((pr (upW pr p m) % 8 : Nat) : Int)).toNat = 8 * o (upW pr p (m + 1)) + pr (upW pr p m) % 8 := by omega
    unfold fX12_streetAt_L9
    rw [rdA_ok (by omega) (by omega), Int.toNat_natCast, u2, if_neg (by omega), rdA_ok (by omega) (by omega), Int.toNat_natCast, u2, if_neg (by omega), l', bnd_s]
    by_cases c : (k : Int) = i
    · rw [if_pos c, if_pos (by omega), show L p - 1 - i.toNat = m by omega]
    · rw [if_neg c, w32_eq (x := 8 * ((o (upW pr p (m + 1)) : Nat) : Int)) (by omega) (by omega), w32_eq (x := 8 * ((o (upW pr p (m + 1)) : Nat) : Int) + ((pr (upW pr p m) % 8 : Nat) : Int)) (by omega) (by omega), rdA_ok (by omega) (by omega), ex, hx _ _ ou (by omega), v1, lt_ok, w32_k (by omega)]
      exact ih n (k + 1) (by omega) (by omega) (by omega)
theorem streetAt_ok {S : SS} {R : Nat → Int} {g : Int} {gl : Nat → Bool} {found p : Nat} {o L pr : Nat → Nat} {i : Int} (hB : townB R) (hR : S 131 = R) (hbd : stBd R 34 (R 1)) (hg : 0 ≤ g ∧ g < 3) (h : BI (nowG R g) (spotP R g).toNat (20 * R 1).toNat (8 * found) found o L pr) (hF : FF (nowG R g) gl (20 * R 1).toNat (S 139)) (hx : ∀ a s, a < (20 * R 1).toNat → s < 8 → S 138 (8 * a + s) = nowG R g a s) (hb : ∀ v, v < 120 → 0 ≤ S 139 v ∧ S 139 v ≤ 268435456)
    (hp : p < found) (hgo : gl (o p) = true) (hq : ∀ q, q < p → gl (o q) = false) (hi : 0 ≤ i) : fX12_streetAt g i S = some (if i < (L p : Int) then ((pr (upW pr p (L p - 1 - i.toNat)) % 8 : Nat) : Int) else -1) := by
  have h1 := hB.1
  have W := way_up (by omega) nowG_m h hF hp hgo hq
  have hf := pigeon _ found o h.2.1 h.2.2.1
  have hL : L p < 120 := by have := (BI_reach h p hp).2; omega
  have sp := spotP_b hbd hg.1 hg.2
  have top : o (upW pr p (L p)) = (spotP R g).toNat := by
    obtain ⟨⟨w1, w2, _, _⟩, _⟩ := W (L p) (Nat.le_refl _)
    have z : upW pr p (L p) = 0 := by
      by_cases c : upW pr p (L p) = 0
      · exact c
      · have := (h.2.2.2.1 _ (by omega) w1).2.2.2.1
        omega
    rw [z]; exact h.1.2.1
  have l := strAt_L2 (nx := nowG R g) (S := S) (M := (20 * R 1).toNat) (found := found) (p := p) (o := o) (L := L) (pr := pr) (i := i) (by omega) (nowG_lt hB) nowG_m hx hb h.2.1 hL (fun j hj => ⟨(W j hj).1.1, (W j hj).1.2.2.1⟩) (fun j hj => (W j (by omega)).2 hj) (L p) FU 0 (by omega) (by unfold FU; omega) (Or.inl (by omega))
  rw [top] at l
  have st := standOf_ok (S := S) (g := g) (by rw [hR]; exact hbd) (by rw [hR]; exact hB) hg.1 hg.2
  rw [hR] at st
  have e : (((spotP R g).toNat : Nat) : Int) = spotP R g := by omega
  rw [e] at l
  have l' : fX12_streetAt_L9 i S FU (spotP R g) 0 = some (if i < (L p : Int) then (0, ((pr (upW pr p (L p - 1 - i.toNat)) % 8 : Nat) : Int)) else (1, 0)) := l
  unfold fX12_streetAt
  rw [st, bnd_s, l', bnd_s]
  by_cases c : i < (L p : Int)
  · rw [if_pos c, if_pos c]; rfl
  · rw [if_neg c, if_neg c]; rfl
theorem streetAt_no {S : SS} {R : Nat → Int} {g i : Int} (hB : townB R) (hR : S 131 = R) (hbd : stBd R 34 (R 1)) (hg : 0 ≤ g ∧ g < 3) (hf : S 139 (spotP R g).toNat = 268435456) : fX12_streetAt g i S = some (-1) := by
  have h1 := hB.1
  have sp := spotP_b hbd hg.1 hg.2
  have st := standOf_ok (S := S) (g := g) (by rw [hR]; exact hbd) (by rw [hR]; exact hB) hg.1 hg.2
  rw [hR] at st
  have l : fX12_streetAt_L9 i S FU (spotP R g) 0 = some (1, 0) := by
    show fX12_streetAt_L9 i S (999999 + 1) (spotP R g) 0 = some (1, 0)
    unfold fX12_streetAt_L9
    rw [rdA_ok (by omega) (by omega), hf, if_neg (by decide), rdA_ok (by omega) (by omega), hf, if_pos (by decide)]
  unfold fX12_streetAt
  rw [st, bnd_s, l, bnd_s]
  rfl
theorem upW_b {nx : Nat → Nat → Int} {gl : Nat → Bool} {st M found p : Nat} {o L pr : Nat → Nat} {far : Nat → Int} (hM : M ≤ 120) (hnv : ∀ a s, nx a s = -1 ∨ 0 ≤ nx a s) (h : BI nx st M (8 * found) found o L pr) (hF : FF nx gl M far) (hp : p < found) (hg : gl (o p) = true) (hq : ∀ q, q < p → gl (o q) = false) : (∀ j, j ≤ L p → upW pr p j < found ∧ L (upW pr p j) = L p - j) ∧ (∀ q, q < found → L q ≠ 0 → 1 ≤ q) ∧ L p < 120 := by
  have W := way_up hM hnv h hF hp hg hq
  have hf := pigeon _ found o h.2.1 h.2.2.1
  refine ⟨fun j hj => ⟨(W j hj).1.1, (W j hj).1.2.1⟩, fun q hq h0 => ?_, by have := (BI_reach h p hp).2; omega⟩
  by_cases c : q = 0
  · rw [c, h.1.2.2] at h0; exact absurd rfl h0
  · omega
theorem streetOfWay_no {S : SS} {t : Nat} {i : Int} (hi : 0 ≤ i) : fX10_streetOfWay t (-1) i S = some (-1) := by
  unfold fX10_streetOfWay fX10_goingsTo
  rw [spot_n (p := -1) (by decide), bnd_s, if_neg (by decide), bnd_s, if_neg (by omega), if_neg (by omega)]
theorem k_way : K_way Inv := by
  intro g c y i cg cc cy ci S hI
  obtain ⟨i0, hC, hS, _⟩ := id hI
  obtain ⟨_, hB, _⟩ := id hC
  have h1 := hB.1
  have h3 := hB.2.2.1
  unfold fX11_way fX12_way
  rw [refuses_ok hC, bnd_s]
  by_cases a : ((0 ≤ g ∧ g < S 131 3) ∧ (0 ≤ c ∧ c < S 131 1)) ∧ (y = -1 ∨ (0 ≤ y ∧ y ≤ 19))
  · rw [if_pos a.1, if_pos a.2, if_pos rfl]
    by_cases b : 0 ≤ i
    · obtain ⟨S1, found, o, L, pr, S2, x, q1, q2, q3, q4, q5, q6, q7, q8, q9, q10, q11, q12, q13⟩ := come_both (c := c) (y := y) hI a.1.1
      have e131 : S1 131 = S 131 := q7 131 (by omega)
      have e2 : S2 131 = S 131 := (q12 131 (by omega) (by omega) (by omega)).trans e131
      have sp := spotP_b hS.2 a.1.1.1 (show g < 3 by omega)
      have ff := q9 (spotP (S 131) g).toNat (by omega)
      rw [if_pos b, q1, bnd_s]
      simp only
      have m : ∀ r, fX12_streetAt g i S2 = some r → (lt (up S1 130 0 0) fun S1 => (fX12_noComing g c y S1).bind fun q2 => if q2 = 0 then if 0 ≤ i then (fX12_laysFar g c y S1).bind fun q3 => (fX12_streetAt g i q3.2).bind fun q4 => some (q4, q3.2) else some ((-3), S1) else some (q2, S1)) = some (r, S2) := by
        intro r hr
        rw [lt_ok, up_same (by rw [q7 130 (by omega)]; exact i0), noComing_ok (by rw [e131]; exact hB), e131, bnd_s, if_pos a.1, if_pos a.2, if_pos rfl, if_pos b, q8, bnd_s]
        simp only
        rw [hr, bnd_s]
      obtain ⟨x1, x2⟩ | ⟨p, p1, p2, p3, p4⟩ := q6
      · rw [x1, streetOfWay_no b, bnd_s]
        refine ⟨_, S1, S2, rfl, m _ ?_, q13⟩
        obtain ⟨d, d1, d2, ⟨b, b1, b2⟩, _⟩ | ⟨d1, _⟩ := ff
        · obtain ⟨q, w1, w2, _⟩ := BI_least q3 (Nat.le_refl _) d b b2
          have := x2 q w1
          rw [← w2, b1] at this
          cases this
        · exact streetAt_no hB e2 hS.2 (by omega) d1
      · obtain ⟨u1, u2, u3⟩ := upW_b (by omega) nowG_m q3 q9 p1 p3 p4
        rw [p2, streetOfWay_ok q4 (fun q hq => by have := q3.2.1 q hq; omega) p1 u1 u2 u3 b, bnd_s]
        exact ⟨_, S1, S2, rfl, m _ (streetAt_ok hB e2 hS.2 (by omega) q3 q9 q10 q11 p1 p3 p4 b), q13⟩
    · rw [if_neg b]
      refine ⟨_, S, S, rfl, ?_, hI⟩
      rw [lt_ok, up_same i0, noComing_ok hB, bnd_s, if_pos a.1, if_pos a.2, if_pos rfl, if_neg b]
  · have m : (if (0 ≤ g ∧ g < S 131 3) ∧ (0 ≤ c ∧ c < S 131 1) then (if y = -1 ∨ (0 ≤ y ∧ y ≤ 19) then (0 : Int) else -3) else -2) ≠ 0 := by
      by_cases b : (0 ≤ g ∧ g < S 131 3) ∧ (0 ≤ c ∧ c < S 131 1)
      · rw [if_pos b, if_neg (fun h => a ⟨b, h⟩)]; decide
      · rw [if_neg b]; decide
    rw [if_neg m]
    refine ⟨_, S, S, rfl, ?_, hI⟩
    rw [lt_ok, up_same i0, noComing_ok hB, bnd_s, if_neg m]
