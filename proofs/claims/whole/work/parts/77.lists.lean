/-! lists -/
theorem inv_trayL {S S' : SS} {i : Nat} (hi : i < 4) (hI : Inv S) (hl : lanes S') (hq : ∀ a, keepA a ∨ a = 130 → a ≠ 104 + 2 * i → a ≠ 105 + 2 * i → a < 147 → S' a = S a)
    (h147 : ∀ j, j < 4 → j ≠ i → S' 147 j = S 147 j) (h148 : ∀ j, j < 4 → j ≠ i → S' 148 j = S 148 j) (h149 : ∀ j k, j < 4 → j ≠ i → k < 40 → S' 149 (40 * j + k) = S 149 (40 * j + k)) (ht : tray S' i) : Inv S' := by
  have k : ∀ a, (a ≤ 10 ∨ a = 19 ∨ a = 20 ∨ (59 ≤ a ∧ a ≤ 102) ∨ (112 ≤ a ∧ a ≤ 133)) → S' a = S a := fun a h => hq a (by unfold keepA; omega) (by omega) (by omega) (by omega)
  obtain ⟨h1, h2, h3, h4, h5, h6, h7⟩ := hI
  have e130 := k 130 (by omega)
  refine ⟨by rw [e130]; exact h1, core_fr (fun a ha => k a (by omega)) hl h2, stand_fr (k _ (by omega)) (k _ (by omega)) (k _ (by omega)) (k _ (by omega)) (k _ (by omega)) h3, hist_fr (k _ (by omega)) (k _ (by omega)) (fun a x y => k a (by omega)) h4,
    tape_fr (k _ (by omega)) (k _ (by omega)) (k _ (by omega)) (by rw [e130]) (by rw [e130]) (by rw [e130]) h5, ?_, imgs_fr (k _ (by omega)) (fun a x y => k a (by omega)) (k _ (by omega)) (fun j _ => by rw [k 131 (by omega)]) h7⟩
  rw [trays_all] at h6 ⊢
  intro j hj
  by_cases c : j = i
  · rw [c]; exact ht
  · have r1 : S' (104 + 2 * j) = S (104 + 2 * j) := hq _ (by unfold keepA; omega) (by omega) (by omega) (by omega)
    have r2 : S' (105 + 2 * j) = S (105 + 2 * j) := hq _ (by unfold keepA; omega) (by omega) (by omega) (by omega)
    have := h6 j hj
    unfold tray at this ⊢
    rw [r1, r2, h147 j hj c, h148 j hj c]
    obtain t | ⟨t1, t2⟩ := this
    · exact Or.inl t
    · refine Or.inr ⟨t1, fun q hq' => ?_⟩
      rw [h149 j q hj c (by omega)]
      exact t2 q hq'
theorem cut8 : ∀ v, v < 8 → jb (w32 ((v : Nat) : Int)) = v ∧ js (w32 ((v : Nat) : Int)) = v ∧ w32 ((v : Nat) : Int) = v := by decide +kernel
theorem cutP8 {v : Nat} {s : Int} (h : v < 8) : cutP (v : Int) s = v := by
  obtain ⟨a, b, c⟩ := cut8 v h
  unfold cutP
  split
  · exact a
  split
  · exact b
  split
  · exact c
  · rfl
theorem list_c {i found p N : Nat} {o L pr : Nat → Nat} (hi : i < 4) (ho : ∀ q, q < found → o q < 120) (hp : p < found) (hu : ∀ j, j ≤ L p → upW pr p j < found ∧ L (upW pr p j) = L p - j) (h1 : ∀ q, q < found → L q ≠ 0 → 1 ≤ q) (hL : L p < 120) (hN : N ≤ L p) (h40 : N ≤ 40) : ∀ (m n k : Nat) (S : SS), m + k = N → m < n → BR S 35 found o L pr → (N : Int) ≤ S (104 + 2 * i) 2 → S (104 + 2 * i) 2 ≤ 40 → ∃ S', fX11_lists_L111 (104 + 2 * i) ((o p : Nat) : Int) N n k S = some S' ∧ ∀ j, S' (105 + 2 * i) j = if k ≤ j ∧ j < N then ((pr (upW pr p (L p - 1 - j)) % 8 : Nat) : Int) else S (105 + 2 * i) j := by
  intro m
  induction m with
  | zero =>
    intro n k S hk hn hr hs h4
    obtain ⟨n, rfl⟩ := suc_of hn
    unfold fX11_lists_L111
    rw [if_pos (by omega)]
    exact ⟨S, rfl, fun j => by rw [if_neg (by omega)]⟩
  | succ m ih =>
    intro n k S hk hn hr hs h4
    obtain ⟨n, rfl⟩ := suc_of hn
    have q1 : fX9_set (104 + 2 * i) k ((pr (upW pr p (L p - 1 - k)) % 8 : Nat) : Int) S = some (up S (105 + 2 * i) k ((pr (upW pr p (L p - 1 - k)) % 8 : Nat) : Int)) := by
      unfold fX9_set
      rw [hasPlace_ok h4, bnd_s, if_pos (decide_eq_true (by omega)), ccut_ok, bnd_s, wrA_ok (by omega) (by omega), cutP8 (by omega), Int.toNat_natCast, show 104 + 2 * i + 1 = 105 + 2 * i by omega]
    unfold fX11_lists_L111
    rw [if_neg (by omega), streetOfWay_ok hr ho hp hu h1 hL (by omega), bnd_s, if_pos (by omega), Int.toNat_natCast, q1, bnd_s, lt_ok, w32_k (by omega)]
    have ur : ∀ a, a ≠ 105 + 2 * i → up S (105 + 2 * i) k ((pr (upW pr p (L p - 1 - k)) % 8 : Nat) : Int) a = S a := fun a ha => up_row ha
    obtain ⟨S', z1, z2⟩ := ih n (k + 1) (up S (105 + 2 * i) k ((pr (upW pr p (L p - 1 - k)) % 8 : Nat) : Int)) (by omega) (by omega) (BR_fr (by rw [ur 35 (by omega)]) (ur _ (by omega)) (ur _ (by omega)) (ur _ (by omega)) (ur _ (by omega)) hr) (by rw [ur _ (by omega)]; exact hs) (by rw [ur _ (by omega)]; exact h4)
    refine ⟨S', z1, fun j => ?_⟩
    rw [z2 j, up_at]
    by_cases cj : j = k
    · rw [if_neg (by omega), if_pos cj, if_pos (by omega), cj]
    · by_cases c2 : k ≤ j ∧ j < N
      · rw [if_pos (by omega), if_pos c2]
      · rw [if_neg (by omega), if_neg cj, if_neg c2]
theorem list_m {g : Int} {i N : Nat} {f : Nat → Int} (hi : i < 4) (h40 : N ≤ 40) : ∀ (m n k : Nat) (S : SS), m + k = N → m < n → (∀ M : SS, (∀ a, a ≠ 149 → M a = S a) → ∀ j, j < N → fX12_streetAt g j M = some (f j)) → ∃ S', fX12_lists_L119 i g N n k S = some S' ∧ ∀ j, S' 149 j = if 40 * i + k ≤ j ∧ j < 40 * i + N then f (j - 40 * i) else S 149 j := by
  intro m
  induction m with
  | zero =>
    intro n k S hk hn hs
    obtain ⟨n, rfl⟩ := suc_of hn
    unfold fX12_lists_L119
    rw [if_pos (by omega)]
    exact ⟨S, rfl, fun j => by rw [if_neg (by omega)]⟩
  | succ m ih =>
    intro n k S hk hn hs
    obtain ⟨n, rfl⟩ := suc_of hn
    have ex : (40 * (i : Int) + (k : Int)).toNat = 40 * i + k := by omega
    unfold fX12_lists_L119
    rw [if_neg (by omega), hs S (fun _ _ => rfl) k (by omega), bnd_s, w32_eq (x := 40 * (i : Int)) (by omega) (by omega), w32_eq (x := 40 * (i : Int) + (k : Int)) (by omega) (by omega), wrA_ok (by omega) (by omega), ex, lt_ok, w32_k (by omega)]
    obtain ⟨S', z1, z2⟩ := ih n (k + 1) (up S 149 (40 * i + k) (f k)) (by omega) (by omega) (fun M hM j hj => hs M (fun a ha => (hM a ha).trans (up_row ha)) j hj)
    refine ⟨S', z1, fun j => ?_⟩
    rw [z2 j, up_at]
    by_cases cj : j = 40 * i + k
    · rw [if_neg (by omega), if_pos cj, if_pos (by omega), show j - 40 * i = k by omega]
    · by_cases c2 : 40 * i + k ≤ j ∧ j < 40 * i + N
      · rw [if_pos (by omega), if_pos c2]
      · rw [if_neg (by omega), if_neg cj, if_neg c2]
theorem k_lists : K_lists Inv := by
  intro t g c y ct cg cc cy S hI
  obtain ⟨i0, hC, hS, hH, hT, hTr, hIm⟩ := id hI
  obtain ⟨_, hB, _⟩ := id hC
  have h1 := hB.1
  have h3 := hB.2.2.1
  have hTa := trays_all.mp hTr
  unfold fX11_lists fX12_lists
  by_cases ta : 0 ≤ t ∧ t ≤ 3
  · obtain ⟨i, rfl⟩ : ∃ i : Nat, t = i := ⟨t.toNat, by omega⟩
    have ht := hTa i (by omega)
    rw [trayAt_ok (by omega) (by omega), bnd_s, Int.toNat_natCast, if_neg (by omega), has_g hC, bnd_s]
    by_cases a : 0 ≤ g ∧ g < S 131 3
    · rw [if_pos (decide_eq_true a), has_c hC, bnd_s]
      by_cases b : 0 ≤ c ∧ c < S 131 1
      · rw [if_pos (decide_eq_true b)]
        unfold gsh
        rw [if_pos (refs101 i (by omega)).2, isMissing_ok ht, bnd_s]
        by_cases d : S 147 i = -1
        · rw [if_pos (decide_eq_true d)]
          refine ⟨_, S, S, rfl, ?_, hI⟩
          rw [lt_ok, up_same i0, within_ok, bnd_s, if_pos (decide_eq_true ta), is_g hB, bnd_s, if_pos (decide_eq_true a), is_c hB, bnd_s, if_pos (decide_eq_true b), noTray_ok, bnd_s, Int.toNat_natCast, if_pos ta, if_pos d]
          rfl
        · obtain ⟨x, _⟩ | ⟨⟨t1, t2, t3, t4, t5, t6⟩, t7⟩ := id ht
          · exact absurd x d
          rw [if_neg (by rw [decide_eq_true_eq]; exact d), refuses_ok hC, bnd_s, if_pos (c := (0 ≤ g ∧ g < S 131 3) ∧ (0 ≤ c ∧ c < S 131 1)) ⟨a, b⟩]
          by_cases e : y = -1 ∨ (0 ≤ y ∧ y ≤ 19)
          · obtain ⟨S1, found, o, L, pr, _, x, q1, q2, q3, q4, q5, q6, q7, _, _, _, _, _, _⟩ := come_both (c := c) (y := y) hI a
            have e131 : S1 131 = S 131 := q7 131 (by omega)
            have sp := spotP_b hS.2 a.1 (show g < 3 by omega)
            rw [if_pos e, if_pos rfl, q1, bnd_s]
            simp only
            -- the reference, from any state that keeps the town
            have mod : ∀ M : SS, M 131 = S 131 → M 130 = S 130 → M 147 = S 147 → ∃ S2, fX12_laysFar g c y M = some (S2 139 (spotP (S 131) g).toNat, S2) ∧ FF (nowG (S 131) g) (goalP c y) (20 * S 131 1).toNat (S2 139) ∧ (∀ a s, a < (20 * S 131 1).toNat → s < 8 → S2 138 (8 * a + s) = nowG (S 131) g a s) ∧ (∀ v, v < 120 → 0 ≤ S2 139 v ∧ S2 139 v ≤ 268435456) ∧ (∀ a, (a < 135 ∨ 136 < a) → a ≠ 138 → a ≠ 139 → S2 a = M a) := by
              intro M m1 m2 m3
              obtain ⟨S2, b1, b2, b3, b4, b5⟩ := laysFar_ok (S := M) (g := g) (c := c) (y := y) (by rw [m1]; exact hB) (by rw [m1]; exact hS.2) (by rw [m1]; exact a)
              rw [m1] at b1 b2 b3
              exact ⟨S2, b1, b2, b3, b4, b5⟩
            obtain ⟨x1, x2⟩ | ⟨p, p1, p2, p3, p4⟩ := q6
            · obtain ⟨S2, b1, b2, b3, b4, b5⟩ := mod S1 e131 (q7 130 (by omega)) (q7 147 (by omega))
              have fd : S2 139 (spotP (S 131) g).toNat = 268435456 := by
                obtain ⟨dd, d1, d2, ⟨bb, bb1, bb2⟩, _⟩ | ⟨d1, _⟩ := b2 (spotP (S 131) g).toNat (by omega)
                · obtain ⟨q, w1, w2, _⟩ := BI_least q3 (Nat.le_refl _) dd bb bb2
                  have := x2 q w1
                  rw [← w2, bb1] at this
                  cases this
                · exact d1
              rw [if_pos x1]
              refine ⟨_, S1, S2, rfl, ?_, inv_q hI q2 (fun a ha => by unfold keepA at ha; exact q7 a (by omega)) (fun a ha => by unfold keepA at ha; exact b5 a (by omega) (by omega) (by omega))⟩
              rw [lt_ok, up_same (by rw [q7 130 (by omega)]; exact i0), within_ok, bnd_s, if_pos (decide_eq_true ta), is_g (by rw [e131]; exact hB), e131, bnd_s, if_pos (decide_eq_true a), is_c (by rw [e131]; exact hB), e131, bnd_s, if_pos (decide_eq_true b), noTray_ok, bnd_s, Int.toNat_natCast, if_pos ta, q7 147 (by omega), if_neg d, if_pos rfl, noComing_ok (by rw [e131]; exact hB), e131, bnd_s, if_pos (c := (0 ≤ g ∧ g < S 131 3) ∧ (0 ≤ c ∧ c < S 131 1)) ⟨a, b⟩, if_pos e, if_pos rfl, b1, bnd_s]
              simp only
              rw [if_pos fd]
            · have op := q3.2.1 p p1
              have ho : ∀ q, q < found → o q < 120 := fun q hq => by have := q3.2.1 q hq; omega
              obtain ⟨S2', b1', b2', b3', b4', b5'⟩ := mod S1 e131 (q7 130 (by omega)) (q7 147 (by omega))
              obtain ⟨u1, u2, u3⟩ := upW_b (by omega) nowG_m q3 b2' p1 p3 p4
              have eg : fX10_goingsTo 35 x S1 = some ((L p : Nat) : Int) := by
                rw [p2, goingsTo_ok (by omega) (by omega), Int.toNat_natCast, q4.2.2.1 p p1]
              have es : S1 (104 + 2 * i) = S (104 + 2 * i) := q7 _ (by omega)
              obtain ⟨Z, hZ⟩ : ∃ Z : Nat, S 148 i = Z := ⟨(S 148 i).toNat, by omega⟩
              have eN : (if S1 (104 + 2 * i) 2 < ((L p : Nat) : Int) then S1 (104 + 2 * i) 2 else ((L p : Nat) : Int)) = ((min Z (L p) : Nat) : Int) := by
                rw [es, t4, hZ]
                split <;> omega
              obtain ⟨S3, c1, c2⟩ := list_c (i := i) (N := min Z (L p)) (by omega) ho p1 u1 u2 u3 (by omega) (by omega) (min Z (L p)) FU 0 S1 (by omega) (by unfold FU; omega) q4 (by rw [es, t4, hZ]; omega) (by rw [es, t4, hZ]; omega)
              have c1' : fX11_lists_L111 (104 + 2 * i) ((o p : Nat) : Int) ((min Z (L p) : Nat) : Int) FU 0 S1 = some S3 := c1
              have f3 : ∀ a, a ≠ 104 + 2 * i + 1 → S3 a = S1 a := fun a ha => w_fX11_lists_L111 (by omega) _ _ _ _ c1
              have fz : ∀ a, (a < 30 ∨ 40 < a) → a ≠ 105 + 2 * i → S3 a = S a := fun a h h' => (f3 a (by omega)).trans (q7 a h)
              rw [if_neg (by rw [p2]; omega), eg, bnd_s, lt_ok, eN, p2, c1', bnd_s]
              obtain ⟨S4, b1, b2, b3, b4, b5⟩ := mod S3 (fz 131 (by omega) (by omega)) (fz 130 (by omega) (by omega)) (fz 147 (by omega) (by omega))
              have e4 : S4 131 = S 131 := (b5 131 (by omega) (by omega) (by omega)).trans (fz 131 (by omega) (by omega))
              have ff : S4 139 (spotP (S 131) g).toNat = ((L p : Nat) : Int) := by
                obtain ⟨f1, f2⟩ := first_far q3 p1 p3 p4
                obtain ⟨dd, d1, d2, d3, d4⟩ | ⟨_, d2⟩ := b2 (spotP (S 131) g).toNat (by omega)
                · have := f2 dd d3
                  have := d4 _ f1
                  omega
                · exact absurd f1 (d2 _)
              have st : ∀ M : SS, (∀ a, a ≠ 149 → M a = S4 a) → ∀ j, j < min Z (L p) → fX12_streetAt g (j : Nat) M = some ((pr (upW pr p (L p - 1 - j)) % 8 : Nat) : Int) := by
                intro M hM j hj
                have z := streetAt_ok (S := M) (R := S 131) (g := g) (gl := goalP c y) (i := (j : Int)) hB ((hM 131 (by decide)).trans e4) hS.2 (by omega) q3 (by rw [hM 139 (by decide)]; exact b2) (by rw [hM 138 (by decide)]; exact b3) (by rw [hM 139 (by decide)]; exact b4) p1 p3 p4 (by omega)
                rw [if_pos (by omega), Int.toNat_natCast] at z
                exact z
              obtain ⟨S5, m1, m2⟩ := list_m (g := g) (i := i) (N := min Z (L p)) (f := fun j => ((pr (upW pr p (L p - 1 - j)) % 8 : Nat) : Int)) (by omega) (by omega) (min Z (L p)) FU 0 S4 (by omega) (by unfold FU; omega) st
              have m1' : fX12_lists_L119 i g ((min Z (L p) : Nat) : Int) FU 0 S4 = some S5 := m1
              have f5 : ∀ a, a ≠ 149 → S5 a = S4 a := fun a ha => w_fX12_lists_L119 (by omega) _ _ _ _ m1
              have fw : ∀ a, (a < 135 ∨ 136 < a) → a ≠ 138 → a ≠ 139 → a ≠ 149 → S5 a = S3 a := fun a y1 y2 y3 y4 => (f5 a y4).trans (b5 a y1 y2 y3)
              have fv : ∀ a, (a < 30 ∨ (40 < a ∧ a < 135) ∨ a = 147 ∨ a = 148) → a ≠ 105 + 2 * i → S5 a = S a := fun a h h' => (fw a (by omega) (by omega) (by omega) (by omega)).trans (fz a (by omega) h')
              have e149 : ∀ j, S5 149 j = if 40 * i ≤ j ∧ j < 40 * i + min Z (L p) then ((pr (upW pr p (L p - 1 - (j - 40 * i))) % 8 : Nat) : Int) else S 149 j := fun j => by
                rw [m2 j, b5 149 (by omega) (by omega) (by omega), fz 149 (by omega) (by omega)]; rfl
              refine ⟨_, S3, S5, rfl, ?_, ?_⟩
              · have e3 : S3 131 = S 131 := fz 131 (by omega) (by omega)
                have eq : (if S4 148 i ≤ S4 139 (spotP (S 131) g).toNat then (rdA S4 148 4 i fun v11 => some v11) else some (S4 139 (spotP (S 131) g).toNat) : Option Int) = some ((min Z (L p) : Nat) : Int) := by
                  rw [b5 148 (by omega) (by omega) (by omega), fz 148 (by omega) (by omega), hZ, ff, rdA_ok (by omega) (by omega), Int.toNat_natCast, b5 148 (by omega) (by omega) (by omega), fz 148 (by omega) (by omega), hZ]
                  by_cases cz : (Z : Int) ≤ ((L p : Nat) : Int)
                  · rw [if_pos cz]; exact congrArg some (by omega)
                  · rw [if_neg cz]; exact congrArg some (by omega)
                rw [lt_ok, up_same (by rw [fz 130 (by omega) (by omega)]; exact i0), within_ok, bnd_s, if_pos (decide_eq_true ta), is_g (by rw [e3]; exact hB), e3, bnd_s, if_pos (decide_eq_true a), is_c (by rw [e3]; exact hB), e3, bnd_s, if_pos (decide_eq_true b), noTray_ok, bnd_s, Int.toNat_natCast, if_pos ta, fz 147 (by omega) (by omega), if_neg d, if_pos rfl, noComing_ok (by rw [e3]; exact hB), e3, bnd_s, if_pos (c := (0 ≤ g ∧ g < S 131 3) ∧ (0 ≤ c ∧ c < S 131 1)) ⟨a, b⟩, if_pos e, if_pos rfl, b1, bnd_s]
                simp only
                rw [if_neg (by rw [ff]; omega), rdA_ok (by omega) (by omega), Int.toNat_natCast, eq, bnd_s, m1', bnd_s]
              · have lq : lanes S5 := lanes_fr ((fw 30 (by omega) (by omega) (by omega) (by omega)).trans (f3 30 (by omega))) ((fw 33 (by omega) (by omega) (by omega) (by omega)).trans (f3 33 (by omega))) ((fw 131 (by omega) (by omega) (by omega) (by omega)).trans (f3 131 (by omega))) q2
                refine inv_trayL (i := i) (by omega) hI lq (fun a h h1 h2 h3 => by unfold keepA at h; exact fv a (by omega) h2) (fun j _ h => by rw [fv 147 (by omega) (by omega)]) (fun j _ h => by rw [fv 148 (by omega) (by omega)]) (fun j k h h' h'' => by rw [e149, if_neg (by omega)]) (Or.inr ⟨⟨?_, ?_, ?_, ?_, ?_, ?_⟩, fun k hk => ?_⟩)
                · rw [fv 147 (by omega) (by omega)]; exact t1
                · rw [fv 147 (by omega) (by omega)]; exact t2
                · rw [fv 147 (by omega) (by omega), fv (104 + 2 * i) (by omega) (by omega)]; exact t3
                · rw [fv 148 (by omega) (by omega), fv (104 + 2 * i) (by omega) (by omega)]; exact t4
                · rw [fv 148 (by omega) (by omega)]; exact t5
                · rw [fv 148 (by omega) (by omega)]; exact t6
                · rw [fv 148 (by omega) (by omega)] at hk
                  rw [fw _ (by omega) (by omega) (by omega) (by omega), c2 k, e149]
                  by_cases ck : k < min Z (L p)
                  · rw [if_pos (by omega), if_pos (by omega), show 40 * i + k - 40 * i = k by omega]
                    exact ⟨rfl, by unfold cL; omega⟩
                  · rw [if_neg (by omega), if_neg (by omega), q7 _ (by omega)]
                    exact t7 k hk
          · rw [if_neg e, if_neg (by decide)]
            refine ⟨_, S, S, rfl, ?_, hI⟩
            rw [lt_ok, up_same i0, within_ok, bnd_s, if_pos (decide_eq_true ta), is_g hB, bnd_s, if_pos (decide_eq_true a), is_c hB, bnd_s, if_pos (decide_eq_true b), noTray_ok, bnd_s, Int.toNat_natCast, if_pos ta, if_neg d, if_pos rfl, noComing_ok hB, bnd_s, if_pos (c := (0 ≤ g ∧ g < S 131 3) ∧ (0 ≤ c ∧ c < S 131 1)) ⟨a, b⟩, if_neg e, if_neg (by decide)]
      · rw [if_neg (by rw [decide_eq_true_eq]; exact b)]
        refine ⟨_, S, S, rfl, ?_, hI⟩
        rw [lt_ok, up_same i0, within_ok, bnd_s, if_pos (decide_eq_true ta), is_g hB, bnd_s, if_pos (decide_eq_true a), is_c hB, bnd_s, if_neg (by rw [decide_eq_true_eq]; exact b)]
    · rw [if_neg (by rw [decide_eq_true_eq]; exact a)]
      refine ⟨_, S, S, rfl, ?_, hI⟩
      rw [lt_ok, up_same i0, within_ok, bnd_s, if_pos (decide_eq_true ta), is_g hB, bnd_s, if_neg (by rw [decide_eq_true_eq]; exact a)]
  · rw [trayAt_no (by omega), bnd_s, if_pos rfl]
    refine ⟨_, S, S, rfl, ?_, hI⟩
    rw [lt_ok, up_same i0, within_ok, bnd_s, if_neg (by rw [decide_eq_true_eq]; exact ta)]
