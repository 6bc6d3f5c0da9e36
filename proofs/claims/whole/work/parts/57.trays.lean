/-! trays -/
theorem refs101 : ∀ i, i < 4 → refs 101 i = 104 + 2 * i ∧ sh (104 + 2 * i) = (9, 3) := by decide +kernel
theorem trayAt_ok {S : SS} {i : Int} (h0 : 0 ≤ i) (h4 : i < 4) : fX11_trayAt i S = some (104 + 2 * i.toNat) := by
  unfold fX11_trayAt rdR
  rw [if_neg (by omega), if_neg (by omega), if_pos (by omega), (refs101 i.toNat (by omega)).1]
theorem trayAt_no {S : SS} {i : Int} (h : ¬ (0 ≤ i ∧ i < 4)) : fX11_trayAt i S = some 0 := by
  unfold fX11_trayAt
  by_cases c : i < 0
  · rw [if_pos c]
  · rw [if_neg c, if_pos (by omega)]
theorem trays_all {S : SS} : Trays S ↔ ∀ i, i < 4 → tray S i := by
  constructor
  · intro h i hi
    obtain rfl | rfl | rfl | rfl : i = 0 ∨ i = 1 ∨ i = 2 ∨ i = 3 := by omega
    · exact h.1
    · exact h.2.1
    · exact h.2.2.1
    · exact h.2.2.2
  · intro h
    exact ⟨h 0 (by omega), h 1 (by omega), h 2 (by omega), h 3 (by omega)⟩
theorem inv_tray {S S' : SS} {i : Nat} (hi : i < 4) (hI : Inv S) (hq : ∀ a, keepA a ∨ a = 130 ∨ a = 30 ∨ a = 33 → a ≠ 104 + 2 * i → a ≠ 105 + 2 * i → a < 147 → S' a = S a)
    (h147 : ∀ j, j < 4 → j ≠ i → S' 147 j = S 147 j) (h148 : ∀ j, j < 4 → j ≠ i → S' 148 j = S 148 j) (h149 : ∀ j k, j < 4 → j ≠ i → k < 40 → S' 149 (40 * j + k) = S 149 (40 * j + k)) (ht : tray S' i) : Inv S' := by
  have k : ∀ a, (a ≤ 10 ∨ a = 19 ∨ a = 20 ∨ a = 30 ∨ a = 33 ∨ (59 ≤ a ∧ a ≤ 102) ∨ (112 ≤ a ∧ a ≤ 133)) → S' a = S a := fun a h => hq a (by unfold keepA; omega) (by omega) (by omega) (by omega)
  obtain ⟨h1, h2, h3, h4, h5, h6, h7⟩ := hI
  have e130 := k 130 (by omega)
  refine ⟨by rw [e130]; exact h1, core_fr (fun a ha => k a (by omega)) (lanes_fr (k _ (by omega)) (k _ (by omega)) (k _ (by omega)) h2.2.2) h2, stand_fr (k _ (by omega)) (k _ (by omega)) (k _ (by omega)) (k _ (by omega)) (k _ (by omega)) h3, hist_fr (k _ (by omega)) (k _ (by omega)) (fun a x y => k a (by omega)) h4,
    tape_fr (k _ (by omega)) (k _ (by omega)) (k _ (by omega)) (by rw [e130]) (by rw [e130]) (by rw [e130]) h5, ?_, imgs_fr (k _ (by omega)) (fun a x y => k a (by omega)) (k _ (by omega)) (fun j _ => by rw [k 131 (by omega)]) h7⟩
  rw [trays_all] at h6 ⊢
  intro j hj
  by_cases c : j = i
  · rw [c]; exact ht
  · have r1 : S' (104 + 2 * j) = S (104 + 2 * j) := hq _ (by unfold keepA; omega) (by omega) (by omega) (by omega)
    have r2 : S' (105 + 2 * j) = S (105 + 2 * j) := hq _ (by unfold keepA; omega) (by omega) (by omega) (by omega)
    have := h6 j hj
    unfold tray at this ⊢
    rw [r1, r2, h147 j hj c, h148 j hj c]
    obtain t | ⟨t1, t2⟩ := this
    · exact Or.inl t
    · refine Or.inr ⟨t1, fun q hq' => ?_⟩
      rw [h149 j q hj c (by omega)]
      exact t2 q hq'
theorem num_loop {i : Nat} {N : Int} (hi : i < 4) (h0 : 0 ≤ N) (h40 : N ≤ 40) : ∀ (m n k : Nat) (S : SS), m + k = N.toNat → m < n → ∃ S', fX12_numbers_L64 (i : Int) N n k S = some S' ∧ (∀ j, k ≤ j → j < N.toNat → S' 149 (40 * i + j) = 0) ∧ (∀ q, (q < 40 * i + k ∨ 40 * i + 40 ≤ q) → S' 149 q = S 149 q) := by
  intro m
  induction m with
  | zero =>
    intro n k S hk hn
    obtain ⟨n, rfl⟩ := suc_of hn
    unfold fX12_numbers_L64
    rw [if_pos (by omega)]
    exact ⟨S, rfl, fun j _ _ => by omega, fun q _ => rfl⟩
  | succ m ih =>
    intro n k S hk hn
    obtain ⟨n, rfl⟩ := suc_of hn
    unfold fX12_numbers_L64
    have e : (40 * (i : Int) + (k : Int)).toNat = 40 * i + k := by omega
    rw [if_neg (by omega), w32_eq (x := 40 * (i : Int)) (by omega) (by omega), w32_eq (x := 40 * (i : Int) + (k : Int)) (by omega) (by omega), wrA_ok (by omega) (by omega), e, w32_k (by omega), lt_ok]
    obtain ⟨S', e1, e2, e3⟩ := ih n (k + 1) (up S 149 (40 * i + k) 0) (by omega) (by omega)
    refine ⟨S', e1, fun j h h' => ?_, fun q h => ?_⟩
    · by_cases c : j = k
      · rw [e3 _ (by omega), up_at, if_pos (by omega)]
      · exact e2 j (by omega) h'
    · rw [e3 q (by omega), up_at, if_neg (by omega)]
theorem k_numbers : K_numbers Inv := by
  intro t s n ct cs cn S hI
  obtain ⟨i0, hC, hS, hH, hT, hTr, hIm⟩ := id hI
  by_cases a : 0 ≤ t ∧ t ≤ 3
  · by_cases b : 0 ≤ s ∧ s ≤ 3
    · by_cases c : 0 ≤ n ∧ n ≤ 40
      · obtain ⟨i, rfl⟩ : ∃ i : Nat, t = i := ⟨t.toNat, by omega⟩
        obtain ⟨S1, e1, e2, e3⟩ := @fill_d0a16_40 (104 + 2 * i + 1) 0 S
        have q1 : fX11_numbers i s n S = some (0, up (up S1 (104 + 2 * i) 1 s) (104 + 2 * i) 2 n) := by
          unfold fX11_numbers
          rw [trayAt_ok (by omega) (by omega), bnd_s, Int.toNat_natCast, if_neg (by omega), if_neg (by omega), if_pos (by omega), if_neg (by omega), if_pos (by omega)]
          unfold gsh fX9_begin
          rw [if_pos (refs101 i (by omega)).2, e1, bnd_s, lt_ok, lt_ok, bnd_s]
        have f1 : ∀ a, a ≠ 104 + 2 * i → a ≠ 105 + 2 * i → up (up S1 (104 + 2 * i) 1 s) (104 + 2 * i) 2 n a = S a := fun a h h' => by rw [up_row h, up_row h, e3 a (by omega)]
        have g1 : up (up S1 (104 + 2 * i) 1 s) (104 + 2 * i) 2 n (104 + 2 * i) 1 = s := by rw [up_at, if_neg (by decide), up_self]
        have g2 : up (up S1 (104 + 2 * i) 1 s) (104 + 2 * i) 2 n (104 + 2 * i) 2 = n := up_self
        have g3 : ∀ j, j < 40 → up (up S1 (104 + 2 * i) 1 s) (104 + 2 * i) 2 n (105 + 2 * i) j = 0 := fun j hj => by
          rw [up_row (by omega), up_row (by omega), show 105 + 2 * i = 104 + 2 * i + 1 by omega]; exact e2 j hj
        generalize up (up S1 (104 + 2 * i) 1 s) (104 + 2 * i) 2 n = S2 at q1 f1 g1 g2 g3
        obtain ⟨S3, l1, l2, l3⟩ := num_loop (i := i) (N := n) (by omega) c.1 c.2 n.toNat FU 0 (up (up S2 147 i s) 148 i n) (by omega) (by unfold FU; omega)
        have l1' : fX12_numbers_L64 i n FU 0 (up (up S2 147 i s) 148 i n) = some S3 := l1
        have f3 : ∀ a, a ≠ 149 → S3 a = up (up S2 147 i s) 148 i n a := fun a ha => w_fX12_numbers_L64 ha _ _ _ _ l1
        have fz : ∀ a, a < 147 → S3 a = S2 a := fun a ha => by rw [f3 a (by omega), up_row (by omega), up_row (by omega)]
        have r147 : ∀ j, S3 147 j = if j = i then s else S 147 j := fun j => by rw [f3 147 (by decide), up_row (by decide), up_at, f1 147 (by omega) (by omega)]
        have r148 : ∀ j, S3 148 j = if j = i then n else S 148 j := fun j => by rw [f3 148 (by decide), up_at, up_row (by decide), f1 148 (by omega) (by omega)]
        have r149 : ∀ q, (q < 40 * i ∨ 40 * i + 40 ≤ q) → S3 149 q = S 149 q := fun q hq => by rw [l3 q (by omega), up_row (by decide), up_row (by decide), f1 149 (by omega) (by omega)]
        refine ⟨0, S2, S3, q1, ?_, ?_⟩
        · unfold fX12_numbers
          rw [lt_ok, up_same (by rw [f1 130 (by omega) (by omega)]; exact i0), within_ok, bnd_s, if_pos (decide_eq_true a), within_ok, bnd_s, if_pos (decide_eq_true b), within_ok, bnd_s, if_pos (decide_eq_true c), wrA_ok (by omega) (by omega), wrA_ok (by omega) (by omega), Int.toNat_natCast, l1', bnd_s]
        · refine inv_tray (i := i) (by omega) hI (fun a h h1 h2 h3 => (fz a h3).trans (f1 a h1 h2)) (fun j _ h => by rw [r147, if_neg h]) (fun j _ h => by rw [r148, if_neg h]) (fun j k h h' h'' => r149 _ (by omega)) (Or.inr ⟨⟨?_, ?_, ?_, ?_, ?_, ?_⟩, fun k hk => ?_⟩)
          · rw [r147, if_pos rfl]; exact b.1
          · rw [r147, if_pos rfl]; exact b.2
          · rw [r147, if_pos rfl, fz _ (by omega), g1]
          · rw [r148, if_pos rfl, fz _ (by omega), g2]
          · rw [r148, if_pos rfl]; exact c.1
          · rw [r148, if_pos rfl]; exact c.2
          · rw [r148, if_pos rfl] at hk
            rw [fz _ (by omega), g3 k (by omega), l2 k (by omega) (by omega)]
            exact ⟨rfl, cL_0⟩
      · refine ⟨-3, S, S, ?_, ?_, hI⟩
        · unfold fX11_numbers
          rw [trayAt_ok (by omega) (by omega), bnd_s, if_neg (by omega), if_neg (by omega), if_pos (by omega)]
          by_cases c1 : n < 0
          · rw [if_pos c1]
          · rw [if_neg c1, if_neg (by omega)]
        · unfold fX12_numbers
          rw [lt_ok, up_same i0, within_ok, bnd_s, if_pos (decide_eq_true a), within_ok, bnd_s, if_pos (decide_eq_true b), within_ok, bnd_s, if_neg (by rw [decide_eq_true_eq]; exact c)]
    · refine ⟨-2, S, S, ?_, ?_, hI⟩
      · unfold fX11_numbers
        rw [trayAt_ok (by omega) (by omega), bnd_s, if_neg (by omega)]
        by_cases c1 : s < 0
        · rw [if_pos c1]
        · rw [if_neg c1, if_neg (by omega)]
      · unfold fX12_numbers
        rw [lt_ok, up_same i0, within_ok, bnd_s, if_pos (decide_eq_true a), within_ok, bnd_s, if_neg (by rw [decide_eq_true_eq]; exact b)]
  · refine ⟨-2, S, S, ?_, ?_, hI⟩
    · unfold fX11_numbers
      rw [trayAt_no (by omega), bnd_s, if_pos rfl]
    · unfold fX12_numbers
      rw [lt_ok, up_same i0, within_ok, bnd_s, if_neg (by rw [decide_eq_true_eq]; exact a)]
/-! what a tray holds -/
theorem isMissing_ok {S : SS} {i : Nat} (h : tray S i) : fX9_isMissing (104 + 2 * i) S = some (decide (S 147 i = -1)) := by
  unfold fX9_isMissing
  obtain ⟨h1, h2⟩ | ⟨⟨h1, h2, h3, h4, h5, h6⟩, _⟩ := h
  · rw [if_pos h2, decide_eq_true h1]
  · rw [if_neg (by omega), decide_eq_false (by omega)]
theorem noTray_ok {S : SS} {t : Int} : fX12_noTray t S = some (if 0 ≤ t ∧ t ≤ 3 then (if S 147 t.toNat = -1 then -6 else 0) else -2) := by
  unfold fX12_noTray
  rw [within_ok, bnd_s]
  by_cases a : 0 ≤ t ∧ t ≤ 3
  · rw [if_pos (decide_eq_true a), if_pos a, rdA_ok a.1 (by omega)]
    split <;> rfl
  · rw [if_neg (by rw [decide_eq_true_eq]; exact a), if_neg a]
theorem hasPlace_ok {S : SS} {r : Nat} {i : Int} (h : S r 2 ≤ 40) : fX9_hasPlace r i S = some (decide (0 ≤ i ∧ i < S r 2)) := by
  unfold fX9_hasPlace
  by_cases c1 : i < 0
  · rw [if_pos c1, decide_eq_false (by omega)]
  rw [if_neg c1]
  by_cases c2 : S r 2 ≤ i
  · rw [if_pos c2, decide_eq_false (by omega)]
  rw [if_neg c2, if_neg (by omega), decide_eq_true (by omega)]
def cutP (v sort : Int) : Int := if sort = 0 then jb (w32 v) else if sort = 1 then js (w32 v) else if sort = 2 then w32 v else v
theorem cutP_c {v sort : Int} (h : cL v) : cL (cutP v sort) := by
  unfold cutP
  split
  · exact cI_L (ii_c _)
  split
  · exact cI_L (ii_c _)
  split
  · exact cI_L (w32_c _)
  · exact h
theorem ccut_ok {S : SS} {r : Nat} {v : Int} : fX9_cut r v S = some (cutP v (S r 1)) := by
  unfold fX9_cut cutP
  split
  · rfl
  split
  · rfl
  split <;> rfl
theorem mcut_ok {v sort : Int} : fX12_cut v sort = some (cutP v sort) := by
  unfold fX12_cut cutP
  split
  · rfl
  split
  · rfl
  split <;> rfl
theorem valueAt_ok {S : SS} {i : Nat} (h : tray S i) (hm : S 147 i ≠ -1) {k : Int} (h0 : 0 ≤ k) (h1 : k < S 148 i) : fX9_valueAt (104 + 2 * i) k S = some (S 149 (40 * i + k.toNat)) := by
  obtain ⟨x, _⟩ | ⟨⟨_, _, _, t4, t5, t6⟩, t7⟩ := h
  · exact absurd x hm
  unfold fX9_valueAt
  rw [hasPlace_ok (by omega), bnd_s, if_pos (decide_eq_true (by omega)), rdA_ok h0 (by omega)]
  have := (t7 k.toNat (by omega)).1
  rw [show 104 + 2 * i + 1 = 105 + 2 * i by omega, this]
theorem k_write : K_write Inv := by
  intro t i c d ct ci _ _ S hI
  have hv : cL (kor (kshl c 32) (kand d 4294967295)) := ll_c _
  generalize kor (kshl c 32) (kand d 4294967295) = v at hv
  obtain ⟨i0, hC, hS, hH, hT, hTr, hIm⟩ := id hI
  rw [trays_all] at hTr
  unfold fX11_write fX12_write
  by_cases a : 0 ≤ t ∧ t ≤ 3
  · obtain ⟨n, rfl⟩ : ∃ n : Nat, t = n := ⟨t.toNat, by omega⟩
    have ht := hTr n (by omega)
    rw [trayAt_ok (by omega) (by omega), bnd_s, Int.toNat_natCast, if_neg (by omega)]
    unfold gsh
    rw [if_pos (refs101 n (by omega)).2, isMissing_ok ht, bnd_s]
    by_cases b : S 147 n = -1
    · rw [if_pos (decide_eq_true b)]
      refine ⟨_, S, S, rfl, ?_, hI⟩
      rw [lt_ok, up_same i0, noTray_ok, bnd_s, Int.toNat_natCast, if_pos a, if_pos b]
      rfl
    · obtain ⟨x, _⟩ | ⟨⟨t1, t2, t3, t4, t5, t6⟩, t7⟩ := id ht
      · exact absurd x b
      rw [if_neg (by rw [decide_eq_true_eq]; exact b), hasPlace_ok (by omega), bnd_s, t4]
      by_cases e : 0 ≤ i ∧ i < S 148 n
      · have q1 : fX9_set (104 + 2 * n) i v S = some (up S (105 + 2 * n) i.toNat (cutP v (S 147 n))) := by
          unfold fX9_set
          rw [hasPlace_ok (by omega), bnd_s, if_pos (decide_eq_true (by omega)), ccut_ok, bnd_s, wrA_ok e.1 (by omega), t3, show 104 + 2 * n + 1 = 105 + 2 * n by omega]
        have q2 : fX9_valueAt (104 + 2 * n) i (up S (105 + 2 * n) i.toNat (cutP v (S 147 n))) = some (cutP v (S 147 n)) := by
          unfold fX9_valueAt
          have r2 : up S (105 + 2 * n) i.toNat (cutP v (S 147 n)) (104 + 2 * n) = S (104 + 2 * n) := up_row (by omega)
          rw [hasPlace_ok (by rw [r2]; omega), r2, bnd_s, if_pos (decide_eq_true (by omega)), rdA_ok e.1 (by omega), show 104 + 2 * n + 1 = 105 + 2 * n by omega, up_self]
        rw [if_pos (decide_eq_true e), q1, bnd_s, q2, bnd_s]
        have f1 : ∀ a, a ≠ 105 + 2 * n → up S (105 + 2 * n) i.toNat (cutP v (S 147 n)) a = S a := fun a ha => up_row ha
        have g1 : ∀ j, up S (105 + 2 * n) i.toNat (cutP v (S 147 n)) (105 + 2 * n) j = if j = i.toNat then cutP v (S 147 n) else S (105 + 2 * n) j := fun j => up_at
        generalize up S (105 + 2 * n) i.toNat (cutP v (S 147 n)) = S2 at f1 g1
        have ex : (40 * (n : Int) + i).toNat = 40 * n + i.toNat := by omega
        refine ⟨_, S2, up S2 149 (40 * n + i.toNat) (cutP v (S 147 n)), rfl, ?_, ?_⟩
        · rw [lt_ok, up_same (by rw [f1 130 (by omega)]; exact i0), noTray_ok, bnd_s, Int.toNat_natCast, if_pos a, f1 147 (by omega), if_neg b, if_pos rfl, rdA_ok (by omega) (by omega), Int.toNat_natCast, f1 148 (by omega), w32_eq (x := S 148 n - 1) (by omega) (by omega), within_ok, bnd_s, if_pos (decide_eq_true (by omega)), rdA_ok (by omega) (by omega), Int.toNat_natCast, f1 147 (by omega), mcut_ok, bnd_s, w32_eq (x := 40 * (n : Int)) (by omega) (by omega), w32_eq (x := 40 * (n : Int) + i) (by omega) (by omega), wrA_ok (by omega) (by omega), rdA_ok (by omega) (by omega), ex, up_self]
        · have fz : ∀ a, a ≠ 149 → up S2 149 (40 * n + i.toNat) (cutP v (S 147 n)) a = S2 a := fun a ha => up_row ha
          refine inv_tray (i := n) (by omega) hI (fun a h h1 h2 h3 => (fz a (by omega)).trans (f1 a h2)) (fun j _ h => by rw [fz 147 (by omega), f1 147 (by omega)]) (fun j _ h => by rw [fz 148 (by omega), f1 148 (by omega)]) (fun j k h h' h'' => by rw [up_at, if_neg (by omega), f1 149 (by omega)]) (Or.inr ⟨⟨?_, ?_, ?_, ?_, ?_, ?_⟩, fun k hk => ?_⟩)
          · rw [fz 147 (by omega), f1 147 (by omega)]; exact t1
          · rw [fz 147 (by omega), f1 147 (by omega)]; exact t2
          · rw [fz 147 (by omega), f1 147 (by omega), fz _ (by omega), f1 _ (by omega)]; exact t3
          · rw [fz 148 (by omega), f1 148 (by omega), fz _ (by omega), f1 _ (by omega)]; exact t4
          · rw [fz 148 (by omega), f1 148 (by omega)]; exact t5
          · rw [fz 148 (by omega), f1 148 (by omega)]; exact t6
          · rw [fz 148 (by omega), f1 148 (by omega)] at hk
            rw [fz _ (by omega), g1, up_at, f1 149 (by omega)]
            by_cases cc : k = i.toNat
            · rw [if_pos cc, if_pos (by omega)]; exact ⟨rfl, cutP_c hv⟩
            · rw [if_neg cc, if_neg (by omega)]; exact t7 k hk
      · rw [if_neg (by rw [decide_eq_true_eq]; exact e)]
        refine ⟨_, S, S, rfl, ?_, hI⟩
        rw [lt_ok, up_same i0, noTray_ok, bnd_s, Int.toNat_natCast, if_pos a, if_neg b, if_pos rfl, rdA_ok (by omega) (by omega), Int.toNat_natCast, w32_eq (x := S 148 n - 1) (by omega) (by omega), within_ok, bnd_s, if_neg (by rw [decide_eq_true_eq]; omega)]
  · rw [trayAt_no (by omega), bnd_s, if_pos rfl]
    refine ⟨_, S, S, rfl, ?_, hI⟩
    rw [lt_ok, up_same i0, noTray_ok, bnd_s, if_neg a]
    rfl
