/-! judge, perform -/
def runP (R xs : Nat → Int) : Nat → Nat → (Nat → Int) → Int × Int × (Nat → Int)
  | 0, k, v => ((k : Int), 0, v)
  | m + 1, k, v => if (didP R v (xs k)).1 = 0 then runP R xs m (k + 1) (didP R v (xs k)).2 else ((k : Int), (didP R v (xs k)).1, (didP R v (xs k)).2)
theorem run_suc {R xs v : Nat → Int} {m k : Nat} : runP R xs (m + 1) k v = if (didP R v (xs k)).1 = 0 then runP R xs m (k + 1) (didP R v (xs k)).2 else ((k : Int), (didP R v (xs k)).1, (didP R v (xs k)).2) := rfl
theorem run_all {R xs : Nat → Int} : ∀ (m k : Nat) (v : Nat → Int), (runP R xs m k v).2.1 = 0 → (runP R xs m k v).1 = ((k + m : Nat) : Int) := by
  intro m
  induction m with
  | zero => intro k v _; rfl
  | succ m ih =>
    intro k v h
    rw [run_suc] at h ⊢
    by_cases c : (didP R v (xs k)).1 = 0
    · rw [if_pos c] at h ⊢
      rw [ih _ _ h]; omega
    · rw [if_neg c] at h; exact absurd h c
theorem run_ge {R xs : Nat → Int} : ∀ (m k : Nat) (v : Nat → Int), (k : Int) ≤ (runP R xs m k v).1 ∧ (runP R xs m k v).1 ≤ ((k + m : Nat) : Int) := by
  intro m
  induction m with
  | zero => intro k v; exact ⟨Int.le_refl _, Int.le_refl _⟩
  | succ m ih =>
    intro k v
    rw [run_suc]
    by_cases c : (didP R v (xs k)).1 = 0
    · rw [if_pos c]; have := ih (k + 1) (didP R v (xs k)).2; omega
    · rw [if_neg c]; simp only; omega
theorem run_0 {R xs v : Nat → Int} {m : Nat} (h : (runP R xs m 0 v).1 ≤ 0) : (runP R xs m 0 v).2.2 = v := by
  cases m with
  | zero => rfl
  | succ m =>
    rw [run_suc] at h ⊢
    by_cases c : (didP R v (xs 0)).1 = 0
    · rw [if_pos c] at h
      have := (@run_ge R xs m (0 + 1) (didP R v (xs 0)).2).1
      omega
    · rw [if_neg c]; exact did_same c
theorem run_bd {R xs : Nat → Int} (hB : townB R) : ∀ (m k : Nat) (v : Nat → Int), bdV v (R 1) → bdV (runP R xs m k v).2.2 (R 1) := by
  intro m
  induction m with
  | zero => intro k v h; exact h
  | succ m ih =>
    intro k v h
    rw [run_suc]
    by_cases c : (didP R v (xs k)).1 = 0
    · rw [if_pos c]; exact ih _ _ (did_bd hB h)
    · rw [if_neg c]; exact did_bd hB h
theorem all_loop {p i N : Nat} {R xs : Nat → Int} (hp : 7 ≤ p ∧ p + 3 < 19) (hi : i < 4) (hN : N ≤ 40) : ∀ (m n k : Nat) (S : SS) (v : Nat → Int), Core S → S 131 = R → tray S i → S 147 i ≠ -1 → S 148 i = N → (∀ j, j < N → S 149 (40 * i + j) = xs j) → stV S p v → bdV v (R 1) → S 34 2 = 0 → m + k = N → m < n →
    ∃ S', fX0_allOf_L7 (104 + 2 * i) p n k S = some (if (runP R xs m k v).2.1 = 0 then (1, 0, S') else (0, (runP R xs m k v).1, S')) ∧ S' 34 2 = (runP R xs m k v).2.1 ∧ stV S' p (runP R xs m k v).2.2 ∧ lanes S' := by
  intro m
  induction m with
  | zero =>
    intro n k S v hC hR ht hm hs hx hv hb h34 hk hn
    obtain ⟨n, rfl⟩ := suc_of hn
    obtain ⟨x, _⟩ | ⟨⟨_, _, _, t4, t5, t6⟩, t7⟩ := id ht
    · exact absurd x hm
    unfold fX0_allOf_L7
    rw [t4, hs, if_pos (by omega)]
    exact ⟨S, rfl, h34, hv, hC.2.2⟩
  | succ m ih =>
    intro n k S v hC hR ht hm hs hx hv hb h34 hk hn
    obtain ⟨n, rfl⟩ := suc_of hn
    obtain ⟨x, _⟩ | ⟨⟨_, _, _, t4, t5, t6⟩, t7⟩ := id ht
    · exact absurd x hm
    obtain ⟨S1, e1, e2, e3⟩ := told_ok (p := p) (x := xs k) (by omega) hC hv (by rw [hR]; exact hb)
    rw [hR] at e1 e3
    have f1 : ∀ a, (a < 31 ∨ 33 < a) ∧ a ≠ p ∧ a ≠ p + 1 ∧ a ≠ p + 2 ∧ a ≠ p + 3 → S1 a = S a := fun a ha => w_fX0_told e1 ha
    have fz : ∀ a, (a < 7 ∨ 18 < a) ∧ (a < 31 ∨ 34 < a) → up S1 34 2 (didP R v (xs k)).1 a = S a := fun a ha => by rw [up_row (by omega)]; exact f1 a (by omega)
    have fy : ∀ a, a ≠ 34 → up S1 34 2 (didP R v (xs k)).1 a = S1 a := fun a ha => up_row ha
    have g34 : up S1 34 2 (didP R v (xs k)).1 34 2 = (didP R v (xs k)).1 := up_self
    unfold fX0_allOf_L7
    rw [t4, hs, if_neg (by omega), valueAt_ok ht hm (by omega) (by omega), bnd_s, Int.toNat_natCast, hx k (by omega), e1, bnd_s, lt_ok, lt_ok]
    simp only
    rw [g34]
    rw [run_suc]
    generalize up S1 34 2 (didP R v (xs k)).1 = S2 at fz fy g34
    have v2 : stV S2 p (didP R v (xs k)).2 := stV_fr (fy _ (by omega)) (fy _ (by omega)) (fy _ (by omega)) (fy _ (by omega)) e3
    have l2 : lanes S2 := lanes_fr (fy _ (by omega)) (fy _ (by omega)) (fy _ (by omega)) e2
    by_cases c : (didP R v (xs k)).1 = 0
    · rw [if_pos c, if_pos c, w32_k (by omega)]
      have C2 : Core S2 := by
        have y : ∀ a, a < 7 → S2 a = S a := fun a ha => fz a (by omega)
        refine ⟨?_, ?_, l2⟩
        · rw [fz 131 (by omega)]; exact townR_fr (y _ (by omega)) (y _ (by omega)) (y _ (by omega)) (y _ (by omega)) (y _ (by omega)) hC.1
        · rw [fz 131 (by omega)]; exact hC.2.1
      exact ih n (k + 1) S2 _ C2 (by rw [fz 131 (by omega)]; exact hR) (tray_fr (fz _ (by omega)) (fz _ (by omega)) (fz _ (by omega)) (fz _ (by omega)) (fz _ (by omega)) ht) (by rw [fz 147 (by omega)]; exact hm) (by rw [fz 148 (by omega)]; exact hs) (fun j hj => by rw [fz 149 (by omega)]; exact hx j hj) v2 (did_bd (by rw [← hR]; exact hC.2.1) hb) (g34.trans c) (by omega) (by omega)
    · rw [if_neg c, if_neg c]
      exact ⟨S2, by simp only; rw [if_neg c], g34, v2, l2⟩
theorem allOf_ok {p i N : Nat} {S : SS} {v : Nat → Int} (hp : 7 ≤ p ∧ p + 3 < 19) (hi : i < 4) (hN : N ≤ 40) (hC : Core S) (ht : tray S i) (hm : S 147 i ≠ -1) (hs : S 148 i = N) (hv : stV S p v) (hb : bdV v (S 131 1)) :
    ∃ S', fX0_allOf (104 + 2 * i) p S = some ((runP (S 131) (fun j => S 149 (40 * i + j)) N 0 v).1, S') ∧ S' 34 2 = (runP (S 131) (fun j => S 149 (40 * i + j)) N 0 v).2.1 ∧ stV S' p (runP (S 131) (fun j => S 149 (40 * i + j)) N 0 v).2.2 ∧ lanes S' := by
  have fz : ∀ a, a ≠ 34 → up S 34 2 0 a = S a := fun a ha => up_row ha
  have C2 : Core (up S 34 2 0) := core_fr (fun a ha => fz a (by omega)) (lanes_fr (fz _ (by omega)) (fz _ (by omega)) (fz _ (by omega)) hC.2.2) hC
  obtain ⟨S', e1, e2, e3, e4⟩ := all_loop (xs := fun j => S 149 (40 * i + j)) (R := S 131) hp hi hN N FU 0 (up S 34 2 0) v C2 (fz 131 (by omega)) (tray_fr (fz _ (by omega)) (fz _ (by omega)) (fz _ (by omega)) (fz _ (by omega)) (fz _ (by omega)) ht) (by rw [fz 147 (by omega)]; exact hm) (by rw [fz 148 (by omega)]; exact hs) (fun j hj => by rw [fz 149 (by omega)]) (stV_fr (fz _ (by omega)) (fz _ (by omega)) (fz _ (by omega)) (fz _ (by omega)) hv) hb up_self (by omega) (by unfold FU; omega)
  have e1' : fX0_allOf_L7 (104 + 2 * i) p FU 0 (up S 34 2 0) = _ := e1
  refine ⟨S', ?_, e2, e3, e4⟩
  unfold fX0_allOf
  rw [lt_ok, e1', bnd_s]
  have ra := @run_all (S 131) (fun j => S 149 (40 * i + j)) N 0 v
  by_cases c : (runP (S 131) (fun j => S 149 (40 * i + j)) N 0 v).2.1 = 0
  · have fS : S' (104 + 2 * i) = S (104 + 2 * i) := by
      rw [if_pos c] at e1
      exact (w_fX0_allOf_L7 (a := 104 + 2 * i) (by omega) _ _ _ _ e1).trans (fz _ (by omega))
    obtain ⟨x, _⟩ | ⟨⟨_, _, _, t4, t5, t6⟩, t7⟩ := id ht
    · exact absurd x hm
    rw [if_pos c]
    simp only
    rw [if_neg (by decide), lt_ok, fS, t4, hs, if_neg (by omega), ra c]
    simp
  · rw [if_neg c]
    simp only
    rw [if_pos trivial]
theorem tells_loop {i N : Nat} {R xs : Nat → Int} (hi : i < 4) (hN : N ≤ 40) (hB : townB R) : ∀ (m n k : Nat) (S : SS) (v : Nat → Int), S 131 = rowV R v → S 148 i = N → (∀ j, j < N → S 149 (40 * i + j) = xs j ∧ cL (xs j)) → bdV v (R 1) → S 130 19 = 0 → m + k = N → m < n →
    ∃ S', fX12_tells_L7 (i : Int) n k S = some (if (runP R xs m k v).2.1 = 0 then (1, 0, S') else (0, (runP R xs m k v).1, S')) ∧ S' 130 19 = (runP R xs m k v).2.1 ∧ S' 131 = rowV R (runP R xs m k v).2.2 ∧ ∀ j, j ≠ 19 → S' 130 j = S 130 j := by
  intro m
  induction m with
  | zero =>
    intro n k S v hr hs hx hb h19 hk hn
    obtain ⟨n, rfl⟩ := suc_of hn
    unfold fX12_tells_L7
    rw [rdA_ok (by omega) (by omega), Int.toNat_natCast, hs, if_pos (by omega)]
    exact ⟨S, rfl, h19, hr, fun j _ => rfl⟩
  | succ m ih =>
    intro n k S v hr hs hx hb h19 hk hn
    obtain ⟨n, rfl⟩ := suc_of hn
    have ex : (40 * (i : Int) + (k : Int)).toNat = 40 * i + k := by omega
    obtain ⟨S1, e1⟩ := whyNot_ok (S := S) (x := xs k) hr hB hb
    have f1 : ∀ a, (a < 135 ∨ 136 < a) → S1 a = S a := fun a ha => w_fX12_whyNot e1 ha
    have fz : ∀ a, a ≠ 130 → (a < 135 ∨ 136 < a) → up S1 130 19 (didP R v (xs k)).1 a = S a := fun a h h' => (up_row h).trans (f1 a h')
    have g : ∀ j, up S1 130 19 (didP R v (xs k)).1 130 j = if j = 19 then (didP R v (xs k)).1 else S 130 j := fun j => by rw [up_at, f1 130 (by omega)]
    unfold fX12_tells_L7
    rw [rdA_ok (by omega) (by omega), Int.toNat_natCast, hs, if_neg (by omega), w32_eq (x := 40 * (i : Int)) (by omega) (by omega), w32_eq (x := 40 * (i : Int) + (k : Int)) (by omega) (by omega), rdA_ok (by omega) (by omega), ex, (hx k (by omega)).1, e1, bnd_s, lt_ok]
    simp only
    generalize up S1 130 19 (didP R v (xs k)).1 = S2 at fz g
    rw [g 19, if_pos rfl, run_suc]
    by_cases c : (didP R v (xs k)).1 = 0
    · have hx32 : w32 (xs k) = xs k := by
        have : 0 ≤ xs k ∧ xs k ≤ 3999 := by
          unfold didP at c
          by_cases cc : xs k < 0 ∨ 3999 < xs k
          · rw [if_pos cc] at c; simp at c
          · omega
        rw [w32_eq (by omega) (by omega)]
      obtain ⟨S3, q1, q2⟩ := does_ok (S := S2) (x := xs k) ((fz 131 (by omega) (by omega)).trans hr) hB hb c
      have f3 : ∀ a, a ≠ 131 ∧ (a < 135 ∨ 136 < a) → S3 a = S2 a := fun a ha => w_fX12_does q1 ha
      rw [if_pos c, if_pos c, rdA_ok (by omega) (by omega), ex, fz 149 (by omega) (by omega), (hx k (by omega)).1, hx32, q1, bnd_s, lt_ok, w32_k (by omega)]
      obtain ⟨S', r1, r2, r3, r4⟩ := ih n (k + 1) S3 _ q2 (by rw [f3 148 (by omega), fz 148 (by omega) (by omega)]; exact hs) (fun j hj => by rw [f3 149 (by omega), fz 149 (by omega) (by omega)]; exact hx j hj) (did_bd hB hb) (by rw [f3 130 (by omega), g 19, if_pos rfl]; exact c) (by omega) (by omega)
      exact ⟨S', r1, r2, r3, fun j hj => by rw [r4 j hj, f3 130 (by omega), g j, if_neg hj]⟩
    · rw [if_neg c, if_neg c]
      exact ⟨S2, by simp only; rw [if_neg c], by rw [g 19, if_pos rfl], by rw [fz 131 (by omega) (by omega), did_same c]; exact hr, fun j hj => by rw [g j, if_neg hj]⟩
theorem tells_ok {i N : Nat} {R : Nat → Int} {S : SS} {v : Nat → Int} (hi : i < 4) (hN : N ≤ 40) (hB : townB R) (hr : S 131 = rowV R v) (hs : S 148 i = N) (hx : ∀ j, j < N → cL (S 149 (40 * i + j))) (hb : bdV v (R 1)) :
    ∃ S', fX12_tells (i : Int) S = some ((runP R (fun j => S 149 (40 * i + j)) N 0 v).1, S') ∧ S' 130 19 = (runP R (fun j => S 149 (40 * i + j)) N 0 v).2.1 ∧ S' 131 = rowV R (runP R (fun j => S 149 (40 * i + j)) N 0 v).2.2 ∧ ∀ j, j ≠ 19 → S' 130 j = S 130 j := by
  have fz : ∀ a, a ≠ 130 → up S 130 19 0 a = S a := fun a ha => up_row ha
  obtain ⟨S', e1, e2, e3, e4⟩ := tells_loop (xs := fun j => S 149 (40 * i + j)) hi hN hB N FU 0 (up S 130 19 0) v ((fz 131 (by omega)).trans hr) (by rw [fz 148 (by omega)]; exact hs) (fun j hj => by rw [fz 149 (by omega)]; exact ⟨rfl, hx j hj⟩) hb up_self (by omega) (by unfold FU; omega)
  have e1' : fX12_tells_L7 (i : Int) FU 0 (up S 130 19 0) = _ := e1
  refine ⟨S', ?_, e2, e3, fun j hj => by rw [e4 j hj, up_at, if_neg hj]⟩
  unfold fX12_tells
  rw [lt_ok, e1', bnd_s]
  have ra := @run_all R (fun j => S 149 (40 * i + j)) N 0 v
  by_cases c : (runP R (fun j => S 149 (40 * i + j)) N 0 v).2.1 = 0
  · have fS : S' 148 = S 148 := by
      rw [if_pos c] at e1
      exact (w_fX12_tells_L7 (a := 148) (by omega) _ _ _ _ e1).trans (fz _ (by omega))
    rw [if_pos c]
    simp only
    rw [if_neg (by decide), rdA_ok (by omega) (by omega), Int.toNat_natCast, fS, hs, ra c]
    simp
  · rw [if_neg c]
    simp only
    rw [if_pos trivial]
def csum (f : Nat → Int) : Nat → Int
  | 0 => 0
  | n + 1 => jor (csum f n) (jshl 1 (f n))
theorem csum_congr {f g : Nat → Int} {n : Nat} (h : ∀ k, k < n → f k = g k) : csum f n = csum g n := by
  induction n with
  | zero => rfl
  | succ n ih => show jor (csum f n) _ = jor (csum g n) _; rw [h n (Nat.lt_succ_self n), ih (fun k hk => h k (Nat.lt_succ_of_lt hk))]
theorem corners_L {S : SS} {p : Nat} {G : Nat} (hG : G ≤ 3) (h7 : S 2 7 = G) : ∀ (m n k : Nat), m + k = G → m < n → fX11_cornersOfGoers_L4 p S n (csum (S (p + 2)) k) k = some (csum (S (p + 2)) G) := by
  intro m
  induction m with
  | zero =>
    intro n k hk hn
    obtain ⟨n, rfl⟩ := suc_of hn
    have ek : k = G := by omega
    unfold fX11_cornersOfGoers_L4
    rw [h7, if_pos (by omega), ek]
  | succ m ih =>
    intro n k hk hn
    obtain ⟨n, rfl⟩ := suc_of hn
    unfold fX11_cornersOfGoers_L4 fX6_cornerOf
    rw [h7, if_neg (by omega), if_neg (by omega), if_neg (by omega), rdA_ok (by omega) (by omega), bnd_s, Int.toNat_natCast, w32_k (by omega), lt_ok, lt_ok]
    exact ih n (k + 1) (by omega) (by omega)
theorem cornersAll_L {S : SS} {G : Nat} (hG : G ≤ 3) (h7 : S 131 3 = G) : ∀ (m n k : Nat), m + k = G → m < n → fX12_cornersAll_L4 S n (csum (fun k => S 131 (34 + k)) k) k = some (csum (fun k => S 131 (34 + k)) G) := by
  intro m
  induction m with
  | zero =>
    intro n k hk hn
    obtain ⟨n, rfl⟩ := suc_of hn
    have ek : k = G := by omega
    unfold fX12_cornersAll_L4
    rw [rdA_ok (by decide) (by decide), if_pos (by show S 131 3 ≤ k; omega), ek]
  | succ m ih =>
    intro n k hk hn
    obtain ⟨n, rfl⟩ := suc_of hn
    have ex : (34 + (k : Int)).toNat = 34 + k := by omega
    unfold fX12_cornersAll_L4
    rw [rdA_ok (by decide) (by decide), if_neg (by show ¬ S 131 3 ≤ k; omega), w32_eq (x := 34 + (k : Int)) (by omega) (by omega), rdA_ok (by omega) (by omega), ex, w32_k (by omega), lt_ok, lt_ok]
    exact ih n (k + 1) (by omega) (by omega)
theorem corners_V {S : SS} {p : Nat} {v : Nat → Int} {G : Nat} (hG : G ≤ 3) (h7 : S 2 7 = G) (hv : stV S p v) : fX11_cornersOfGoers p S = some (csum v G) := by
  have e : fX11_cornersOfGoers_L4 p S FU 0 0 = some (csum (S (p + 2)) G) := @corners_L S p G hG h7 G FU 0 (by omega) (by unfold FU; omega)
  unfold fX11_cornersOfGoers
  rw [e, bnd_s]
  exact congrArg some (csum_congr (fun k hk => hv.1 k (by omega)))
theorem cornersAll_V {S : SS} {R v : Nat → Int} {G : Nat} (hG : G ≤ 3) (h3 : R 3 = G) (hr : S 131 = rowV R v) : fX12_cornersAll S = some (csum v G) := by
  have h3' : S 131 3 = G := by rw [hr, rowV_t 3 (by omega)]; exact h3
  have e : fX12_cornersAll_L4 S FU 0 0 = some (csum (fun k => S 131 (34 + k)) G) := @cornersAll_L S G hG h3' G FU 0 (by omega) (by unfold FU; omega)
  unfold fX12_cornersAll
  rw [e, bnd_s]
  exact congrArg some (csum_congr (fun k hk => by rw [hr]; exact rowV_at (by omega)))
theorem years_V {S : SS} {p : Nat} {v : Nat → Int} {G : Nat} {C : Int} (hG : G ≤ 3) (h7 : S 2 7 = G) (hv : stV S p v) (hb : bdV v C) : fX11_yearsTogether p S = some (ysum (fun k => v (3 + k)) G) := by
  rw [yearsTogether_ok (by omega) (by omega) (fun k hk => by rw [hv.2.1 k hk]; exact hb.2.1 k hk), h7, Int.toNat_natCast]
  exact congrArg some (ysum_congr (fun k hk => hv.2.1 k (by omega)))
theorem yearsAll_V {S : SS} {R v : Nat → Int} {G : Nat} {C : Int} (hG : G ≤ 3) (h3 : R 3 = G) (hr : S 131 = rowV R v) (hb : bdV v C) : fX12_yearsAll S = some (ysum (fun k => v (3 + k)) G) := by
  have h3' : S 131 3 = G := by rw [hr, rowV_t 3 (by omega)]; exact h3
  have e : ∀ k, k < 3 → S 131 (37 + k) = v (3 + k) := fun k hk => by rw [hr, show 37 + k = 34 + (3 + k) by omega]; exact rowV_at (by omega)
  rw [yearsAll_ok (by omega) (by omega) (fun k hk => by rw [e k hk]; exact hb.2.1 k hk)]
  unfold yearsP
  rw [h3', Int.toNat_natCast]
  exact congrArg some (ysum_congr (fun k hk => e k (by omega)))
theorem k_judge : K_judge Inv := by
  intro t w ct cw S hI
  obtain ⟨i0, hC, hS, hH, hT, hTr, hIm⟩ := id hI
  obtain ⟨hR, hB, hL⟩ := id hC
  have h3 := hB.2.2.1
  have hTa := trays_all.mp hTr
  unfold fX11_judge fX12_judge
  by_cases cw : 0 ≤ w ∧ w ≤ 3
  · by_cases a : 0 ≤ t ∧ t ≤ 3
    · obtain ⟨i, rfl⟩ : ∃ i : Nat, t = i := ⟨t.toNat, by omega⟩
      have ht := hTa i (by omega)
      rw [trayAt_ok (by omega) (by omega), bnd_s, Int.toNat_natCast, if_neg (by omega), if_neg (by omega), if_pos cw.2]
      unfold gsh
      rw [if_pos (refs101 i (by omega)).2, isMissing_ok ht, bnd_s]
      by_cases b : S 147 i = -1
      · rw [if_pos (decide_eq_true b)]
        refine ⟨_, S, S, rfl, ?_, hI⟩
        rw [lt_ok, up_same i0, within_ok, bnd_s, if_pos (decide_eq_true cw), noTray_ok, bnd_s, Int.toNat_natCast, if_pos a, if_pos b]
        rfl
      · rw [if_neg (by rw [decide_eq_true_eq]; exact b)]
        obtain ⟨x, _⟩ | ⟨⟨_, _, _, t4, t5, t6⟩, t7⟩ := id ht
        · exact absurd x b
        obtain ⟨N, hN⟩ : ∃ N : Nat, S 148 i = N := ⟨(S 148 i).toNat, by omega⟩
        obtain ⟨G, hG⟩ : ∃ G : Nat, S 131 3 = G := ⟨(S 131 3).toNat, by omega⟩
        obtain ⟨S1, c1, c2⟩ := @copySt S 15 7 (by omega)
        have f1 : ∀ a, (a < 15 ∨ 18 < a) → S1 a = S a := fun a ha => w_fX6_copyOf c1 (by omega)
        have e131 : S1 131 = S 131 := f1 131 (by omega)
        have C1 : Core S1 := core_fr (fun a ha => f1 a (by omega)) (lanes_fr (f1 30 (by omega)) (f1 33 (by omega)) e131 hL) hC
        have v1 := stV_of (c2 _ _ hS.1)
        have bv := bdV_of hS.2
        obtain ⟨S2, d1, d2, d3, d4⟩ := allOf_ok (S := S1) (p := 15) (i := i) (N := N) (by omega) (by omega) (by omega) C1 (tray_fr (f1 _ (by omega)) (f1 _ (by omega)) (f1 _ (by omega)) (f1 _ (by omega)) (f1 _ (by omega)) ht) (by rw [f1 147 (by omega)]; exact b) (by rw [f1 148 (by omega)]; exact hN) v1 (by rw [e131]; exact bv)
        rw [e131, f1 149 (by omega)] at d1 d2 d3
        have f2 : ∀ a, (a < 31 ∨ 34 < a) ∧ a ≠ 15 ∧ a ≠ 15 + 1 ∧ a ≠ 15 + 2 ∧ a ≠ 15 + 3 → S2 a = S1 a := fun a ha => w_fX0_allOf d1 ha
        have fz : ∀ a, (a < 15 ∨ 18 < a) ∧ (a < 31 ∨ 34 < a) → S2 a = S a := fun a ha => (f2 a (by omega)).trans (f1 a (by omega))
        rw [c1, bnd_s, d1, bnd_s]
        simp only
        have hb' := @run_bd (S 131) (fun j => S 149 (40 * i + j)) hB N 0 _ bv
        have e7 : S2 2 7 = G := by rw [fz 2 (by omega), hR.1.2.2.1, hG]
        rw [d2, years_V (by omega) e7 d3 hb', corners_V (by omega) e7 d3, bnd_s, bnd_s]
        obtain ⟨S3, k1, k2, k3⟩ := @keeps_ok S2
        have k131 : S3 131 = rowV (S 131) (sft (S 131) 34) := by rw [rowV_self, k3 131 (by decide), fz 131 (by omega)]
        obtain ⟨S4, m1, m2, m3, m4⟩ := tells_ok (S := S3) (R := S 131) (i := i) (N := N) (by omega) (by omega) hB k131 (by rw [k3 148 (by decide), fz 148 (by omega)]; exact hN) (fun j hj => by rw [k3 149 (by decide), fz 149 (by omega)]; exact (t7 j (by omega)).2) bv
        rw [k3 149 (by decide), fz 149 (by omega)] at m1 m2 m3
        have f4 : ∀ a, (a < 130 ∨ 131 < a) ∧ (a < 135 ∨ 136 < a) → S4 a = S3 a := fun a ha => w_fX12_tells m1 ha
        obtain ⟨S5, n1, n2, n3⟩ := @isAgain_ok S4
        have r131 : S5 131 = S 131 := by
          funext j
          rw [n2 j]
          by_cases cj : 34 ≤ j ∧ j < 49
          · rw [if_pos cj, f4 137 (by omega), k2 _ (by omega), fz 131 (by omega)]; exact congrArg (S 131) (by omega)
          · rw [if_neg cj, m3]; unfold rowV; rw [if_neg cj]
        have z2 : S2 130 0 = 0 := by rw [fz 130 (by omega)]; exact i0
        have e5 : ∀ j, j ≠ 19 → S5 130 j = S 130 j := fun j hj => by rw [n3 130 (by decide), m4 j hj, k3 130 (by decide), fz 130 (by omega)]
        have e19 : S5 130 19 = (runP (S 131) (fun j => S 149 (40 * i + j)) N 0 (sft (S 131) 34)).2.1 := by rw [n3 130 (by decide), m2]
        have fA : ∀ a, (a < 15 ∨ 18 < a) ∧ (a < 31 ∨ 34 < a) ∧ (a < 130 ∨ 131 < a) ∧ (a < 135 ∨ 137 < a) → S5 a = S a := fun a h => (((n3 a (by omega)).trans (f4 a (by omega))).trans (k3 a (by omega))).trans (fz a (by omega))
        have iv : Inv S5 := by
          refine inv_fr (S := S) (fun a ha => ?_) (by rw [e5 0 (by decide)]; exact i0) (e5 5 (by decide)) (e5 13 (by decide)) (e5 14 (by decide)) ?_ hI
          · by_cases c : a = 131
            · rw [c]; exact r131
            · unfold keepA at ha; exact fA a (by omega)
          · have l33 : S5 33 = S2 33 := ((n3 33 (by omega)).trans (f4 33 (by omega))).trans (k3 33 (by omega))
            have l30 : S5 30 = S2 30 := ((n3 30 (by omega)).trans (f4 30 (by omega))).trans (k3 30 (by omega))
            exact lanes_fr l30 l33 (by rw [r131, fz 131 (by omega)]) d4
        have q2 : ∀ r, (if w = 0 then (if (S5 130 19) = 0 then some ((-1), S5) else some ((runP (S 131) (fun j => S 149 (40 * i + j)) N 0 (sft (S 131) 34)).1, S5)) else (if w = 1 then some (S5 130 19, S5) else (if w = 2 then some (ysum (fun k => (runP (S 131) (fun j => S 149 (40 * i + j)) N 0 (sft (S 131) 34)).2.2 (3 + k)) G, S5) else some (csum (runP (S 131) (fun j => S 149 (40 * i + j)) N 0 (sft (S 131) 34)).2.2 G, S5))) : Option (Int × SS)) = some (r, S5) → (lt (up S2 130 0 0) fun S1 =>
            (fX12_within w 0 3).bind fun q2 => if q2 = true then (fX12_noTray i S1).bind fun q3 => if q3 = 0 then (fX12_keeps S1).bind fun q4 => (fX12_tells i q4).bind fun q5 => (fX12_yearsAll q5.2).bind fun q6 => (fX12_cornersAll q5.2).bind fun q7 => (fX12_isAgain q5.2).bind fun q8 =>
              if w = 0 then (if (q8 130 19) = 0 then some ((-1), q8) else some (q5.1, q8)) else (if w = 1 then some (q8 130 19, q8) else (if w = 2 then some (q6, q8) else some (q7, q8))) else some (q3, S1) else some ((-2), S1)) = some (r, S5) := by
          intro r hr
          rw [lt_ok, up_same z2, within_ok, bnd_s, if_pos (decide_eq_true cw), noTray_ok, bnd_s, Int.toNat_natCast, if_pos a, fz 147 (by omega), if_neg b, if_pos rfl, k1, bnd_s, m1, bnd_s]
          simp only
          rw [yearsAll_V (by omega) hG m3 hb', bnd_s, cornersAll_V (by omega) hG m3, bnd_s, n1, bnd_s]
          exact hr
        generalize runP (S 131) (fun j => S 149 (40 * i + j)) N 0 (sft (S 131) 34) = P at *
        by_cases w0 : w = 0
        · rw [if_pos w0]
          by_cases p0 : P.2.1 = 0
          · rw [if_pos p0]
            exact ⟨_, S2, S5, rfl, q2 _ (by rw [if_pos w0, e19, if_pos p0]), iv⟩
          · rw [if_neg p0]
            exact ⟨_, S2, S5, rfl, q2 _ (by rw [if_pos w0, e19, if_neg p0]), iv⟩
        rw [if_neg w0]
        by_cases w1 : w = 1
        · rw [if_pos w1]
          exact ⟨_, S2, S5, rfl, q2 _ (by rw [if_neg w0, if_pos w1, e19]), iv⟩
        rw [if_neg w1]
        by_cases w2 : w = 2
        · rw [if_pos w2]
          exact ⟨_, S2, S5, rfl, q2 _ (by rw [if_neg w0, if_neg w1, if_pos w2]), iv⟩
        rw [if_neg w2]
        exact ⟨_, S2, S5, rfl, q2 _ (by rw [if_neg w0, if_neg w1, if_neg w2]), iv⟩
    · rw [trayAt_no (by omega), bnd_s, if_pos rfl]
      refine ⟨_, S, S, rfl, ?_, hI⟩
      rw [lt_ok, up_same i0, within_ok, bnd_s, if_pos (decide_eq_true cw), noTray_ok, bnd_s, if_neg a]
      rfl
  · have q1 : ∀ q : Nat, ∀ A : Option (Int × SS), (if q = 0 then some ((-2), S) else if w < 0 then some ((-2), S) else if w ≤ 3 then A else some ((-2), S) : Option (Int × SS)) = some (-2, S) := by
      intro q A
      by_cases c : q = 0
      · rw [if_pos c]
      rw [if_neg c]
      by_cases c : w < 0
      · rw [if_pos c]
      rw [if_neg c, if_neg (by omega)]
    obtain ⟨q, hq⟩ : ∃ q, fX11_trayAt t S = some q := by
      by_cases a : 0 ≤ t ∧ t < 4
      · exact ⟨_, trayAt_ok a.1 a.2⟩
      · exact ⟨_, trayAt_no a⟩
    rw [hq, bnd_s, q1]
    refine ⟨_, S, S, rfl, ?_, hI⟩
    rw [lt_ok, up_same i0, within_ok, bnd_s, if_neg (by rw [decide_eq_true_eq]; exact cw)]
