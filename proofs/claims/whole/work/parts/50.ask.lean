/-! bits gathered by a loop -/
def orb (p : Nat → Bool) : Nat → Int
  | 0 => 0
  | n + 1 => if p n = true then jor (orb p n) (jshl 1 n) else orb p n
theorem orb_c {p : Nat → Bool} : ∀ n, cI (orb p n)
  | 0 => cI_0
  | n + 1 => by
    show cI (if p n = true then jor (orb p n) (jshl 1 n) else orb p n)
    split
    · exact ii_c _
    · exact orb_c n
theorem jor_0 {x : Int} (h : cI x) : jor x 0 = x := by
  unfold jor
  rw [ii_0, Int32.or_zero, ii_to h]
theorem jor_if {p : Nat → Bool} {n : Nat} : jor (orb p n) (if p n = true then jshl 1 n else 0) = orb p (n + 1) := by
  show _ = (if p n = true then jor (orb p n) (jshl 1 n) else orb p n)
  split
  · rfl
  · exact jor_0 (orb_c n)
theorem orb_congr {p q : Nat → Bool} {n : Nat} (h : ∀ k, k < n → p k = q k) : orb p n = orb q n := by
  induction n with
  | zero => rfl
  | succ n ih =>
    show (if p n = true then jor (orb p n) (jshl 1 n) else orb p n) = (if q n = true then jor (orb q n) (jshl 1 n) else orb q n)
    rw [h n (Nat.lt_succ_self n), ih (fun k hk => h k (Nat.lt_succ_of_lt hk))]
theorem w32_k {k : Nat} (h : k < 1000000) : w32 ((k : Int) + 1) = ((k + 1 : Nat) : Int) := by rw [w32_eq (by omega) (by omega)]; omega
theorem suc_of {m n : Nat} (h : m < n) : ∃ n', n = n' + 1 := ⟨n - 1, by omega⟩
/-! shut streets, years in all -/
def shutP (R : Nat → Int) : Int := orb (fun s => decide (R (40 + s) = 3)) (R 2).toNat
theorem shutStreets_L {S : SS} {p : Nat} {N : Int} (h0 : 0 ≤ N) (h8 : N ≤ 8) : ∀ (m n k : Nat), m + k = N.toNat → m < n → fX6_shutStreets_L4 p N S n (orb (fun s => decide (S (p + 1) s = 3)) k) k = some (orb (fun s => decide (S (p + 1) s = 3)) N.toNat) := by
  intro m
  induction m with
  | zero =>
    intro n k hk hn
    obtain ⟨n, rfl⟩ := suc_of hn
    have ek : k = N.toNat := by omega
    unfold fX6_shutStreets_L4
    rw [if_pos (by omega), ek]
  | succ m ih =>
    intro n k hk hn
    obtain ⟨n, rfl⟩ := suc_of hn
    unfold fX6_shutStreets_L4
    rw [if_neg (by omega), if_neg (by omega), rdA_ok (by omega) (by omega), Int.toNat_natCast, w32_k (by omega)]
    have e : (if S (p + 1) k = 3 then (lt (jor (orb (fun s => decide (S (p + 1) s = 3)) k) (jshl 1 k)) fun x4 => some x4) else some (orb (fun s => decide (S (p + 1) s = 3)) k) : Option Int) = some (orb (fun s => decide (S (p + 1) s = 3)) (k + 1)) := by
      show _ = some (if decide (S (p + 1) k = 3) = true then jor _ _ else _)
      by_cases c : S (p + 1) k = 3
      · rw [if_pos c, if_pos (decide_eq_true c)]; rfl
      · rw [if_neg c, if_neg (by rw [decide_eq_true_eq]; exact c)]
    rw [e, bnd_s, lt_ok]
    exact ih n (k + 1) (by omega) (by omega)
theorem shutStreets_ok {S : SS} {p : Nat} {N : Int} (h0 : 0 ≤ N) (h8 : N ≤ 8) : fX6_shutStreets p N S = some (orb (fun s => decide (S (p + 1) s = 3)) N.toNat) := by
  unfold fX6_shutStreets
  have := @shutStreets_L S p N h0 h8 N.toNat FU 0 (by omega) (by unfold FU; omega)
  have e : fX6_shutStreets_L4 p N S FU 0 0 = _ := this
  rw [e, bnd_s]
theorem shutNow_L {S : SS} (h0 : 0 ≤ S 131 2) (h8 : S 131 2 ≤ 8) : ∀ (m n k : Nat), m + k = (S 131 2).toNat → m < n → fX12_shutNow_L4 S n (orb (fun s => decide (S 131 (40 + s) = 3)) k) k = some (shutP (S 131)) := by
  intro m
  induction m with
  | zero =>
    intro n k hk hn
    obtain ⟨n, rfl⟩ := suc_of hn
    have ek : k = (S 131 2).toNat := by omega
    unfold fX12_shutNow_L4
    rw [rdA_ok (by decide) (by decide)]
    show (if S 131 2 ≤ k then _ else _) = _
    rw [if_pos (by omega), ek]
    rfl
  | succ m ih =>
    intro n k hk hn
    obtain ⟨n, rfl⟩ := suc_of hn
    unfold fX12_shutNow_L4
    rw [rdA_ok (by decide) (by decide)]
    show (if S 131 2 ≤ k then _ else _) = _
    have ek : (40 + (k : Int)).toNat = 40 + k := by omega
    rw [if_neg (by omega), w32_eq (x := 40 + (k : Int)) (by omega) (by omega), rdA_ok (by omega) (by omega), ek, w32_k (by omega)]
    have e : (if S 131 (40 + k) = 3 then some (jshl 1 k) else some 0 : Option Int) = some (if decide (S 131 (40 + k) = 3) = true then jshl 1 k else 0) := by
      by_cases c : S 131 (40 + k) = 3
      · rw [if_pos c, if_pos (decide_eq_true c)]
      · rw [if_neg c, if_neg (by rw [decide_eq_true_eq]; exact c)]
    rw [e, bnd_s, lt_ok, lt_ok]
    have j := @jor_if (fun s => decide (S 131 (40 + s) = 3)) k
    rw [j]
    exact ih n (k + 1) (by omega) (by omega)
theorem shutNow_ok {S : SS} (h0 : 0 ≤ S 131 2) (h8 : S 131 2 ≤ 8) : fX12_shutNow S = some (shutP (S 131)) := by
  unfold fX12_shutNow
  have := @shutNow_L S h0 h8 (S 131 2).toNat FU 0 (by omega) (by unfold FU; omega)
  have e : fX12_shutNow_L4 S FU 0 0 = _ := this
  rw [e, bnd_s]
theorem shut_now {S : SS} (hC : Core S) (hS : Stand S) : fX6_shutStreets 7 (S 2 6) S = some (shutP (S 131)) := by
  have h2 := hC.2.1.2.1
  rw [hC.1.1.2.1, shutStreets_ok h2.1 h2.2]
  unfold shutP
  congr 1
  refine orb_congr (fun k hk => ?_)
  have := (now_s hS (s := (k : Int)) (by omega) (by omega)).1
  have e : (40 + (k : Int)).toNat = 40 + k := by omega
  rw [Int.toNat_natCast, e] at this
  show decide (S 8 k = 3) = _
  rw [this]
def ysum (f : Nat → Int) : Nat → Int
  | 0 => 0
  | n + 1 => ysum f n + f n
theorem ysum_congr {f g : Nat → Int} {n : Nat} (h : ∀ k, k < n → f k = g k) : ysum f n = ysum g n := by
  induction n with
  | zero => rfl
  | succ n ih => show ysum f n + f n = ysum g n + g n; rw [h n (Nat.lt_succ_self n), ih (fun k hk => h k (Nat.lt_succ_of_lt hk))]
theorem ysum_b {f : Nat → Int} : ∀ {n : Nat}, (∀ k, k < n → 0 ≤ f k ∧ f k ≤ 19) → 0 ≤ ysum f n ∧ ysum f n ≤ 19 * n
  | 0, _ => by show (0 : Int) ≤ 0 ∧ (0 : Int) ≤ _; omega
  | n + 1, h => by
    have a := ysum_b (fun k hk => h k (Nat.lt_succ_of_lt hk))
    have b := h n (Nat.lt_succ_self n)
    show 0 ≤ ysum f n + f n ∧ ysum f n + f n ≤ _
    omega
theorem yearsTogether_L {S : SS} {p : Nat} (h0 : 0 ≤ S 2 7) (h3 : S 2 7 ≤ 3) (hy : ∀ k, k < 3 → 0 ≤ S (p + 3) k ∧ S (p + 3) k ≤ 19) : ∀ (m n k : Nat), m + k = (S 2 7).toNat → m < n → fX11_yearsTogether_L4 p S n (ysum (S (p + 3)) k) k = some (ysum (S (p + 3)) (S 2 7).toNat) := by
  intro m
  induction m with
  | zero =>
    intro n k hk hn
    obtain ⟨n, rfl⟩ := suc_of hn
    have ek : k = (S 2 7).toNat := by omega
    unfold fX11_yearsTogether_L4
    rw [if_pos (by omega), ek]
  | succ m ih =>
    intro n k hk hn
    obtain ⟨n, rfl⟩ := suc_of hn
    have b := @ysum_b (S (p + 3)) k (fun i hi => hy i (by omega))
    have c := hy k (by omega)
    unfold fX11_yearsTogether_L4 fX6_yearOf
    rw [if_neg (by omega), if_neg (by omega), if_neg (by omega), rdA_ok (by omega) (by omega), bnd_s, Int.toNat_natCast, w32_k (by omega), lt_ok, lt_ok, w32_eq (by omega) (by omega)]
    exact ih n (k + 1) (by omega) (by omega)
theorem yearsTogether_ok {S : SS} {p : Nat} (h0 : 0 ≤ S 2 7) (h3 : S 2 7 ≤ 3) (hy : ∀ k, k < 3 → 0 ≤ S (p + 3) k ∧ S (p + 3) k ≤ 19) : fX11_yearsTogether p S = some (ysum (S (p + 3)) (S 2 7).toNat) := by
  unfold fX11_yearsTogether
  have := @yearsTogether_L S p h0 h3 hy (S 2 7).toNat FU 0 (by omega) (by unfold FU; omega)
  have e : fX11_yearsTogether_L4 p S FU 0 0 = _ := this
  rw [e, bnd_s]
def yearsP (R : Nat → Int) : Int := ysum (fun k => R (37 + k)) (R 3).toNat
theorem yearsAll_L {S : SS} (h0 : 0 ≤ S 131 3) (h3 : S 131 3 ≤ 3) (hy : ∀ k, k < 3 → 0 ≤ S 131 (37 + k) ∧ S 131 (37 + k) ≤ 19) : ∀ (m n k : Nat), m + k = (S 131 3).toNat → m < n → fX12_yearsAll_L4 S n (ysum (fun k => S 131 (37 + k)) k) k = some (yearsP (S 131)) := by
  intro m
  induction m with
  | zero =>
    intro n k hk hn
    obtain ⟨n, rfl⟩ := suc_of hn
    have ek : k = (S 131 3).toNat := by omega
    unfold fX12_yearsAll_L4
    rw [rdA_ok (by decide) (by decide)]
    show (if S 131 3 ≤ k then _ else _) = _
    rw [if_pos (by omega), ek]
    rfl
  | succ m ih =>
    intro n k hk hn
    obtain ⟨n, rfl⟩ := suc_of hn
    have b := @ysum_b (fun k => S 131 (37 + k)) k (fun i hi => hy i (by omega))
    have c := hy k (by omega)
    unfold fX12_yearsAll_L4
    rw [rdA_ok (by decide) (by decide)]
    show (if S 131 3 ≤ k then _ else _) = _
    have ek : (37 + (k : Int)).toNat = 37 + k := by omega
    rw [if_neg (by omega), w32_eq (x := 37 + (k : Int)) (by omega) (by omega), rdA_ok (by omega) (by omega), ek, w32_k (by omega), lt_ok, lt_ok, w32_eq (by omega) (by omega)]
    exact ih n (k + 1) (by omega) (by omega)
theorem yearsAll_ok {S : SS} (h0 : 0 ≤ S 131 3) (h3 : S 131 3 ≤ 3) (hy : ∀ k, k < 3 → 0 ≤ S 131 (37 + k) ∧ S 131 (37 + k) ≤ 19) : fX12_yearsAll S = some (yearsP (S 131)) := by
  unfold fX12_yearsAll
  have := @yearsAll_L S h0 h3 hy (S 131 3).toNat FU 0 (by omega) (by unfold FU; omega)
  have e : fX12_yearsAll_L4 S FU 0 0 = _ := this
  rw [e, bnd_s]
theorem years_now {S : SS} (hC : Core S) (hS : Stand S) : fX11_yearsTogether 7 S = some (yearsP (S 131)) ∧ fX12_yearsAll S = some (yearsP (S 131)) := by
  have h3 := hC.2.1.2.2.1
  have hy : ∀ k, k < 3 → S 10 k = S 131 (37 + k) ∧ 0 ≤ S 131 (37 + k) ∧ S 131 (37 + k) ≤ 19 := fun k hk => ⟨hS.1.2.1 k hk, hS.2.2.1 k hk⟩
  have e := hC.1.1.2.2.1
  refine ⟨?_, yearsAll_ok h3.1 h3.2 (fun k hk => (hy k hk).2)⟩
  rw [yearsTogether_ok (by rw [e]; exact h3.1) (by rw [e]; exact h3.2) (fun k hk => by show 0 ≤ S 10 k ∧ S 10 k ≤ 19; rw [(hy k hk).1]; exact (hy k hk).2), e]
  unfold yearsP
  congr 1
  exact ysum_congr (fun k hk => (hy k (by omega)).1)
/-! calls that only look -/
theorem k_fault : K_fault Inv := by
  intro a _ S hI
  obtain ⟨h0, _, _, _, hT, _⟩ := id hI
  have e13 : S 19 9 = S 130 13 := hT.2.2.1
  have e14 : S 19 10 = S 130 14 := hT.2.2.2
  unfold fX11_fault fX12_fault
  rw [lt_ok, up_same h0]
  by_cases c : a = 0
  · rw [if_pos c, if_pos c, e13]; exact ⟨_, _, rfl, rfl, hI⟩
  rw [if_neg c, if_neg c]
  by_cases c : a = 1
  · rw [if_pos c, if_pos c, e14]; exact ⟨_, _, rfl, rfl, hI⟩
  rw [if_neg c, if_neg c]
  exact ⟨_, _, rfl, rfl, hI⟩
theorem k_street : K_street Inv := by
  intro s w _ _ S hI
  obtain ⟨h0, ⟨hR, hB, _⟩, hS, _⟩ := id hI
  have h2 := hB.2.1
  unfold fX11_street fX12_street
  rw [lt_ok, up_same h0, hasStreet_ok (by rw [hR.1.2.1]; exact h2.2), hR.1.2.1, isStreet_ok h2.1 h2.2, bnd_s, bnd_s]
  by_cases c : 0 ≤ s ∧ s < S 131 2
  · rw [if_pos (decide_eq_true c), if_pos (decide_eq_true c)]
    obtain ⟨r1, r2, r3⟩ := st_r hR c.1 c.2
    have r1' : S 3 s.toNat = S 131 (10 + s).toNat := r1
    have r2' : S 4 s.toNat = S 131 (18 + s).toNat := r2
    have r3' : S 5 s.toNat = S 131 (26 + s).toNat := r3
    rw [rdA_ok c.1 (by omega), rdA_ok c.1 (by omega), rdA_ok c.1 (by omega), spotSign c.1 (by omega), w32_eq (x := 10 + s) (by omega) (by omega), w32_eq (x := 18 + s) (by omega) (by omega), w32_eq (x := 26 + s) (by omega) (by omega), w32_eq (x := 40 + s) (by omega) (by omega), rdA_ok (by omega) (by omega), rdA_ok (by omega) (by omega), rdA_ok (by omega) (by omega), rdA_ok (by omega) (by omega), r1', r2', r3', bnd_s]
    have r4 : S (7 + 1) s.toNat = S 131 (40 + s).toNat := (now_s hS c.1 (by omega)).1
    rw [r4]
    by_cases c0 : w = 0
    · rw [if_pos c0, if_pos c0]; exact ⟨_, _, rfl, rfl, hI⟩
    rw [if_neg c0, if_neg c0]
    by_cases c0 : w = 1
    · rw [if_pos c0, if_pos c0]; exact ⟨_, _, rfl, rfl, hI⟩
    rw [if_neg c0, if_neg c0]
    by_cases c0 : w = 2
    · rw [if_pos c0, if_pos c0]; exact ⟨_, _, rfl, rfl, hI⟩
    rw [if_neg c0, if_neg c0]
    by_cases c0 : w = 3
    · rw [if_pos c0, if_pos c0]; exact ⟨_, _, rfl, rfl, hI⟩
    rw [if_neg c0, if_neg c0]
    exact ⟨_, _, rfl, rfl, hI⟩
  · rw [if_neg (by rw [decide_eq_true_eq]; exact c), if_neg (by rw [decide_eq_true_eq]; exact c)]
    exact ⟨_, _, rfl, rfl, hI⟩
theorem k_count : K_count Inv := by
  intro w _ S hI
  obtain ⟨h0, hC, hS, hH, hT, _⟩ := id hI
  obtain ⟨hR, hB, _⟩ := id hC
  have h2 := hB.2.1
  obtain ⟨y1, y2⟩ := years_now hC hS
  unfold fX11_count fX12_count
  rw [lt_ok, up_same h0, shut_now hC hS, shutNow_ok h2.1 h2.2, y1, y2, bnd_s, bnd_s, bnd_s, bnd_s, hR.1.1, hR.1.2.1, hR.1.2.2.1, hR.1.2.2.2.1, (now_b hS).1, hH.1.1, hT.1.1, rdA_ok (by decide) (by decide), rdA_ok (by decide) (by decide), rdA_ok (by decide) (by decide), rdA_ok (by decide) (by decide), rdA_ok (by decide) (by decide), rdA_ok (by decide) (by decide)]
  by_cases c0 : w = 0
  · rw [if_pos c0, if_pos c0]; exact ⟨_, _, rfl, rfl, hI⟩
  rw [if_neg c0, if_neg c0]
  by_cases c0 : w = 1
  · rw [if_pos c0, if_pos c0]; exact ⟨_, _, rfl, rfl, hI⟩
  rw [if_neg c0, if_neg c0]
  by_cases c0 : w = 2
  · rw [if_pos c0, if_pos c0]; exact ⟨_, _, rfl, rfl, hI⟩
  rw [if_neg c0, if_neg c0]
  by_cases c0 : w = 3
  · rw [if_pos c0, if_pos c0]; exact ⟨_, _, rfl, rfl, hI⟩
  rw [if_neg c0, if_neg c0]
  by_cases c0 : w = 4
  · rw [if_pos c0, if_pos c0]; exact ⟨_, _, rfl, rfl, hI⟩
  rw [if_neg c0, if_neg c0]
  by_cases c0 : w = 5
  · rw [if_pos c0, if_pos c0]; exact ⟨_, _, rfl, rfl, hI⟩
  rw [if_neg c0, if_neg c0]
  by_cases c0 : w = 6
  · rw [if_pos c0, if_pos c0]; exact ⟨_, _, rfl, rfl, hI⟩
  rw [if_neg c0, if_neg c0]
  by_cases c0 : w = 7
  · rw [if_pos c0, if_pos c0]; exact ⟨_, _, rfl, rfl, hI⟩
  rw [if_neg c0, if_neg c0]
  by_cases c0 : w = 8
  · rw [if_pos c0, if_pos c0]; exact ⟨_, _, rfl, rfl, hI⟩
  rw [if_neg c0, if_neg c0]
  exact ⟨_, _, rfl, rfl, hI⟩
