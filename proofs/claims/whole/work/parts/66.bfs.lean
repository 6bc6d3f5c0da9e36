/-! the class's search, whole -/
theorem gr_none {R v : Nat → Int} {g bol : Int} {a k : Nat} (h : ¬ ((k : Int) < R 2 ∧ sideP R k (a / 20) (v (6 + k)) ≠ -1)) : gr R g (fun s => v (6 + s)) bol a k = -1 := by
  unfold gr
  rw [if_neg]
  intro x
  by_cases c : sideP R k (a / 20) (v (6 + k)) = -1
  · have : aftP R g k a (v (6 + k)) bol = -2 := by unfold aftP; rw [if_pos c]
    have x2 : 0 ≤ aftP R g k a (v (6 + k)) bol := x.2
    omega
  · exact h ⟨x.1, c⟩
theorem in_loop {t p st M i a : Nat} {R v : Nat → Int} {g l4 : Int} (ht : 35 ≤ t ∧ t ≤ 43) (hp : 7 ≤ p ∧ p + 3 < 19) (hM : M ≤ 120) (hM' : M = (20 * R 1).toNat) (ha : a < 120) :
    ∀ (m n k : Nat) (S : SS) (found : Nat) (o L pr : Nat → Nat), m + k = 8 → m < n → Core S → S 131 = R → stV S p v → bdV v (R 1) → (0 ≤ g ∧ g < R 3) → BI (gr R g (fun s => v (6 + s)) (v 14)) st M (8 * i + k) found o L pr → BR S t found o L pr → BK (gr R g (fun s => v (6 + s)) (v 14)) st (8 * i + k) found o L (S t 9) → i < found → o i = a →
    ∃ S', fX10_spread_L89 t g p l4 a (lvP R v ((a / 20 : Nat) : Int)) n k S = some S' ∧ lanes S' ∧ ∃ found' o' L' pr', BI (gr R g (fun s => v (6 + s)) (v 14)) st M (8 * i + 8) found' o' L' pr' ∧ BR S' t found' o' L' pr' ∧ BK (gr R g (fun s => v (6 + s)) (v 14)) st (8 * i + 8) found' o' L' (S' t 9) ∧ i < found' := by
  intro m
  induction m with
  | zero =>
    intro n k S found o L pr hk hn hC hR hv hb hg h1 h2 h3 h4 h5
    obtain ⟨n, rfl⟩ := suc_of hn
    have ek : k = 8 := by omega
    subst ek
    unfold fX10_spread_L89
    rw [if_pos (by omega)]
    exact ⟨S, rfl, hC.2.2, found, o, L, pr, h1, h2, h3, h4⟩
  | succ m ih =>
    intro n k S found o L pr hk hn hC hR hv hb hg h1 h2 h3 h4 h5
    obtain ⟨n, rfl⟩ := suc_of hn
    have hB : townB R := by rw [← hR]; exact hC.2.1
    have hr2 := hB.2.1
    have e1 : (8 * i + k) / 8 = i := by omega
    have e2 : (8 * i + k) % 8 = k := by omega
    have hbit : bit (lvP R v ((a / 20 : Nat) : Int)) k = (decide (k < (R 2).toNat) && decide (sideP R k ((a / 20 : Nat) : Int) (v (6 + k)) ≠ -1)) := by
      unfold lvP; rw [bit_orb _ (by omega)]
    have ed : ((a / 20 : Nat) : Int) = (a : Int) / 20 := by omega
    unfold fX10_spread_L89
    rw [if_neg (by omega), bit_shr (by omega), hbit, w32_k (by omega), ed]
    by_cases c : (k : Int) < R 2 ∧ sideP R k ((a : Int) / 20) (v (6 + k)) ≠ -1
    · obtain ⟨S1, q1, q2⟩ := after_ok (S := S) (g := g) (s := (k : Int)) (spot := (a : Int)) (p := p) (sg := v (6 + k)) (bol := v 14) hC (by rw [hR]; exact hg) (by rw [hR]; omega) (by omega) (by rw [Int.toNat_natCast]; exact hv.2.2.1 k (by omega)) hv.2.2.2 hb.2.2.2
      rw [hR] at q1
      have f1 : ∀ b, (b < 31 ∨ 33 < b) → S1 b = S b := fun b hb => w_fX5_after q1 hb
      have r1 : BR S1 t found o L pr := BR_fr (by rw [f1 t (by omega)]) (f1 _ (by omega)) (f1 _ (by omega)) (f1 _ (by omega)) (f1 _ (by omega)) h2
      have k1 : BK (gr R g (fun s => v (6 + s)) (v 14)) st (8 * i + k) found o L (S1 t 9) := by rw [f1 t (by omega)]; exact h3
      obtain ⟨S2, z1, found', o', L', pr', z2, z3, z4, z5, z6⟩ := come_ok (to := aftP R g k a (v (6 + k)) (v 14)) hM (by rw [hM']; exact gr_lt hB) h1 r1 k1 (by omega) (by
        rw [e1, e2, h5]
        unfold gr
        by_cases c2 : 0 ≤ aftP R g k a (v (6 + k)) (v 14)
        · right; rw [if_pos ⟨c.1, c2⟩]; exact ⟨c2, rfl⟩
        · left; rw [if_neg (fun x => c2 x.2)]; omega)
      rw [e1, e2, h5] at z1
      have f2 : ∀ b, b ≠ t ∧ b ≠ t + 1 ∧ b ≠ t + 2 ∧ b ≠ t + 3 ∧ b ≠ t + 4 → S2 b = S1 b := fun b hb => w_fX10_comeTo z1 hb
      have fz : ∀ b, (b < 31 ∨ 51 < b) → S2 b = S b := fun b hb => (f2 b (by omega)).trans (f1 b (by omega))
      have l2 : lanes S2 := lanes_fr (f2 _ (by omega)) (f2 _ (by omega)) (f2 _ (by omega)) q2
      have C2 : Core S2 := core_fr (fun b hb => fz b (by omega)) l2 hC
      have cond : (if (decide (k < (R 2).toNat) && decide (sideP R k ((a : Int) / 20) (v (6 + k)) ≠ -1)) = true then (1 : Int) else 0) = 1 := by
        rw [if_pos (by simp; exact ⟨by omega, c.2⟩)]
      rw [cond, if_pos rfl, q1, bnd_s]
      simp only
      rw [z1, bnd_s, bnd_s, lt_ok]
      obtain ⟨S', y1, y2, y3⟩ := ih n (k + 1) S2 found' o' L' pr' (by omega) (by omega) C2 ((fz 131 (by omega)).trans hR) (stV_fr (fz _ (by omega)) (fz _ (by omega)) (fz _ (by omega)) (fz _ (by omega)) hv) hb hg z2 z3 z4 (by omega) (by rw [z6 i h4]; exact h5)
      rw [ed] at y1
      exact ⟨S', y1, y2, y3⟩
    · have gn : gr R g (fun s => v (6 + s)) (v 14) a k = -1 := gr_none c
      have cond : (if (decide (k < (R 2).toNat) && decide (sideP R k ((a : Int) / 20) (v (6 + k)) ≠ -1)) = true then (1 : Int) else 0) = 0 := by
        rw [if_neg]
        simp
        intro hk2
        exact Decidable.byContradiction (fun hs => c ⟨by omega, hs⟩)
      rw [cond, if_neg (by decide), bnd_s, lt_ok]
      have b1 : BI (gr R g (fun s => v (6 + s)) (v 14)) st M (8 * i + k + 1) found o L pr := BI_old h1 (by rw [e1]; exact h4) (Or.inl (by rw [e1, e2, h5, gn]; decide))
      have b2 : BK (gr R g (fun s => v (6 + s)) (v 14)) st (8 * i + k + 1) found o L (S t 9) := BK_skip h3 (Or.inl (by rw [e1, e2, h5, gn]; omega))
      obtain ⟨S', y1, y2, y3⟩ := ih n (k + 1) S found o L pr (by omega) (by omega) hC hR hv hb hg b1 h2 b2 h4 h5
      rw [ed] at y1
      exact ⟨S', y1, y2, y3⟩
theorem out_loop {t p st M : Nat} {R v : Nat → Int} {g : Int} (ht : 35 ≤ t ∧ t ≤ 43) (hp : 7 ≤ p ∧ p + 3 < 19) (hM : M ≤ 120) (hM' : M = (20 * R 1).toNat) :
    ∀ (m n i : Nat) (S : SS) (found : Nat) (o L pr : Nat → Nat), m + i = 120 → m < n → Core S → S 131 = R → stV S p v → bdV v (R 1) → (0 ≤ g ∧ g < R 3) → (∀ c, c < 6 → S (t + 5) c = lvP R v c) → i ≤ found → BI (gr R g (fun s => v (6 + s)) (v 14)) st M (8 * i) found o L pr → BR S t found o L pr → BK (gr R g (fun s => v (6 + s)) (v 14)) st (8 * i) found o L (S t 9) →
    ∃ S', fX10_spread_L53 t g p n i S = some S' ∧ lanes S' ∧ ∃ found' o' L' pr', BI (gr R g (fun s => v (6 + s)) (v 14)) st M (8 * found') found' o' L' pr' ∧ BR S' t found' o' L' pr' ∧ BK (gr R g (fun s => v (6 + s)) (v 14)) st (8 * found') found' o' L' (S' t 9) := by
  intro m
  induction m with
  | zero =>
    intro n i S found o L pr hk hn hC hR hv hb hg hl hi h1 h2 h3
    obtain ⟨n, rfl⟩ := suc_of hn
    have hf : found ≤ M := pigeon M found o h1.2.1 h1.2.2.1
    have ei : i = found := by omega
    unfold fX10_spread_L53
    rw [h2.1, if_pos (by omega)]
    subst ei
    exact ⟨S, rfl, hC.2.2, i, o, L, pr, h1, h2, h3⟩
  | succ m ih =>
    intro n i S found o L pr hk hn hC hR hv hb hg hl hi h1 h2 h3
    obtain ⟨n, rfl⟩ := suc_of hn
    unfold fX10_spread_L53
    by_cases c : found ≤ i
    · have ei : i = found := by omega
      rw [h2.1, if_pos (by omega)]
      subst ei
      exact ⟨S, rfl, hC.2.2, i, o, L, pr, h1, h2, h3⟩
    · have oi := h1.2.1 i (by omega)
      rw [h2.1, if_neg (by omega), if_neg (by omega), rdA_ok (by omega) (by omega), Int.toNat_natCast, h2.2.1 i (by omega), strFrom_ok (by omega), hl _ (by omega), bnd_s]
      obtain ⟨S1, q1, q2, found', o', L', pr', q3, q4, q5, q6⟩ := in_loop (l4 := (i : Int)) (a := o i) ht hp hM hM' (by omega) 8 FU 0 S found o L pr (by omega) (by decide) hC hR hv hb hg h1 h2 h3 (by omega) rfl
      have q1' : fX10_spread_L89 t g p i (o i : Nat) (lvP R v ((o i / 20 : Nat) : Int)) FU 0 S = some S1 := q1
      have f1 : ∀ b, (b < 31 ∨ 33 < b) ∧ b ≠ t ∧ b ≠ t + 1 ∧ b ≠ t + 2 ∧ b ≠ t + 3 ∧ b ≠ t + 4 → S1 b = S b := fun b hb => w_fX10_spread_L89 hb _ _ _ _ q1
      rw [q1', bnd_s, lt_ok, w32_k (by omega)]
      exact ih n (i + 1) S1 found' o' L' pr' (by omega) (by omega) (core_fr (fun b hb => f1 b (by omega)) q2 hC) ((f1 131 (by omega)).trans hR) (stV_fr (f1 _ (by omega)) (f1 _ (by omega)) (f1 _ (by omega)) (f1 _ (by omega)) hv) hb hg (fun c hc => by rw [f1 _ (by omega)]; exact hl c hc) (by omega) (by rw [show 8 * (i + 1) = 8 * i + 8 by omega]; exact q3) q4 (by rw [show 8 * (i + 1) = 8 * i + 8 by omega]; exact q5)
theorem spread_ok {t p st : Nat} {S : SS} {v : Nat → Int} {g : Int} (ht : 35 ≤ t ∧ t ≤ 43) (hp : 7 ≤ p ∧ p + 3 < 19) (hC : Core S) (hv : stV S p v) (hb : bdV v (S 131 1)) (hg : 0 ≤ g ∧ g < S 131 3) (hst : st < (20 * S 131 1).toNat) :
    ∃ S', fX10_spread t g st p S = some S' ∧ lanes S' ∧ ∃ found o L pr, BI (gr (S 131) g (fun s => v (6 + s)) (v 14)) st (20 * S 131 1).toNat (8 * found) found o L pr ∧ BR S' t found o L pr ∧ BK (gr (S 131) g (fun s => v (6 + s)) (v 14)) st (8 * found) found o L (S' t 9) := by
  obtain ⟨hR, hB, hL⟩ := id hC
  have h1 := hB.1
  obtain ⟨S1, e1, e2, e3, e4, e5⟩ := begin_ok (t := t) (p := p) ht hp hC hv hb
  obtain ⟨S2, d1, d2, d3⟩ := @fill_53178_120 (t + 2) (-1) S1
  unfold fX10_spread
  rw [e1, bnd_s, d1, bnd_s, lt_ok, lt_ok, spot_y (by omega) (by omega), bnd_s, if_pos rfl, wrA_ok (by omega) (by omega), Int.toNat_natCast, wrA_ok (by decide) (by decide), lt_ok]
  generalize hS9 : up (up (up (up (up S2 t 8 0) t 9 (-1)) (t + 2) st 0) (t + 1) (0 : Int).toNat (st : Int)) t 8 1 = S9
  have f9 : ∀ a, a ≠ t → a ≠ t + 1 → a ≠ t + 2 → a ≠ t + 5 → a ≠ 30 → a ≠ 33 → S9 a = S a := fun a h1 h2 h3 h4 h5 h6 => by
    rw [← hS9, up_row h1, up_row h2, up_row h3, up_row h1, up_row h1, d3 a h3, e5 a h5 h6 h4]
  have g8 : S9 t 8 = 1 := by rw [← hS9, up_self]
  have g9 : S9 t 9 = -1 := by rw [← hS9, up_at, if_neg (by decide), up_row (by omega), up_row (by omega), up_self]
  have go : S9 (t + 1) 0 = (st : Int) := by rw [← hS9, up_row (by omega)]; exact up_self
  have gg : ∀ a, a < 120 → S9 (t + 2) a = if a = st then 0 else -1 := fun a ha => by
    rw [← hS9, up_row (by omega), up_row (by omega), up_at]
    by_cases c : a = st
    · rw [if_pos c, if_pos c]
    · rw [if_neg c, if_neg c, up_row (by omega), up_row (by omega), d2 a ha]
  have g5 : ∀ c, c < 6 → S9 (t + 5) c = lvP (S 131) v c := fun c hc => by
    rw [← hS9, up_row (by omega), up_row (by omega), up_row (by omega), up_row (by omega), up_row (by omega), d3 _ (by omega)]; exact e2 c hc
  have l9 : lanes S9 := by
    have q : ∀ a, a = 30 ∨ a = 33 ∨ a = 131 → S9 a = S1 a := fun a h => by
      rw [← hS9, up_row (by omega), up_row (by omega), up_row (by omega), up_row (by omega), up_row (by omega), d3 a (by omega)]
    exact lanes_fr (q _ (by omega)) (q _ (by omega)) (q _ (by omega)) e3
  clear hS9
  have f9' : ∀ a, a ≤ 18 ∨ a = 131 → S9 a = S a := fun a h => f9 a (by omega) (by omega) (by omega) (by omega) (by omega) (by omega)
  obtain ⟨S', q1, q2, q3⟩ := out_loop (M := (20 * S 131 1).toNat) (st := st) (R := S 131) (v := v) (g := g) ht hp (by omega) rfl 120 FU 0 S9 1 (fun _ => st) (fun _ => 0) (fun _ => 0) (by omega) (by decide) (core_fr (fun a ha => f9' a (by omega)) l9 hC) (f9' 131 (by omega)) (stV_fr (f9' _ (by omega)) (f9' _ (by omega)) (f9' _ (by omega)) (f9' _ (by omega)) hv) hb hg g5 (by omega)
    ⟨⟨by omega, rfl, rfl⟩, fun _ _ => hst, fun p q hp hq _ => by omega, fun p h h' => by omega, fun P hP => by omega⟩
    ⟨g8, fun p hp => by rw [show p = 0 by omega]; exact go, fun p hp => by rw [gg st (by omega), if_pos rfl]; rfl, fun a ha hn => by rw [gg a ha, if_neg (fun e => hn 0 (by omega) e.symm)], fun p h h' => by omega⟩
    (Or.inl ⟨g9, fun P hP => by omega⟩)
  have q1' : fX10_spread_L53 t g p FU 0 S9 = some S' := q1
  rw [q1', bnd_s]
  exact ⟨S', rfl, q2, q3⟩
