/-! streets that were taken -/
def tk (R v : Nat → Int) (g : Int) (xs : Nat → Int) : Nat → Nat → Int → Int
  | 0, _, a => a
  | m + 1, k, a => if a < 0 then a else tk R v g xs m (k + 1) (aftP R g (xs k) a (v (6 + (xs k).toNat)) (v 14))
theorem tk_neg {R v xs : Nat → Int} {g a : Int} (h : a < 0) : ∀ m k, tk R v g xs m k a = a := by
  intro m k
  cases m with
  | zero => rfl
  | succ m => show (if a < 0 then a else _) = a; rw [if_pos h]
theorem tk_b {R v xs : Nat → Int} {g : Int} (hB : townB R) {N : Nat} (hx : ∀ j, j < N → 0 ≤ xs j ∧ xs j < R 2) : ∀ m k a, m + k = N → (-4 ≤ a ∧ a < 120) → -4 ≤ tk R v g xs m k a ∧ tk R v g xs m k a < 120 := by
  have h1 := hB.1
  intro m
  induction m with
  | zero => intro k a _ h; exact h
  | succ m ih =>
    intro k a hk h
    show -4 ≤ (if a < 0 then a else tk R v g xs m (k + 1) (aftP R g (xs k) a (v (6 + (xs k).toNat)) (v 14))) ∧ (if a < 0 then a else tk R v g xs m (k + 1) (aftP R g (xs k) a (v (6 + (xs k).toNat)) (v 14))) < 120
    by_cases c : a < 0
    · rw [if_pos c]; exact h
    · rw [if_neg c]
      have := @aftP_b R g (xs k) a (v (6 + (xs k).toNat)) (v 14) hB (hx k (by omega))
      exact ih (k + 1) _ (by omega) (by omega)
theorem behind_L {p i N : Nat} {R v xs : Nat → Int} {g : Int} (hp : 7 ≤ p ∧ p + 3 < 19) (hi : i < 4) (hN : N ≤ 40) (hg : 0 ≤ g ∧ g < R 3) (hx : ∀ j, j < N → 0 ≤ xs j ∧ xs j < R 2) (hb : bdV v (R 1)) : ∀ (m n k : Nat) (S : SS) (a : Int), m + k = N → m < n → Core S → S 131 = R → stV S p v → tray S i → S 147 i ≠ -1 → S 148 i = N → (∀ j, j < N → S 149 (40 * i + j) = xs j) → (-4 ≤ a ∧ a < 120) → ∃ S', fX11_yearBehindRow_L22 (104 + 2 * i) g p n a k S = some (tk R v g xs m k a, S') ∧ lanes S' := by
  intro m
  induction m with
  | zero =>
    intro n k S a hk hn hC hR hv ht hm hs h149 ha
    obtain ⟨n, rfl⟩ := suc_of hn
    obtain ⟨x, _⟩ | ⟨⟨_, _, _, t4, t5, t6⟩, t7⟩ := id ht
    · exact absurd x hm
    unfold fX11_yearBehindRow_L22 gsh
    rw [if_pos (refs101 i hi).2, t4, hs, if_pos (by omega)]
    exact ⟨S, rfl, hC.2.2⟩
  | succ m ih =>
    intro n k S a hk hn hC hR hv ht hm hs h149 ha
    obtain ⟨n, rfl⟩ := suc_of hn
    obtain ⟨x, _⟩ | ⟨⟨_, _, _, t4, t5, t6⟩, t7⟩ := id ht
    · exact absurd x hm
    have hB : townB R := by rw [← hR]; exact hC.2.1
    have h1 := hB.1
    have h2 := hB.2.1
    unfold fX11_yearBehindRow_L22 gsh
    rw [if_pos (refs101 i hi).2, t4, hs, if_neg (by omega)]
    show ∃ S', _ = some ((if a < 0 then a else tk R v g xs m (k + 1) (aftP R g (xs k) a (v (6 + (xs k).toNat)) (v 14))), S') ∧ _
    by_cases c : a < 0
    · rw [if_pos c, if_pos c]; exact ⟨S, rfl, hC.2.2⟩
    · have hk' := hx k (by omega)
      obtain ⟨S1, q1, q2⟩ := after_ok (S := S) (g := g) (s := xs k) (spot := a) (p := p) hC (by rw [hR]; exact hg) (by rw [hR]; exact hk') (by omega) (hv.2.2.1 _ (by omega)) hv.2.2.2 hb.2.2.2
      rw [hR] at q1
      have f1 : ∀ b, (b < 31 ∨ 33 < b) → S1 b = S b := fun b hb => w_fX5_after q1 hb
      have ab := @aftP_b R g (xs k) a (v (6 + (xs k).toNat)) (v 14) hB hk'
      rw [if_neg c, if_neg c, valueAt_ok ht hm (by omega) (by omega), bnd_s, Int.toNat_natCast, h149 k (by omega), w32_eq (by omega) (by omega), q1, bnd_s]
      simp only
      rw [lt_ok, w32_k (by omega)]
      exact ih n (k + 1) S1 _ (by omega) (by omega) (core_fr (fun b hb => f1 b (by omega)) q2 hC) ((f1 131 (by omega)).trans hR) (stV_fr (f1 _ (by omega)) (f1 _ (by omega)) (f1 _ (by omega)) (f1 _ (by omega)) hv) (tray_fr (f1 _ (by omega)) (f1 _ (by omega)) (f1 _ (by omega)) (f1 _ (by omega)) (f1 _ (by omega)) ht) (by rw [f1 147 (by omega)]; exact hm) (by rw [f1 148 (by omega)]; exact hs) (fun j hj => by rw [f1 149 (by omega)]; exact h149 j hj) (by omega)
def tkY (R v : Nat → Int) (g : Int) (xs : Nat → Int) (N : Nat) (a : Int) : Int := if 0 ≤ tk R v g xs N 0 a then tk R v g xs N 0 a % 20 else -1
theorem behind_ok {p i N : Nat} {S : SS} {v xs : Nat → Int} {g c : Int} (hp : 7 ≤ p ∧ p + 3 < 19) (hi : i < 4) (hN : N ≤ 40) (hC : Core S) (hg : 0 ≤ g ∧ g < S 131 3) (hx : ∀ j, j < N → 0 ≤ xs j ∧ xs j < S 131 2) (hv : stV S p v) (hb : bdV v (S 131 1)) (ht : tray S i) (hm : S 147 i ≠ -1) (hs : S 148 i = N) (h149 : ∀ j, j < N → S 149 (40 * i + j) = xs j) (hc : 0 ≤ c ∧ c < S 131 1) : ∃ S', fX11_yearBehindRow (104 + 2 * i) g c p S = some (tkY (S 131) v g xs N (20 * c + v (3 + g.toNat)), S') ∧ lanes S' := by
  have hB := hC.2.1
  have h1 := hB.1
  have h3 := hB.2.2.1
  have yb := hb.2.1 g.toNat (by omega)
  obtain ⟨S1, q1, q2⟩ := behind_L (R := S 131) (p := p) (i := i) (g := g) hp hi hN hg hx hb N FU 0 S (20 * c + v (3 + g.toNat)) (by omega) (by unfold FU; omega) hC rfl hv ht hm hs h149 (by omega)
  have q1' : fX11_yearBehindRow_L22 (104 + 2 * i) g p FU (20 * c + v (3 + g.toNat)) 0 S = some (tk (S 131) v g xs N 0 (20 * c + v (3 + g.toNat)), S1) := q1
  have tb := tk_b (v := v) (g := g) hB hx N 0 (20 * c + v (3 + g.toNat)) (by omega) (by omega)
  refine ⟨S1, ?_, q2⟩
  unfold fX11_yearBehindRow tkY
  rw [if_neg (by omega), yearOf_V hg.1 (by omega) hv, bnd_s, lt_ok, w32_eq (x := c * 20) (by omega) (by omega), w32_eq (by omega) (by omega), Int.mul_comm c 20, q1', bnd_s]
  simp only
  by_cases z : 0 ≤ tk (S 131) v g xs N 0 (20 * c + v (3 + g.toNat))
  · rw [if_pos z, if_pos z, tmod20 z]
  · rw [if_neg z, if_neg z]
theorem took_L {i N : Nat} {R v xs : Nat → Int} {g l4 : Int} (hi : i < 4) (hN : N ≤ 40) (hB : townB R) (hg : 0 ≤ g ∧ g < R 3) (hx : ∀ j, j < N → 0 ≤ xs j ∧ xs j < R 2) (hb : bdV v (R 1)) : ∀ (m n k : Nat) (S : SS) (a : Int), m + k = N → m < n → S 131 = rowV R v → S 148 i = N → (∀ j, j < N → S 149 (40 * i + j) = xs j) → (0 ≤ a ∧ a < 120) → ∃ S', fX12_isTook_L6 i g l4 n a k S = some (if tk R v g xs m k a < 0 then (0, 0, S') else (1, tk R v g xs m k a, S')) := by
  have h1 := hB.1
  have h2 := hB.2.1
  have h3 := hB.2.2.1
  intro m
  induction m with
  | zero =>
    intro n k S a hk hn hR hs h149 ha
    obtain ⟨n, rfl⟩ := suc_of hn
    unfold fX12_isTook_L6
    rw [rdA_ok (by omega) (by omega), Int.toNat_natCast, hs, if_pos (by omega)]
    refine ⟨S, ?_⟩
    show _ = some (if a < 0 then (0, 0, S) else (1, a, S))
    rw [if_neg (by omega)]
  | succ m ih =>
    intro n k S a hk hn hR hs h149 ha
    obtain ⟨n, rfl⟩ := suc_of hn
    have hk' := hx k (by omega)
    have ex : (40 * (i : Int) + (k : Int)).toNat = 40 * i + k := by omega
    have e40 : S 131 (40 + xs k).toNat = v (6 + (xs k).toNat) := by
      rw [hR, show (40 + xs k).toNat = 34 + (6 + (xs k).toNat) by omega]; exact rowV_at (by omega)
    have e48 : S 131 48 = v 14 := by rw [hR, show (48 : Nat) = 34 + 14 from rfl]; exact rowV_at (by omega)
    have ea : aftP (S 131) g (xs k) a (v (6 + (xs k).toNat)) (v 14) = aftP R g (xs k) a (v (6 + (xs k).toNat)) (v 14) := by rw [hR]; exact aftP_t rowV_t hk'.1 (by omega)
    have r2 : S 131 2 = R 2 := by rw [hR]; exact rowV_t 2 (by omega)
    have ab := @aftP_b R g (xs k) a (v (6 + (xs k).toNat)) (v 14) hB hk'
    obtain ⟨S1, q1⟩ := whyBy_ok (S := S) (g := g) (s := xs k) (at1 := a) (sg := v (6 + (xs k).toNat)) (row_B hR hB) (by omega) (by rw [r2]; exact hk') (by omega) (by rw [e48]; exact hb.2.2.2)
    rw [e48, ea] at q1
    have f1 : ∀ b, (b < 135 ∨ 136 < b) → S1 b = S b := fun b hb => w_fX12_whyBy q1 hb
    unfold fX12_isTook_L6
    rw [rdA_ok (by omega) (by omega), Int.toNat_natCast, hs, if_neg (by omega), w32_eq (x := 40 * (i : Int)) (by omega) (by omega), w32_eq (x := 40 * (i : Int) + (k : Int)) (by omega) (by omega), rdA_ok (by omega) (by omega), ex, h149 k (by omega), lt_ok, w32_eq (x := xs k) (by omega) (by omega), w32_eq (x := 40 + xs k) (by omega) (by omega), rdA_ok (by omega) (by omega), e40, q1, bnd_s]
    simp only
    have et : tk R v g xs (m + 1) k a = tk R v g xs m (k + 1) (aftP R g (xs k) a (v (6 + (xs k).toNat)) (v 14)) := by
      show (if a < 0 then a else _) = _
      rw [if_neg (by omega)]
    rw [et]
    by_cases c : aftP R g (xs k) a (v (6 + (xs k).toNat)) (v 14) < 0
    · rw [if_pos c, if_neg (by omega), tk_neg c]
      exact ⟨S1, by rw [if_pos c]⟩
    · have r131 : S1 131 = S 131 := f1 131 (by omega)
      obtain ⟨S2, q2⟩ := goneTo_ok (S := S1) (g := g) (s := xs k) (at1 := a) (sg := v (6 + (xs k).toNat)) (by rw [r131]; exact row_B hR hB) (by omega) (by rw [r131, r2]; exact hk') (by omega) (by rw [r131, e48]; exact hb.2.2.2) (by rw [r131, e48, ea]; omega)
      rw [r131, e48, ea] at q2
      have f2 : ∀ b, (b < 135 ∨ 136 < b) → S2 b = S b := fun b hb => (w_fX12_goneTo q2 hb).trans (f1 b hb)
      rw [if_neg c, if_pos rfl, q2, bnd_s]
      simp only
      rw [lt_ok, w32_k (by omega)]
      exact ih n (k + 1) S2 _ (by omega) (by omega) ((f2 131 (by omega)).trans hR) (by rw [f2 148 (by omega)]; exact hs) (fun j hj => by rw [f2 149 (by omega)]; exact h149 j hj) (by omega)
theorem isTook_ok {i N : Nat} {R v xs : Nat → Int} {S : SS} {g a y : Int} (hi : i < 4) (hN : N ≤ 40) (hB : townB R) (hg : 0 ≤ g ∧ g < R 3) (hx : ∀ j, j < N → 0 ≤ xs j ∧ xs j < R 2) (hb : bdV v (R 1)) (hR : S 131 = rowV R v) (hs : S 148 i = N) (h149 : ∀ j, j < N → S 149 (40 * i + j) = xs j) (ha : 0 ≤ a ∧ a < 120) (hy : 0 ≤ y) : ∃ S', fX12_isTook i g a y S = some (decide (tkY R v g xs N a = y), S') := by
  obtain ⟨S1, q⟩ := took_L (l4 := y) hi hN hB hg hx hb N FU 0 S a (by omega) (by unfold FU; omega) hR hs h149 ha
  have q' : fX12_isTook_L6 i g y FU a 0 S = some (if tk R v g xs N 0 a < 0 then (0, 0, S1) else (1, tk R v g xs N 0 a, S1)) := q
  unfold fX12_isTook tkY
  rw [q', bnd_s]
  refine ⟨S1, ?_⟩
  by_cases c : tk R v g xs N 0 a < 0
  · rw [if_pos c, if_neg (c := 0 ≤ tk R v g xs N 0 a) (by omega), decide_eq_false (by omega)]; rfl
  · rw [if_neg c, if_pos (c := 0 ≤ tk R v g xs N 0 a) (by omega)]
    simp only
    rw [if_neg (by decide), tmod20 (by omega)]
    by_cases d : tk R v g xs N 0 a % 20 = y
    · rw [if_pos d, decide_eq_true d]
    · rw [if_neg d, decide_eq_false d]
/-! refusals -/
def okT (R xs : Nat → Int) (N : Nat) : Prop := ∀ j, j < N → 0 ≤ xs j ∧ xs j < R 2
theorem ref_cL {i N : Nat} {S : SS} {xs : Nat → Int} {l3 : Int} (hi : i < 4) (hN : N ≤ 40) (hC : Core S) (ht : tray S i) (hm : S 147 i ≠ -1) (hs : S 148 i = N) (h149 : ∀ j, j < N → S 149 (40 * i + j) = xs j) : ∀ (m n k : Nat), m + k = N → m < n → ((∀ j, k ≤ j → j < N → 0 ≤ xs j ∧ xs j < S 131 2) ∧ fX11_refusesTook_L51 (104 + 2 * i) l3 S n k = some 1) ∨ (¬ (∀ j, k ≤ j → j < N → 0 ≤ xs j ∧ xs j < S 131 2) ∧ fX11_refusesTook_L51 (104 + 2 * i) l3 S n k = some 0) := by
  obtain ⟨x, _⟩ | ⟨⟨_, _, _, t4, t5, t6⟩, t7⟩ := id ht
  · exact absurd x hm
  intro m
  induction m with
  | zero =>
    intro n k hk hn
    obtain ⟨n, rfl⟩ := suc_of hn
    unfold fX11_refusesTook_L51
    rw [t4, hs, if_pos (by omega)]
    exact Or.inl ⟨fun j _ _ => by omega, rfl⟩
  | succ m ih =>
    intro n k hk hn
    obtain ⟨n, rfl⟩ := suc_of hn
    unfold fX11_refusesTook_L51
    rw [t4, hs, if_neg (by omega), valueAt_ok ht hm (by omega) (by omega), bnd_s, Int.toNat_natCast, h149 k (by omega), hC.1.1.2.1, lt_ok, w32_k (by omega), bnd_s]
    by_cases c1 : xs k < 0
    · rw [if_pos (lc_lt.mpr c1)]
      exact Or.inr ⟨fun h => by have := h k (Nat.le_refl _) (by omega); omega, rfl⟩
    · rw [if_neg (fun h => c1 (lc_lt.mp h))]
      by_cases c2 : xs k < S 131 2
      · rw [if_pos (lc_lt.mpr c2)]
        obtain ⟨a, b⟩ | ⟨a, b⟩ := ih n (k + 1) (by omega) (by omega)
        · refine Or.inl ⟨fun j h1 h2 => ?_, b⟩
          by_cases e : j = k
          · subst e; omega
          · exact a j (by omega) h2
        · exact Or.inr ⟨fun h => a (fun j h1 h2 => h j (by omega) h2), b⟩
      · rw [if_neg (fun h => c2 (lc_lt.mp h))]
        exact Or.inr ⟨fun h => by have := h k (Nat.le_refl _) (by omega); omega, rfl⟩
theorem ref_mL {i N : Nat} {S : SS} {xs : Nat → Int} {l3 : Int} (hi : i < 4) (hN : N ≤ 40) (hB : townB (S 131)) (hs : S 148 i = N) (h149 : ∀ j, j < N → S 149 (40 * i + j) = xs j) : ∀ (m n k : Nat), m + k = N → m < n → ((∀ j, k ≤ j → j < N → 0 ≤ xs j ∧ xs j < S 131 2) ∧ fX12_noTook_L62 i l3 S n k = some 1) ∨ (¬ (∀ j, k ≤ j → j < N → 0 ≤ xs j ∧ xs j < S 131 2) ∧ fX12_noTook_L62 i l3 S n k = some 0) := by
  have h2 := hB.2.1
  intro m
  induction m with
  | zero =>
    intro n k hk hn
    obtain ⟨n, rfl⟩ := suc_of hn
    unfold fX12_noTook_L62
    rw [rdA_ok (by omega) (by omega), Int.toNat_natCast, hs, if_pos (by omega)]
    exact Or.inl ⟨fun j _ _ => by omega, rfl⟩
  | succ m ih =>
    intro n k hk hn
    obtain ⟨n, rfl⟩ := suc_of hn
    have ex : (40 * (i : Int) + (k : Int)).toNat = 40 * i + k := by omega
    unfold fX12_noTook_L62
    rw [rdA_ok (by omega) (by omega), Int.toNat_natCast, hs, if_neg (by omega), w32_eq (x := 40 * (i : Int)) (by omega) (by omega), w32_eq (x := 40 * (i : Int) + (k : Int)) (by omega) (by omega), rdA_ok (by omega) (by omega), ex, h149 k (by omega), isStreet_ok h2.1 h2.2, bnd_s]
    by_cases c : 0 ≤ xs k ∧ xs k < S 131 2
    · rw [if_pos (decide_eq_true c), lt_ok, w32_k (by omega)]
      obtain ⟨a, b⟩ | ⟨a, b⟩ := ih n (k + 1) (by omega) (by omega)
      · refine Or.inl ⟨fun j h1 h2 => ?_, b⟩
        by_cases e : j = k
        · subst e; omega
        · exact a j (by omega) h2
      · exact Or.inr ⟨fun h => a (fun j h1 h2 => h j (by omega) h2), b⟩
    · rw [if_neg (by rw [decide_eq_true_eq]; exact c)]
      exact Or.inr ⟨fun h => c (h k (Nat.le_refl _) (by omega)), rfl⟩
/-- both refuse by the same code, or the row is one of streets of the town -/
theorem took_both {S : SS} {t g y : Int} (hI : Inv S) : (∃ r q, r ≠ 0 ∧ fX11_trayAt t S = some q ∧ fX11_refusesTook q g y S = some r ∧ fX12_noTook t g y S = some r) ∨ ∃ i N : Nat, i < 4 ∧ t = i ∧ (1 ≤ N ∧ N ≤ 10) ∧ fX11_trayAt t S = some (104 + 2 * i) ∧ fX11_refusesTook (104 + 2 * i) g y S = some 0 ∧ (∀ M : SS, M 131 = S 131 → M 147 = S 147 → M 148 = S 148 → M 149 = S 149 → fX12_noTook t g y M = some 0) ∧ (0 ≤ g ∧ g < S 131 3) ∧ (0 ≤ y ∧ y ≤ 19) ∧ tray S i ∧ S 147 i ≠ -1 ∧ S 148 i = N ∧ okT (S 131) (fun j => S 149 (40 * i + j)) N := by
  obtain ⟨i0, hC, hS, hH, hT, hTr, hIm⟩ := id hI
  obtain ⟨_, hB, _⟩ := id hC
  have hTa := trays_all.mp hTr
  by_cases ta : 0 ≤ t ∧ t ≤ 3
  · obtain ⟨i, rfl⟩ : ∃ i : Nat, t = i := ⟨t.toNat, by omega⟩
    have ht := hTa i (by omega)
    have e1 : fX11_trayAt i S = some (104 + 2 * i) := by rw [trayAt_ok (by omega) (by omega), Int.toNat_natCast]
    have mod : ∀ (M : SS), M 131 = S 131 → fX12_noTook i g y M = (if 0 ≤ g ∧ g < S 131 3 then (Option.bind (fX12_noTray i M) fun q3 => if q3 = 0 then (rdA M 148 4 i fun v4 => Option.bind (fX12_within v4 1 10) fun q6 => if q6 = true then (Option.bind (fX12_noTook_L62 i y M FU 0) fun q7 => if q7 = 0 then some (-3) else (Option.bind (fX12_isYear y) fun q9 => if q9 = true then some 0 else some (-3))) else some (-4)) else some q3) else some (-2)) := by
      intro M hM
      unfold fX12_noTook
      rw [within_ok, bnd_s, if_pos (decide_eq_true ta), is_g (by rw [hM]; exact hB), hM, bnd_s]
      by_cases a : 0 ≤ g ∧ g < S 131 3
      · rw [if_pos (decide_eq_true a), if_pos a]
      · rw [if_neg (by rw [decide_eq_true_eq]; exact a), if_neg a]
    by_cases a : 0 ≤ g ∧ g < S 131 3
    · by_cases d : S 147 i = -1
      · refine Or.inl ⟨-6, _, by decide, e1, ?_, ?_⟩
        · unfold fX11_refusesTook gsh
          rw [if_neg (by omega), has_g hC, bnd_s, if_pos (decide_eq_true a), if_pos (refs101 i (by omega)).2, isMissing_ok ht, bnd_s, if_pos (decide_eq_true d)]
        · rw [mod S rfl, if_pos a, noTray_ok, bnd_s, Int.toNat_natCast, if_pos ta, if_pos d, if_neg (by decide)]
      · obtain ⟨x, _⟩ | ⟨⟨_, _, _, t4, t5, t6⟩, t7⟩ := id ht
        · exact absurd x d
        obtain ⟨N, hN⟩ : ∃ N : Nat, S 148 i = N := ⟨(S 148 i).toNat, by omega⟩
        have cls : fX11_refusesTook (104 + 2 * i) g y S = (if (N : Int) < 1 then some (-4) else if (N : Int) ≤ 10 then (Option.bind (fX11_refusesTook_L51 (104 + 2 * i) y S FU 0) fun q4 => if q4 = 0 then some (-3) else (Option.bind (fX11_isYear y) fun q6 => if q6 = true then some 0 else some (-3))) else some (-4)) := by
          unfold fX11_refusesTook gsh
          rw [if_neg (by omega), has_g hC, bnd_s, if_pos (decide_eq_true a), if_pos (refs101 i (by omega)).2, isMissing_ok ht, bnd_s, if_neg (by rw [decide_eq_true_eq]; exact d), t4, hN]
        have md : ∀ (M : SS), M 131 = S 131 → M 147 = S 147 → M 148 = S 148 → fX12_noTook i g y M = (if (1 : Int) ≤ N ∧ (N : Int) ≤ 10 then (Option.bind (fX12_noTook_L62 i y M FU 0) fun q7 => if q7 = 0 then some (-3) else (Option.bind (fX12_isYear y) fun q9 => if q9 = true then some 0 else some (-3))) else some (-4)) := by
          intro M m1 m2 m3
          rw [mod M m1, if_pos a, noTray_ok, bnd_s, Int.toNat_natCast, if_pos ta, m2, if_neg d, if_pos rfl, rdA_ok (by omega) (by omega), Int.toNat_natCast, m3, hN, within_ok, bnd_s]
          by_cases b : (1 : Int) ≤ N ∧ (N : Int) ≤ 10
          · rw [if_pos (decide_eq_true b), if_pos b]
          · rw [if_neg (by rw [decide_eq_true_eq]; exact b), if_neg b]
        by_cases b : 1 ≤ N ∧ N ≤ 10
        · have b' : (1 : Int) ≤ N ∧ (N : Int) ≤ 10 := by omega
          have cl := ref_cL (l3 := y) (xs := fun j => S 149 (40 * i + j)) (show i < 4 by omega) (show N ≤ 40 by omega) hC ht d hN (fun j _ => rfl) N FU 0 (by omega) (by unfold FU; omega)
          have ml : ∀ M : SS, M 131 = S 131 → M 148 = S 148 → M 149 = S 149 → _ := fun M m1 m2 m3 => ref_mL (S := M) (l3 := y) (xs := fun j => S 149 (40 * i + j)) (show i < 4 by omega) (show N ≤ 40 by omega) (by rw [m1]; exact hB) (by rw [m2]; exact hN) (fun j _ => by rw [m3]) N FU 0 (by omega) (by unfold FU; omega)
          by_cases ok : okT (S 131) (fun j => S 149 (40 * i + j)) N
          · have cl' : fX11_refusesTook_L51 (104 + 2 * i) y S FU 0 = some 1 := by
              obtain ⟨_, c⟩ | ⟨c, _⟩ := cl
              · exact c
              · exact absurd (fun j _ h => ok j h) c
            have ml' : ∀ M : SS, M 131 = S 131 → M 148 = S 148 → M 149 = S 149 → fX12_noTook_L62 i y M FU 0 = some 1 := fun M m1 m2 m3 => by
              obtain ⟨_, c⟩ | ⟨c, _⟩ := ml M m1 m2 m3
              · exact c
              · exact absurd (fun j _ h => by rw [m1]; exact ok j h) c
            by_cases e : 0 ≤ y ∧ y ≤ 19
            · refine Or.inr ⟨i, N, by omega, rfl, b, e1, ?_, fun M m1 m2 m3 m4 => ?_, a, e, ht, d, hN, ok⟩
              · rw [cls, if_neg (by omega), if_pos b'.2, cl', bnd_s, if_neg (by decide), cisYear_ok, bnd_s, if_pos (decide_eq_true e)]
              · rw [md M m1 m2 m3, if_pos b', ml' M m1 m3 m4, bnd_s, if_neg (by decide), isYear_ok, bnd_s, if_pos (decide_eq_true e)]
            · refine Or.inl ⟨-3, _, by decide, e1, ?_, ?_⟩
              · rw [cls, if_neg (by omega), if_pos b'.2, cl', bnd_s, if_neg (by decide), cisYear_ok, bnd_s, if_neg (by rw [decide_eq_true_eq]; exact e)]
              · rw [md S rfl rfl rfl, if_pos b', ml' S rfl rfl rfl, bnd_s, if_neg (by decide), isYear_ok, bnd_s, if_neg (by rw [decide_eq_true_eq]; exact e)]
          · refine Or.inl ⟨-3, _, by decide, e1, ?_, ?_⟩
            · have cl' : fX11_refusesTook_L51 (104 + 2 * i) y S FU 0 = some 0 := by
                obtain ⟨c, _⟩ | ⟨_, c⟩ := cl
                · exact absurd (fun j h => c j (Nat.zero_le j) h) ok
                · exact c
              rw [cls, if_neg (by omega), if_pos b'.2, cl', bnd_s, if_pos rfl]
            · have ml' : fX12_noTook_L62 i y S FU 0 = some 0 := by
                obtain ⟨c, _⟩ | ⟨_, c⟩ := ml S rfl rfl rfl
                · exact absurd (fun j h => c j (Nat.zero_le j) h) ok
                · exact c
              rw [md S rfl rfl rfl, if_pos b', ml', bnd_s, if_pos rfl]
        · refine Or.inl ⟨-4, _, by decide, e1, ?_, ?_⟩
          · rw [cls]
            by_cases z : (N : Int) < 1
            · rw [if_pos z]
            · rw [if_neg z, if_neg (by omega)]
          · rw [md S rfl rfl rfl, if_neg (by omega)]
    · refine Or.inl ⟨-2, _, by decide, e1, ?_, ?_⟩
      · unfold fX11_refusesTook
        rw [if_neg (by omega), has_g hC, bnd_s, if_neg (by rw [decide_eq_true_eq]; exact a)]
      · rw [mod S rfl, if_neg a]
  · refine Or.inl ⟨-2, 0, by decide, trayAt_no (by omega), ?_, ?_⟩
    · unfold fX11_refusesTook; rw [if_pos rfl]
    · unfold fX12_noTook
      rw [within_ok, bnd_s, if_neg (by rw [decide_eq_true_eq]; exact ta)]
