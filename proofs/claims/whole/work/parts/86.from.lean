/-! from, bollardsBy -/
theorem from_c {i N C : Nat} {R v xs : Nat → Int} {g y : Int} (hi : i < 4) (hN : N ≤ 40) (hg : 0 ≤ g ∧ g < R 3) (hx : okT R xs N) (hb : bdV v (R 1)) (hC' : R 1 = C) : ∀ (m n k : Nat) (S : SS), m + k = C → m < n → Core S → S 131 = R → stV S 7 v → tray S i → S 147 i ≠ -1 → S 148 i = N → (∀ j, j < N → S 149 (40 * i + j) = xs j) → ∃ S', fX11_from_L31 g y (104 + 2 * i) n (orb (fun c => decide (tkY R v g xs N (20 * (c : Int) + v (3 + g.toNat)) = y)) k) k S = some (orb (fun c => decide (tkY R v g xs N (20 * (c : Int) + v (3 + g.toNat)) = y)) C, S') ∧ lanes S' := by
  intro m
  induction m with
  | zero =>
    intro n k S hk hn hC hR hv ht hm hs h149
    obtain ⟨n, rfl⟩ := suc_of hn
    have ek : k = C := by omega
    unfold fX11_from_L31
    rw [hC.1.1.1, hR, hC', if_pos (by omega), ek]
    exact ⟨S, rfl, hC.2.2⟩
  | succ m ih =>
    intro n k S hk hn hC hR hv ht hm hs h149
    obtain ⟨n, rfl⟩ := suc_of hn
    have h1 := hC.2.1.1
    rw [hR] at h1
    obtain ⟨S1, q1, q2⟩ := behind_ok (p := 7) (i := i) (N := N) (xs := xs) (c := (k : Int)) (by omega) hi hN hC (by rw [hR]; exact hg) (by rw [hR]; exact hx) hv (by rw [hR]; exact hb) ht hm hs h149 (by rw [hR]; omega)
    rw [hR] at q1
    have f1 : ∀ b, (b < 31 ∨ 33 < b) → S1 b = S b := fun b hb => w_fX11_yearBehindRow q1 hb
    have e : (if tkY R v g xs N (20 * (k : Int) + v (3 + g.toNat)) = y then (lt (jor (orb (fun c => decide (tkY R v g xs N (20 * (c : Int) + v (3 + g.toNat)) = y)) k) (jshl 1 k)) fun x3 => some x3) else some (orb (fun c => decide (tkY R v g xs N (20 * (c : Int) + v (3 + g.toNat)) = y)) k) : Option Int) = some (orb (fun c => decide (tkY R v g xs N (20 * (c : Int) + v (3 + g.toNat)) = y)) (k + 1)) := by
      show _ = some (if decide (tkY R v g xs N (20 * (k : Int) + v (3 + g.toNat)) = y) = true then _ else _)
      by_cases c : tkY R v g xs N (20 * (k : Int) + v (3 + g.toNat)) = y
      · rw [if_pos c, if_pos (decide_eq_true c)]; rfl
      · rw [if_neg c, if_neg (by rw [decide_eq_true_eq]; exact c)]
    unfold fX11_from_L31
    rw [hC.1.1.1, hR, hC', if_neg (by omega), q1, bnd_s]
    simp only
    rw [e, bnd_s, lt_ok, w32_k (by omega)]
    exact ih n (k + 1) S1 (by omega) (by omega) (core_fr (fun b hb => f1 b (by omega)) q2 hC) ((f1 131 (by omega)).trans hR) (stV_fr (f1 _ (by omega)) (f1 _ (by omega)) (f1 _ (by omega)) (f1 _ (by omega)) hv) (tray_fr (f1 _ (by omega)) (f1 _ (by omega)) (f1 _ (by omega)) (f1 _ (by omega)) (f1 _ (by omega)) ht) (by rw [f1 147 (by omega)]; exact hm) (by rw [f1 148 (by omega)]; exact hs) (fun j hj => by rw [f1 149 (by omega)]; exact h149 j hj)
theorem from_m {i N C : Nat} {R xs : Nat → Int} {g y : Int} (hi : i < 4) (hN : N ≤ 40) (hB : townB R) (hg : 0 ≤ g ∧ g < R 3) (hx : okT R xs N) (hb : stBd R 34 (R 1)) (hC' : R 1 = C) (hy : 0 ≤ y) : ∀ (m n k : Nat) (S : SS), m + k = C → m < n → S 131 = R → S 148 i = N → (∀ j, j < N → S 149 (40 * i + j) = xs j) → ∃ S', fX12_from_L28 i g y n (orb (fun c => decide (tkY R (sft R 34) g xs N (20 * (c : Int) + sft R 34 (3 + g.toNat)) = y)) k) k S = some (orb (fun c => decide (tkY R (sft R 34) g xs N (20 * (c : Int) + sft R 34 (3 + g.toNat)) = y)) C, S') := by
  have h1 := hB.1
  have h3 := hB.2.2.1
  have yb := (bdV_of hb).2.1 g.toNat (by omega)
  intro m
  induction m with
  | zero =>
    intro n k S hk hn hR hs h149
    obtain ⟨n, rfl⟩ := suc_of hn
    have ek : k = C := by omega
    have r1 : S 131 (1 : Int).toNat = C := by rw [hR]; exact hC'
    unfold fX12_from_L28
    rw [rdA_ok (by decide) (by decide), r1, if_pos (by omega), ek]
    exact ⟨S, rfl⟩
  | succ m ih =>
    intro n k S hk hn hR hs h149
    obtain ⟨n, rfl⟩ := suc_of hn
    have r1 : S 131 (1 : Int).toNat = C := by rw [hR]; exact hC'
    have r37 : S 131 (37 + g).toNat = sft R 34 (3 + g.toNat) := by rw [hR]; exact congrArg R (by omega)
    obtain ⟨S1, q1⟩ := isTook_ok (S := S) (R := R) (v := sft R 34) (xs := xs) (a := 20 * (k : Int) + sft R 34 (3 + g.toNat)) (y := y) hi hN hB hg hx (bdV_of hb) (by rw [rowV_self]; exact hR) hs h149 (by omega) hy
    have f1 : ∀ b, (b < 135 ∨ 136 < b) → S1 b = S b := fun b hb => w_fX12_isTook q1 hb
    have e : (if decide (tkY R (sft R 34) g xs N (20 * (k : Int) + sft R 34 (3 + g.toNat)) = y) = true then some (jshl 1 k) else some 0 : Option Int) = some (if decide (tkY R (sft R 34) g xs N (20 * (k : Int) + sft R 34 (3 + g.toNat)) = y) = true then jshl 1 k else 0) := by
      split <;> rfl
    unfold fX12_from_L28
    rw [rdA_ok (by decide) (by decide), r1, if_neg (by omega), w32_eq (x := 37 + g) (by omega) (by omega), rdA_ok (by omega) (by omega), r37, w32_eq (x := 20 * (k : Int)) (by omega) (by omega), w32_eq (x := 20 * (k : Int) + sft R 34 (3 + g.toNat)) (by omega) (by omega), q1, bnd_s]
    simp only
    rw [e, bnd_s, lt_ok, lt_ok, w32_k (by omega)]
    have j := @jor_if (fun c => decide (tkY R (sft R 34) g xs N (20 * (c : Int) + sft R 34 (3 + g.toNat)) = y)) k
    rw [j]
    exact ih n (k + 1) S1 (by omega) (by omega) ((f1 131 (by omega)).trans hR) (by rw [f1 148 (by omega)]; exact hs) (fun j hj => by rw [f1 149 (by omega)]; exact h149 j hj)
theorem k_from : K_from Inv := by
  intro t g y ct cg cy S hI
  obtain ⟨i0, hC, hS, _⟩ := id hI
  obtain ⟨_, hB, _⟩ := id hC
  have h1 := hB.1
  unfold fX11_from fX12_from
  obtain ⟨r, q, r0, e1, e2, e3⟩ | ⟨i, N, hi, rfl, hN, e1, e2, e3, hg, hy, ht, hm, hs, ok⟩ := took_both (t := t) (g := g) (y := y) hI
  · rw [e1, bnd_s, e2, bnd_s, if_neg r0]
    refine ⟨_, S, S, rfl, ?_, hI⟩
    rw [lt_ok, up_same i0, e3, bnd_s, if_neg r0]
  · obtain ⟨C, hCC⟩ : ∃ C : Nat, S 131 1 = C := ⟨(S 131 1).toNat, by omega⟩
    obtain ⟨S1, q1, q2⟩ := from_c (R := S 131) (v := sft (S 131) 34) (xs := fun j => S 149 (40 * i + j)) (y := y) hi (by omega) hg ok (bdV_of hS.2) hCC C FU 0 S (by omega) (by unfold FU; omega) hC rfl (stV_of hS.1) ht hm hs (fun j _ => rfl)
    have q1' : fX11_from_L31 g y (104 + 2 * i) FU 0 0 S = some (orb (fun c => decide (tkY (S 131) (sft (S 131) 34) g (fun j => S 149 (40 * i + j)) N (20 * (c : Int) + sft (S 131) 34 (3 + g.toNat)) = y)) C, S1) := q1
    have f1 : ∀ b, (b < 31 ∨ 33 < b) → S1 b = S b := fun b hb => w_fX11_from_L31 hb _ _ _ _ _ q1
    obtain ⟨S2, m1⟩ := from_m (R := S 131) (xs := fun j => S 149 (40 * i + j)) (y := y) hi (by omega) hB hg ok hS.2 hCC hy.1 C FU 0 S1 (by omega) (by unfold FU; omega) (f1 131 (by omega)) (by rw [f1 148 (by omega)]; exact hs) (fun j _ => by rw [f1 149 (by omega)])
    have m1' : fX12_from_L28 i g y FU 0 0 S1 = some (orb (fun c => decide (tkY (S 131) (sft (S 131) 34) g (fun j => S 149 (40 * i + j)) N (20 * (c : Int) + sft (S 131) 34 (3 + g.toNat)) = y)) C, S2) := m1
    have f2 : ∀ b, (b < 135 ∨ 136 < b) → S2 b = S1 b := fun b hb => w_fX12_from_L28 hb _ _ _ _ _ m1
    rw [e1, bnd_s, e2, bnd_s, if_pos rfl, q1', bnd_s]
    refine ⟨_, S1, S2, rfl, ?_, inv_q hI q2 (fun a ha => by unfold keepA at ha; exact f1 a (by omega)) (fun a ha => by unfold keepA at ha; exact f2 a (by omega))⟩
    rw [lt_ok, up_same (by rw [f1 130 (by omega)]; exact i0), e3 S1 (f1 131 (by omega)) (f1 147 (by omega)) (f1 148 (by omega)) (f1 149 (by omega)), bnd_s, if_pos rfl, m1', bnd_s]
/-! so many bollards -/
theorem setB2 {v : Nat → Int} {a b : Int} : setB (setB v a) b = setB v b := by
  funext k; unfold setB; split <;> rfl
def bolP (R v xs : Nat → Int) (g : Int) (N : Nat) (y : Int) : Nat → Bool := fun n => decide (tkY R (setB v n) g xs N (20 * v g.toNat + v (3 + g.toNat)) = y)
theorem bol_c {i N : Nat} {R v xs : Nat → Int} {g y : Int} (hi : i < 4) (hN : N ≤ 40) (hg : 0 ≤ g ∧ g < R 3) (hx : okT R xs N) (hb : bdV v (R 1)) : ∀ (m n k : Nat) (S : SS) (b0 : Int), m + k = 10 → m < n → Core S → S 131 = R → stV S 7 v → stV S 15 (setB v b0) → tray S i → S 147 i ≠ -1 → S 148 i = N → (∀ j, j < N → S 149 (40 * i + j) = xs j) → ∃ S' b1, fX11_bollardsTold_L17 (104 + 2 * i) g y n (orb (bolP R v xs g N y) k) k S = some (orb (bolP R v xs g N y) 10, S') ∧ lanes S' ∧ stV S' 15 (setB v b1) := by
  intro m
  induction m with
  | zero =>
    intro n k S b0 hk hn hC hR hv hv' ht hm hs h149
    obtain ⟨n, rfl⟩ := suc_of hn
    have ek : k = 10 := by omega
    subst ek
    unfold fX11_bollardsTold_L17
    rw [if_pos (by omega)]
    exact ⟨S, b0, rfl, hC.2.2, hv'⟩
  | succ m ih =>
    intro n k S b0 hk hn hC hR hv hv' ht hm hs h149
    obtain ⟨n, rfl⟩ := suc_of hn
    have hB : townB R := by rw [← hR]; exact hC.2.1
    have h1 := hB.1
    have h3 := hB.2.2.1
    have fu : ∀ a, a ≠ 15 → up S 15 3 (k : Int) a = S a := fun a ha => up_row ha
    have vu : stV (up S 15 3 (k : Int)) 15 (setB v k) := by have := stV_setB (n := (k : Int)) hv'; rw [setB2] at this; exact this
    have v7 : stV (up S 15 3 (k : Int)) 7 v := stV_fr (fu _ (by omega)) (fu _ (by omega)) (fu _ (by omega)) (fu _ (by omega)) hv
    have Cu : Core (up S 15 3 (k : Int)) := core_fr (fun a ha => fu a (by omega)) (lanes_fr (fu _ (by omega)) (fu _ (by omega)) (fu _ (by omega)) hC.2.2) hC
    have eu : up S 15 3 (k : Int) 131 = R := (fu 131 (by omega)).trans hR
    have bu : bdV (setB v k) (R 1) := bdV_setB (by omega) hb
    have cb := hb.1 g.toNat (by omega)
    have sy : setB v (k : Int) (3 + g.toNat) = v (3 + g.toNat) := by unfold setB; rw [if_neg (by omega)]
    obtain ⟨S1, q1, q2⟩ := behind_ok (S := up S 15 3 (k : Int)) (p := 15) (i := i) (N := N) (xs := xs) (c := v g.toNat) (by omega) hi hN Cu (by rw [eu]; exact hg) (by rw [eu]; exact hx) vu (by rw [eu]; exact bu) (tray_fr (fu _ (by omega)) (fu _ (by omega)) (fu _ (by omega)) (fu _ (by omega)) (fu _ (by omega)) ht) (by rw [fu 147 (by omega)]; exact hm) (by rw [fu 148 (by omega)]; exact hs) (fun j hj => by rw [fu 149 (by omega)]; exact h149 j hj) (by rw [eu]; exact cb)
    rw [eu, sy] at q1
    have f1 : ∀ b, (b < 31 ∨ 33 < b) → S1 b = up S 15 3 (k : Int) b := fun b hb => w_fX11_yearBehindRow q1 hb
    have fz : ∀ b, (b < 31 ∨ 33 < b) → b ≠ 15 → S1 b = S b := fun b h h' => (f1 b h).trans (fu b h')
    have e : (if tkY R (setB v k) g xs N (20 * v g.toNat + v (3 + g.toNat)) = y then (lt (jor (orb (bolP R v xs g N y) k) (jshl 1 k)) fun x5 => some x5) else some (orb (bolP R v xs g N y) k) : Option Int) = some (orb (bolP R v xs g N y) (k + 1)) := by
      show _ = some (if decide (tkY R (setB v k) g xs N (20 * v g.toNat + v (3 + g.toNat)) = y) = true then _ else _)
      by_cases c : tkY R (setB v k) g xs N (20 * v g.toNat + v (3 + g.toNat)) = y
      · rw [if_pos c, if_pos (decide_eq_true c)]; rfl
      · rw [if_neg c, if_neg (by rw [decide_eq_true_eq]; exact c)]
    unfold fX11_bollardsTold_L17
    rw [if_neg (by omega), lt_ok, cornerOf_V hg.1 (by omega) v7, bnd_s, q1, bnd_s]
    simp only
    rw [e, bnd_s, lt_ok, w32_k (by omega)]
    exact ih n (k + 1) S1 k (by omega) (by omega) (core_fr (fun b hb => fz b (by omega) (by omega)) q2 hC) ((fz 131 (by omega) (by omega)).trans hR) (stV_fr (fz _ (by omega) (by omega)) (fz _ (by omega) (by omega)) (fz _ (by omega) (by omega)) (fz _ (by omega) (by omega)) hv) (stV_fr (f1 _ (by omega)) (f1 _ (by omega)) (f1 _ (by omega)) (f1 _ (by omega)) vu) (tray_fr (fz _ (by omega) (by omega)) (fz _ (by omega) (by omega)) (fz _ (by omega) (by omega)) (fz _ (by omega) (by omega)) (fz _ (by omega) (by omega)) ht) (by rw [fz 147 (by omega) (by omega)]; exact hm) (by rw [fz 148 (by omega) (by omega)]; exact hs) (fun j hj => by rw [fz 149 (by omega) (by omega)]; exact h149 j hj)
