theorem spotP_row {R w : Nat → Int} {g : Int} (h0 : 0 ≤ g) (h3 : g < 3) : spotP (rowV R w) g = w g.toNat * 20 + w (3 + g.toNat) := by
  unfold spotP
  rw [show (34 + g).toNat = 34 + g.toNat by omega, show (37 + g).toNat = 34 + (3 + g.toNat) by omega, rowV_at (by omega), rowV_at (by omega)]
theorem setB_lo {v : Nat → Int} {n : Int} {k : Nat} (h : k < 14) : setB v n k = v k := by unfold setB; rw [if_neg (by omega)]
theorem setB_14 {v : Nat → Int} : setB v (v 14) = v := by
  funext k; unfold setB
  by_cases c : k = 14
  · rw [if_pos c, c]
  · rw [if_neg c]
theorem bol_m {i N : Nat} {R v xs : Nat → Int} {g y l4 : Int} (hi : i < 4) (hN : N ≤ 40) (hB : townB R) (hg : 0 ≤ g ∧ g < R 3) (hx : okT R xs N) (hb : bdV v (R 1)) (hy : 0 ≤ y) : ∀ (m n k : Nat) (S : SS) (b0 : Int), m + k = 10 → m < n → S 131 = rowV R (setB v b0) → S 148 i = N → (∀ j, j < N → S 149 (40 * i + j) = xs j) → ∃ S' b1, fX12_bollardsOf_L15 i g y l4 n (orb (bolP R v xs g N y) k) k S = some (orb (bolP R v xs g N y) 10, S') ∧ S' 131 = rowV R (setB v b1) := by
  have h1 := hB.1
  have h3 := hB.2.2.1
  have cb := hb.1 g.toNat (by omega)
  have yb := hb.2.1 g.toNat (by omega)
  intro m
  induction m with
  | zero =>
    intro n k S b0 hk hn hR hs h149
    obtain ⟨n, rfl⟩ := suc_of hn
    have ek : k = 10 := by omega
    subst ek
    unfold fX12_bollardsOf_L15
    rw [if_pos (by omega)]
    exact ⟨S, b0, rfl, hR⟩
  | succ m ih =>
    intro n k S b0 hk hn hR hs h149
    obtain ⟨n, rfl⟩ := suc_of hn
    have fu : ∀ a, a ≠ 131 → up S 131 48 (k : Int) a = S a := fun a ha => up_row ha
    have eu : up S 131 48 (k : Int) 131 = rowV R (setB v k) := by
      have := rowV_setB (n := (k : Int)) hR
      rw [setB2] at this
      exact this
    have bu : bdV (setB v k) (R 1) := bdV_setB (by omega) hb
    have st := standOf_ok (S := up S 131 48 (k : Int)) (g := g) (row_bd eu bu) (row_B eu hB) hg.1 (by omega)
    rw [eu, spotP_row hg.1 (by omega), setB_lo (by omega), setB_lo (by omega), Int.mul_comm] at st
    obtain ⟨S1, q1⟩ := isTook_ok (S := up S 131 48 (k : Int)) (R := R) (v := setB v k) (xs := xs) (a := 20 * v g.toNat + v (3 + g.toNat)) (y := y) hi hN hB hg hx bu eu (by rw [fu 148 (by decide)]; exact hs) (fun j hj => by rw [fu 149 (by decide)]; exact h149 j hj) (by omega) hy
    have f1 : ∀ b, (b < 135 ∨ 136 < b) → S1 b = up S 131 48 (k : Int) b := fun b hb => w_fX12_isTook q1 hb
    have e : (if decide (tkY R (setB v k) g xs N (20 * v g.toNat + v (3 + g.toNat)) = y) = true then some (jshl 1 k) else some 0 : Option Int) = some (if bolP R v xs g N y k = true then jshl 1 k else 0) := by
      show _ = some (if decide (tkY R (setB v k) g xs N (20 * v g.toNat + v (3 + g.toNat)) = y) = true then jshl 1 k else 0)
      split <;> rfl
    have t48 : up S 131 (48 : Int).toNat (k : Int) = up S 131 48 (k : Int) := rfl
    unfold fX12_bollardsOf_L15
    rw [if_neg (by omega), wrA_ok (by decide) (by decide), t48, st, bnd_s, q1, bnd_s]
    simp only
    rw [e, bnd_s, lt_ok, lt_ok, w32_k (by omega), jor_if]
    exact ih n (k + 1) S1 k (by omega) (by omega) ((f1 131 (by omega)).trans eu) (by rw [f1 148 (by omega), fu 148 (by decide)]; exact hs) (fun j hj => by rw [f1 149 (by omega), fu 149 (by decide)]; exact h149 j hj)
theorem bollardsOf_ok {i N : Nat} {S : SS} {xs : Nat → Int} {g y : Int} (hi : i < 4) (hN : N ≤ 40) (hB : townB (S 131)) (hg : 0 ≤ g ∧ g < S 131 3) (hx : okT (S 131) xs N) (hb : stBd (S 131) 34 (S 131 1)) (hy : 0 ≤ y) (hs : S 148 i = N) (h149 : ∀ j, j < N → S 149 (40 * i + j) = xs j) : ∃ S', fX12_bollardsOf i g y S = some (orb (bolP (S 131) (sft (S 131) 34) xs g N y) 10, S') ∧ S' 131 = S 131 ∧ ∀ a, a ≠ 131 ∧ (a < 135 ∨ 136 < a) → S' a = S a := by
  have r0 : S 131 = rowV (S 131) (setB (sft (S 131) 34) (sft (S 131) 34 14)) := by rw [setB_14, rowV_self]
  obtain ⟨S1, b1, q1, q2⟩ := bol_m (l4 := S 131 48) (xs := xs) (v := sft (S 131) 34) hi hN hB hg hx (bdV_of hb) hy 10 FU 0 S _ (by omega) (by decide) r0 hs h149
  have q1' : fX12_bollardsOf_L15 i g y (S 131 48) FU 0 0 S = some (orb (bolP (S 131) (sft (S 131) 34) xs g N y) 10, S1) := q1
  have e131 : up S1 131 48 (S 131 48) 131 = S 131 := by
    have := rowV_setB (n := S 131 48) q2
    rw [setB2] at this
    have z : setB (sft (S 131) 34) (S 131 48) = sft (S 131) 34 := setB_14
    rw [z, rowV_self] at this
    exact this
  have e : fX12_bollardsOf i g y S = some (orb (bolP (S 131) (sft (S 131) 34) xs g N y) 10, up S1 131 48 (S 131 48)) := by
    unfold fX12_bollardsOf
    rw [rdA_ok (by decide) (by decide)]
    have t : S 131 (48 : Int).toNat = S 131 48 := rfl
    rw [t, q1', bnd_s, wrA_ok (by decide) (by decide)]
    rfl
  exact ⟨_, e, e131, fun a ha => w_fX12_bollardsOf e ha⟩
theorem told_both {i N : Nat} {S : SS} {g y : Int} (hI : Inv S) (hi : i < 4) (hN : N ≤ 40) (hg : 0 ≤ g ∧ g < S 131 3) (ht : tray S i) (hm : S 147 i ≠ -1) (hs : S 148 i = N) (ok : okT (S 131) (fun j => S 149 (40 * i + j)) N) : ∃ S1, fX11_bollardsTold (104 + 2 * i) g y S = some (orb (bolP (S 131) (sft (S 131) 34) (fun j => S 149 (40 * i + j)) g N y) 10, S1) ∧ lanes S1 ∧ ∀ a, (a < 15 ∨ 18 < a) ∧ (a < 31 ∨ 33 < a) → S1 a = S a := by
  obtain ⟨i0, hC, hS, _⟩ := id hI
  obtain ⟨S1, c1, c2⟩ := @copySt S 15 7 (by omega)
  have f1 : ∀ a, (a < 15 ∨ 18 < a) → S1 a = S a := fun a ha => w_fX6_copyOf c1 (by omega)
  have e131 : S1 131 = S 131 := f1 131 (by omega)
  have C1 : Core S1 := core_fr (fun a ha => f1 a (by omega)) (lanes_fr (f1 30 (by omega)) (f1 33 (by omega)) e131 hC.2.2) hC
  have v15 : stV S1 15 (setB (sft (S 131) 34) (sft (S 131) 34 14)) := by rw [setB_14]; exact stV_of (c2 _ _ hS.1)
  obtain ⟨S2, b1, q1, q2, _⟩ := bol_c (R := S 131) (xs := fun j => S 149 (40 * i + j)) (v := sft (S 131) 34) (y := y) hi hN hg ok (bdV_of hS.2) 10 FU 0 S1 _ (by omega) (by decide) C1 e131 (stV_fr (f1 _ (by omega)) (f1 _ (by omega)) (f1 _ (by omega)) (f1 _ (by omega)) (stV_of hS.1)) v15 (tray_fr (f1 _ (by omega)) (f1 _ (by omega)) (f1 _ (by omega)) (f1 _ (by omega)) (f1 _ (by omega)) ht) (by rw [f1 147 (by omega)]; exact hm) (by rw [f1 148 (by omega)]; exact hs) (fun j _ => by rw [f1 149 (by omega)])
  have q1' : fX11_bollardsTold_L17 (104 + 2 * i) g y FU 0 0 S1 = some (orb (bolP (S 131) (sft (S 131) 34) (fun j => S 149 (40 * i + j)) g N y) 10, S2) := q1
  have e : fX11_bollardsTold (104 + 2 * i) g y S = some (orb (bolP (S 131) (sft (S 131) 34) (fun j => S 149 (40 * i + j)) g N y) 10, S2) := by
    unfold fX11_bollardsTold; rw [c1, bnd_s, q1', bnd_s]
  exact ⟨S2, e, q2, fun a ha => w_fX11_bollardsTold e ha⟩
theorem k_bollardsBy : K_bollardsBy Inv := by
  intro t g y ct cg cy S hI
  obtain ⟨i0, hC, hS, _⟩ := id hI
  obtain ⟨_, hB, _⟩ := id hC
  unfold fX11_bollardsBy fX12_bollardsBy
  obtain ⟨r, q, r0, e1, e2, e3⟩ | ⟨i, N, hi, rfl, hN, e1, e2, e3, hg, hy, ht, hm, hs, ok⟩ := took_both (t := t) (g := g) (y := y) hI
  · rw [e1, bnd_s, e2, bnd_s, if_neg r0]
    refine ⟨_, S, S, rfl, ?_, hI⟩
    rw [lt_ok, up_same i0, e3, bnd_s, if_neg r0]
  · obtain ⟨S1, q1, q2, f1⟩ := told_both (y := y) hI hi (by omega) hg ht hm hs ok
    have e131 : S1 131 = S 131 := f1 131 (by omega)
    obtain ⟨S2, m1, m2, m3⟩ := bollardsOf_ok (S := S1) (xs := fun j => S 149 (40 * i + j)) (g := g) (y := y) (N := N) hi (by omega) (by rw [e131]; exact hB) (by rw [e131]; exact hg) (by rw [e131]; exact ok) (by rw [e131]; exact hS.2) hy.1 (by rw [f1 148 (by omega)]; exact hs) (fun j _ => by rw [f1 149 (by omega)])
    rw [e131] at m1
    rw [e1, bnd_s, e2, bnd_s, if_pos rfl, q1, bnd_s]
    refine ⟨_, S1, S2, rfl, ?_, inv_q hI q2 (fun a ha => by unfold keepA at ha; exact f1 a (by omega)) (fun a ha => ?_)⟩
    · rw [lt_ok, up_same (by rw [f1 130 (by omega)]; exact i0), e3 S1 e131 (f1 147 (by omega)) (f1 148 (by omega)) (f1 149 (by omega)), bnd_s, if_pos rfl, m1, bnd_s]
    · by_cases c : a = 131
      · rw [c]; exact m2
      · unfold keepA at ha; exact m3 a (by omega)
