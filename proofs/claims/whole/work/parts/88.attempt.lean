/-! attempt -/
def yrP (R v : Nat → Int) (g s : Int) (n : Nat) : Int := if 0 ≤ goV R (setB v n) g s then goV R (setB v n) g s % 20 else v (3 + g.toNat)
def maS (yr : Nat → Int) (told : Int) : Nat → Int × (Nat → Int)
  | 0 => (0, fun _ => 0)
  | n + 1 => if bit told n = true then (if (maS yr told n).1 < (maS yr told n).2 (yr n).toNat + 1 then (maS yr told n).2 (yr n).toNat + 1 else (maS yr told n).1, pt (maS yr told n).2 (yr n).toNat ((maS yr told n).2 (yr n).toNat + 1)) else maS yr told n
theorem maS_b {yr : Nat → Int} {told : Int} : ∀ n : Nat, (0 ≤ (maS yr told n).1 ∧ (maS yr told n).1 ≤ n) ∧ ∀ j, 0 ≤ (maS yr told n).2 j ∧ (maS yr told n).2 j ≤ n := by
  intro n
  induction n with
  | zero => exact ⟨⟨Int.le_refl _, Int.le_refl _⟩, fun j => ⟨Int.le_refl _, Int.le_refl _⟩⟩
  | succ n ih =>
    have e : maS yr told (n + 1) = if bit told n = true then (if (maS yr told n).1 < (maS yr told n).2 (yr n).toNat + 1 then (maS yr told n).2 (yr n).toNat + 1 else (maS yr told n).1, pt (maS yr told n).2 (yr n).toNat ((maS yr told n).2 (yr n).toNat + 1)) else maS yr told n := rfl
    rw [e]
    have hy := ih.2 (yr n).toNat
    have h1 := ih.1
    by_cases c : bit told n = true
    · rw [if_pos c]
      refine ⟨?_, fun j => ?_⟩
      · simp only
        split <;> omega
      · simp only
        by_cases d : j = (yr n).toNat
        · rw [d, pt_eq]; omega
        · rw [pt_lt d]; have := ih.2 j; omega
    · rw [if_neg c]
      exact ⟨by omega, fun j => by have := ih.2 j; omega⟩
theorem yrP_b {R v : Nat → Int} {g s : Int} (hB : townB R) (hg : 0 ≤ g ∧ g < 3) (hb : bdV v (R 1)) {n : Nat} : 0 ≤ yrP R v g s n ∧ yrP R v g s n ≤ 19 := by
  have := hb.2.1 g.toNat (by omega)
  unfold yrP
  split <;> omega
theorem alike_L {R v : Nat → Int} {g s told : Int} (hB : townB R) (hg : 0 ≤ g ∧ g < R 3) (hs : 0 ≤ s ∧ s < R 2) (hb : bdV v (R 1)) : ∀ (m n k : Nat) (S : SS) (b0 : Int), m + k = 10 → m < n → Core S → S 131 = R → stV S 7 v → stV S 15 (setB v b0) → (∀ j, j < 20 → S 103 j = (maS (yrP R v g s) told k).2 j) → ∃ S', fX11_mostAlike_L25 g s told n (maS (yrP R v g s) told k).1 k S = some ((maS (yrP R v g s) told 10).1, S') ∧ lanes S' := by
  have h1 := hB.1
  have h2 := hB.2.1
  have h3 := hB.2.2.1
  have cb := hb.1 g.toNat (by omega)
  have yb := hb.2.1 g.toNat (by omega)
  intro m
  induction m with
  | zero =>
    intro n k S b0 hk hn hC hR hv hv' h103
    obtain ⟨n, rfl⟩ := suc_of hn
    have ek : k = 10 := by omega
    subst ek
    unfold fX11_mostAlike_L25
    rw [if_pos (by omega)]
    exact ⟨S, rfl, hC.2.2⟩
  | succ m ih =>
    intro n k S b0 hk hn hC hR hv hv' h103
    obtain ⟨n, rfl⟩ := suc_of hn
    have e : maS (yrP R v g s) told (k + 1) = if bit told k = true then (if (maS (yrP R v g s) told k).1 < (maS (yrP R v g s) told k).2 (yrP R v g s k).toNat + 1 then (maS (yrP R v g s) told k).2 (yrP R v g s k).toNat + 1 else (maS (yrP R v g s) told k).1, pt (maS (yrP R v g s) told k).2 (yrP R v g s k).toNat ((maS (yrP R v g s) told k).2 (yrP R v g s k).toNat + 1)) else maS (yrP R v g s) told k := rfl
    have yr := yrP_b (g := g) (s := s) (n := k) hB (by omega) hb
    have mb := (@maS_b (yrP R v g s) told k).2 (yrP R v g s k).toNat
    unfold fX11_mostAlike_L25
    rw [if_neg (by omega), bit_shr (by omega)]
    by_cases c : bit told k = true
    · rw [if_pos c] at e
      have fu : ∀ a, a ≠ 15 → up S 15 3 (k : Int) a = S a := fun a ha => up_row ha
      have vu : stV (up S 15 3 (k : Int)) 15 (setB v k) := by have := stV_setB (n := (k : Int)) hv'; rw [setB2] at this; exact this
      have v7 : stV (up S 15 3 (k : Int)) 7 v := stV_fr (fu _ (by omega)) (fu _ (by omega)) (fu _ (by omega)) (fu _ (by omega)) hv
      have Cu : Core (up S 15 3 (k : Int)) := core_fr (fun a ha => fu a (by omega)) (lanes_fr (fu _ (by omega)) (fu _ (by omega)) (fu _ (by omega)) hC.2.2) hC
      have eu : up S 15 3 (k : Int) 131 = R := (fu 131 (by omega)).trans hR
      have sp := spotOf_ok (S := up S 15 3 (k : Int)) (p := 7) hg.1 (show g < 3 by omega) (v7.1 g.toNat (by omega)) (v7.2.1 g.toNat (by omega)) cb.1 (by omega) yb.1 yb.2
      obtain ⟨S1, q1, q2⟩ := after_ok (S := up S 15 3 (k : Int)) (g := g) (s := s) (spot := v g.toNat * 20 + v (3 + g.toNat)) (p := 15) Cu (by rw [eu]; exact hg) (by rw [eu]; exact hs) (by omega) (vu.2.2.1 s.toNat (by omega)) vu.2.2.2 (show 0 ≤ setB v (k : Int) 14 ∧ setB v (k : Int) 14 ≤ 9 by unfold setB; rw [if_pos rfl]; omega)
      rw [eu] at q1
      have eg : aftP R g s (v g.toNat * 20 + v (3 + g.toNat)) (setB v (k : Int) (6 + s.toNat)) (setB v (k : Int) 14) = goV R (setB v k) g s := by
        unfold goV
        rw [if_pos ⟨hg, hs⟩, setB_lo (k := g.toNat) (by omega), setB_lo (k := 3 + g.toNat) (by omega)]
      rw [eg] at q1
      have f1 : ∀ b, (b < 31 ∨ 33 < b) → S1 b = up S 15 3 (k : Int) b := fun b hb => w_fX5_after q1 hb
      have fz : ∀ b, (b < 31 ∨ 33 < b) → b ≠ 15 → S1 b = S b := fun b h h' => (f1 b h).trans (fu b h')
      have v71 : stV S1 7 v := stV_fr (f1 _ (by omega)) (f1 _ (by omega)) (f1 _ (by omega)) (f1 _ (by omega)) v7
      have ey : (if 0 ≤ goV R (setB v k) g s then some (Int.tmod (goV R (setB v k) g s) 20) else (Option.bind (fX6_yearOf 7 g S1) fun q6 => some q6) : Option Int) = some (yrP R v g s k) := by
        unfold yrP
        by_cases d : 0 ≤ goV R (setB v k) g s
        · rw [if_pos d, if_pos d, tmod20 d]
        · rw [if_neg d, if_neg d, yearOf_V hg.1 (by omega) v71, bnd_s]
      have s103 : ∀ j, j < 20 → S1 103 j = (maS (yrP R v g s) told k).2 j := fun j hj => by rw [fz 103 (by omega) (by omega)]; exact h103 j hj
      rw [if_pos c, if_neg (by decide), lt_ok, sp, bnd_s, q1, bnd_s]
      simp only
      rw [ey, bnd_s, cisYear_ok, bnd_s, if_pos (decide_eq_true yr), rdA_ok yr.1 (by omega), s103 _ (by omega), wrA_ok yr.1 (by omega), rdA_ok yr.1 (by omega), up_self, w32_eq (x := (maS (yrP R v g s) told k).2 (yrP R v g s k).toNat + 1) (by omega) (by omega), lt_ok, bnd_s]
      simp only
      rw [lt_ok, w32_k (by omega)]
      have fw : ∀ b, b ≠ 103 → up S1 103 (yrP R v g s k).toNat ((maS (yrP R v g s) told k).2 (yrP R v g s k).toNat + 1) b = S1 b := fun b hb => up_row hb
      have r := ih n (k + 1) (up S1 103 (yrP R v g s k).toNat ((maS (yrP R v g s) told k).2 (yrP R v g s k).toNat + 1)) k (by omega) (by omega)
        (core_fr (fun b hb => (fw b (by omega)).trans (fz b (by omega) (by omega))) (lanes_fr (fw _ (by decide)) (fw _ (by decide)) (fw _ (by decide)) q2) hC) (((fw 131 (by decide)).trans (fz 131 (by omega) (by decide))).trans hR) (stV_fr (fw _ (by omega)) (fw _ (by omega)) (fw _ (by omega)) (fw _ (by omega)) v71) (stV_fr (S := up S 15 3 (k : Int)) ((fw _ (by omega)).trans (f1 _ (by omega))) ((fw _ (by omega)).trans (f1 _ (by omega))) ((fw _ (by omega)).trans (f1 _ (by omega))) ((fw _ (by omega)).trans (f1 _ (by omega))) vu)
        (fun j hj => by
          rw [e, up_at]
          simp only
          unfold pt
          by_cases d : j = (yrP R v g s k).toNat
          · rw [if_pos d, if_pos d]
          · rw [if_neg d, if_neg d]; exact s103 j hj)
      rw [e] at r
      exact r
    · rw [if_neg c] at e
      rw [if_neg c, if_pos rfl, bnd_s, lt_ok, w32_k (by omega)]
      have r := ih n (k + 1) S b0 (by omega) (by omega) hC hR hv hv' (by rw [e]; exact h103)
      rw [e] at r
      exact r
theorem mostAlike_ok {S : SS} {g s told : Int} (hC : Core S) (hS : Stand S) (hg : 0 ≤ g ∧ g < S 131 3) (hs : 0 ≤ s ∧ s < S 131 2) : ∃ S', fX11_mostAlike g s told S = some ((maS (yrP (S 131) (sft (S 131) 34) g s) told 10).1, S') ∧ lanes S' ∧ ∀ a, (a < 15 ∨ 18 < a) ∧ (a < 31 ∨ 33 < a) ∧ a ≠ 103 → S' a = S a := by
  obtain ⟨S1, c1, c2⟩ := @copySt S 15 7 (by omega)
  have f1 : ∀ a, (a < 15 ∨ 18 < a) → S1 a = S a := fun a ha => w_fX6_copyOf c1 (by omega)
  obtain ⟨S2, d1, d2, d3⟩ := @fill_53178_20 103 0 S1
  have fz : ∀ a, (a < 15 ∨ 18 < a) → a ≠ 103 → S2 a = S a := fun a h h' => (d3 a h').trans (f1 a h)
  have e131 : S2 131 = S 131 := fz 131 (by omega) (by omega)
  have v15 : stV S2 15 (setB (sft (S 131) 34) (sft (S 131) 34 14)) := by
    rw [setB_14]; exact stV_fr (d3 _ (by omega)) (d3 _ (by omega)) (d3 _ (by omega)) (d3 _ (by omega)) (stV_of (c2 _ _ hS.1))
  obtain ⟨S3, q1, q2⟩ := alike_L (R := S 131) (v := sft (S 131) 34) (told := told) hC.2.1 hg hs (bdV_of hS.2) 10 FU 0 S2 _ (by omega) (by decide) (core_fr (fun a ha => fz a (by omega) (by omega)) (lanes_fr (fz _ (by omega) (by omega)) (fz _ (by omega) (by omega)) (fz _ (by omega) (by omega)) hC.2.2) hC) e131 (stV_fr (fz _ (by omega) (by omega)) (fz _ (by omega) (by omega)) (fz _ (by omega) (by omega)) (fz _ (by omega) (by omega)) (stV_of hS.1)) v15 (fun j hj => d2 j hj)
  have q1' : fX11_mostAlike_L25 g s told FU 0 0 S2 = some ((maS (yrP (S 131) (sft (S 131) 34) g s) told 10).1, S3) := q1
  have e : fX11_mostAlike g s told S = some ((maS (yrP (S 131) (sft (S 131) 34) g s) told 10).1, S3) := by
    unfold fX11_mostAlike; rw [c1, bnd_s, d1, bnd_s, q1', bnd_s]
  exact ⟨S3, e, q2, fun a ha => w_fX11_mostAlike e (by omega)⟩
