theorem child_m {R : Nat → Int} {g c x spot : Int} {t : Nat} {rc : Nat → Int → Int → Int → Int → Int → Int → SS → Option (Bool × SS)} (hB : townB R) (hW : BM R g c rc t) (h0 : 0 ≤ spot) (h1 : spot < 120) : ∀ (m n k : Nat) (S : SS), m + k = (R 2).toNat → m < n → S 131 = R → ∃ S', fX12_childs_L21 rc g spot x c ((t + 1 : Nat) : Int) n k S = some ((if anN (fun s => byF R g c (wP R g c t) t x s spot) m k = true then 0 else 1), S') ∧ S' 131 = R := by
  have h2 := hB.2.1
  intro m
  induction m with
  | zero =>
    intro n k S hk hn hR
    obtain ⟨n, rfl⟩ := suc_of hn
    unfold fX12_childs_L21
    rw [rdA_ok (by decide) (by decide), hR, if_pos (show R (2 : Int).toNat ≤ (k : Int) by show R 2 ≤ _; omega)]
    exact ⟨S, rfl, hR⟩
  | succ m ih =>
    intro n k S hk hn hR
    obtain ⟨n, rfl⟩ := suc_of hn
    obtain ⟨S1, a1, a2⟩ := hW x spot k S (by omega) hR h0 h1
    unfold fX12_childs_L21
    rw [rdA_ok (by decide) (by decide), hR, if_neg (show ¬ R (2 : Int).toNat ≤ (k : Int) by show ¬ R 2 ≤ _; omega), a1, bnd_s]
    simp only
    by_cases z : byF R g c (wP R g c t) t x k spot = true
    · rw [if_pos z]
      refine ⟨S1, ?_, a2⟩
      rw [anN_s, z, Bool.true_or, if_pos rfl]
    · rw [if_neg z, lt_ok, w32_k (by omega)]
      obtain ⟨S', b1, b2⟩ := ih n (k + 1) S1 (by omega) (by omega) a2
      refine ⟨S', ?_, b2⟩
      rw [b1, anN_s, Bool.eq_false_iff.mpr z, Bool.false_or]
theorem w_m {R : Nat → Int} {g c : Int} {t : Nat} {rc : Nat → Int → Int → Int → Int → Int → Int → SS → Option (Bool × SS)} {n : Nat} (hB : townB R) (ht : t < 5) (hW : BM R g c rc t) (hV : VM R g c rc t) (hn : ∀ a b d e f S, fGX12_childs n 0 a b d e f 0 S = fX12_childs rc a b d e f S) : WM R g c (fGX12_childs n) (t + 1) := by
  have h2 := hB.2.1
  intro x spot S hR h0 h1
  rw [hn]
  unfold fX12_childs wP
  rw [tdiv20 h0, w32_eq (by omega) (by omega)]
  by_cases e : spot / 20 = c
  · rw [if_pos e, if_pos e]
    exact ⟨S, rfl, hR⟩
  · rw [if_neg e, if_neg e, if_neg (by omega)]
    obtain ⟨S1, a1, a2⟩ := child_m (x := x) hB hW h0 h1 (R 2).toNat FU 0 S (by omega) (by unfold FU; omega) hR
    have a1' : fX12_childs_L21 rc g spot x c ((t + 1 : Nat) : Int) FU 0 S = _ := a1
    rw [a1', bnd_s]
    simp only
    by_cases z : anN (fun s => byF R g c (wP R g c t) t x s spot) (R 2).toNat 0 = true
    · rw [if_pos z, if_pos rfl, z, Bool.true_or]
      exact ⟨S1, rfl, a2⟩
    · rw [if_neg z, if_neg (by decide), Bool.eq_false_iff.mpr z, Bool.false_or]
      obtain ⟨S2, b1, b2⟩ := hV x spot S1 a2 h0 h1
      rw [show w32 (((t + 1 : Nat) : Int) - 1) = (t : Int) by rw [w32_eq (by omega) (by omega)]; omega]
      exact ⟨S2, by rw [b1, bnd_s], b2⟩
theorem gamem_v {R : Nat → Int} {g c : Int} {t n : Nat} (hB : townB R) (hW : ∀ n, 3 * t + 1 ≤ n → WM R g c (fGX12_childs n) t) (hn : 3 * t + 2 ≤ n) : VM R g c (fGX12_childs n) t := by
  obtain ⟨n, rfl⟩ : ∃ m, n = m + 1 := ⟨n - 1, by omega⟩
  intro x spot S hR h0 h1
  exact v_m (rc := fGX12_childs n) (x := x) hB (fun _ => hW n (by omega)) h0 h1 hR
theorem gamem_b {R : Nat → Int} {g c : Int} {t n : Nat} (hB : townB R) (hb : 0 ≤ R 48 ∧ R 48 ≤ 9) (hg : 0 ≤ g ∧ g < R 3) (ht : t < 5) (hW : ∀ n, 3 * t + 1 ≤ n → WM R g c (fGX12_childs n) t) (hn : 3 * t + 3 ≤ n) : BM R g c (fGX12_childs n) t := by
  obtain ⟨n, rfl⟩ : ∃ m, n = m + 1 := ⟨n - 1, by omega⟩
  exact b_m (rc := fGX12_childs n) hB hb hg ht (gamem_v hB hW (by omega)) (fun a b d e f h S => rfl)
theorem game_m {R : Nat → Int} {g c : Int} (hB : townB R) (hb : 0 ≤ R 48 ∧ R 48 ≤ 9) (hg : 0 ≤ g ∧ g < R 3) : ∀ t, t < 5 → ∀ n, 3 * t + 1 ≤ n → WM R g c (fGX12_childs n) t := by
  intro t
  induction t with
  | zero =>
    intro _ n hn x spot S hR h0 h1
    obtain ⟨n, rfl⟩ : ∃ m, n = m + 1 := ⟨n - 1, by omega⟩
    show ∃ S', fX12_childs (fGX12_childs n) g spot x c _ S = _ ∧ _
    unfold fX12_childs wP
    rw [tdiv20 h0, w32_eq (by omega) (by omega)]
    by_cases e : spot / 20 = c
    · rw [if_pos e, decide_eq_true e]
      exact ⟨S, rfl, hR⟩
    · rw [if_neg e, decide_eq_false e, if_pos (show ((0 : Nat) : Int) = 0 from rfl)]
      exact ⟨S, rfl, hR⟩
  | succ t ih =>
    intro ht n hn
    obtain ⟨n, rfl⟩ : ∃ m, n = m + 1 := ⟨n - 1, by omega⟩
    exact w_m (rc := fGX12_childs n) hB (by omega) (gamem_b hB hb hg (by omega) (ih (by omega)) (by omega)) (gamem_v hB (ih (by omega)) (by omega)) (fun a b d e f S => rfl)
