/-! a call that did some: kept by both -/
theorem kAt_ne {S : SS} {i N : Nat} (h0 : 0 ≤ S 59 1) (h1 : S 59 1 < 10) (hi : i < 10) (hN : N < 10) (h : i ≠ N) : kAt S i + 4 ≤ kAt S N ∨ kAt S N + 4 ≤ kAt S i := by
  unfold kAt; omega
theorem deed_fin {S Sa S1 Sb S2 : SS} {v1 : Nat → Int} (hI : Inv S)
    (ha : ∀ a, keepA a → (a < 7 ∨ 10 < a) → Sa a = S a) (h11 : stV Sa 11 (sft (S 131) 34)) (h7 : stV Sa 7 v1) (hv : bdV v1 (S 131 1)) (hl : lanes Sa)
    (hk : fX2_keep 11 Sa = some S1)
    (hb : ∀ a, (keepA a ∨ a = 30 ∨ a = 33) → a ≠ 131 → Sb a = S1 a) (hb0 : Sb 130 0 = 0) (hb5 : Sb 130 5 = S 130 5) (hb13 : Sb 130 13 = S 130 13) (hb14 : Sb 130 14 = S 130 14)
    (hb137 : ∀ k, k < 15 → Sb 137 k = S 131 (34 + k)) (hb131 : Sb 131 = rowV (S 131) v1) :
    ∃ S2, fX12_notes Sb = some S2 ∧ Inv S2 ∧ S2 137 = Sb 137 ∧ (∀ k, k < 15 → S2 131 (34 + k) = v1 k) := by
  obtain ⟨i0, ⟨hR, hB, hL⟩, hS, hH, hT, hTr, hIm⟩ := id hI
  have hA : ∀ a, (a < 7 ∨ a = 19 ∨ a = 20 ∨ (59 ≤ a ∧ a ≤ 102) ∨ (104 ≤ a ∧ a ≤ 129) ∨ (131 ≤ a ∧ a ≤ 133) ∨ 147 ≤ a) → Sa a = S a := fun a h => ha a (by unfold keepA; omega) (by omega)
  have hBB : ∀ a, (a < 11 ∨ a = 19 ∨ a = 20 ∨ a = 30 ∨ a = 33 ∨ (59 ≤ a ∧ a ≤ 102) ∨ (104 ≤ a ∧ a ≤ 129) ∨ (132 ≤ a ∧ a ≤ 133) ∨ 147 ≤ a) → Sb a = S1 a := fun a h => hb a (by unfold keepA; omega) (by omega)
  obtain ⟨⟨n1, n2, n3, n4, n5⟩, hH2⟩ := id hH
  obtain ⟨N, hN⟩ : ∃ N : Nat, S 131 49 = N := ⟨(S 131 49).toNat, by omega⟩
  have a59 : Sa 59 = S 59 := hA 59 (by omega)
  obtain ⟨S1', k1, k2, k3, k4, k5⟩ := keep_ok (S := Sa) (N := N) (by omega) (by rw [a59, n1, hN]) (by rw [a59]; exact n4) (by rw [a59]; exact n5)
  rw [hk] at k1
  cases k1
  have eK : kAt Sa N = kAt S N := by unfold kAt; rw [a59]
  have bK : 61 ≤ kAt S N ∧ kAt S N ≤ 97 := by unfold kAt; omega
  rw [eK] at k2 k3
  rw [a59] at k5
  obtain ⟨S2, m1, m2, m3, m4⟩ := notes_ok (S := Sb) (N := N) (by omega) (by rw [hb131]; unfold rowV; rw [if_neg (by omega)]; exact hN)
  have r131 : ∀ j, (j < 34 ∨ 200 ≤ j) → S2 131 j = S 131 j := by
    intro j hj
    have : Sb 131 j = S 131 j := by rw [hb131]; exact rowV_t j hj
    by_cases c : N < 10
    · rw [m3 c j, if_neg (by omega), if_neg (by omega), this]
    · rw [m4 (by omega) j, if_neg (by omega), if_neg (by omega), if_neg (by omega), this]
  have r34 : ∀ k, k < 15 → S2 131 (34 + k) = v1 k := by
    intro k hk
    have : Sb 131 (34 + k) = v1 k := by rw [hb131]; exact rowV_at hk
    by_cases c : N < 10
    · rw [m3 c, if_neg (by omega), if_neg (by omega), this]
    · rw [m4 (by omega), if_neg (by omega), if_neg (by omega), if_neg (by omega), this]
  have f2 : ∀ a, (a < 11 ∨ a = 19 ∨ a = 20 ∨ a = 30 ∨ a = 33 ∨ (59 ≤ a ∧ a ≤ 102) ∨ (104 ≤ a ∧ a ≤ 129) ∨ (132 ≤ a ∧ a ≤ 133) ∨ 147 ≤ a) → S2 a = S1 a := fun a h => (m2 a (by omega)).trans (hBB a h)
  have f1 : ∀ a, a ≠ 59 → (a < 61 ∨ 100 < a) → S1 a = Sa a := fun a h h' => k3 a h (by omega)
  have fS : ∀ a, (a < 7 ∨ a = 19 ∨ a = 20 ∨ (101 ≤ a ∧ a ≤ 102) ∨ (104 ≤ a ∧ a ≤ 129) ∨ (132 ≤ a ∧ a ≤ 133) ∨ 147 ≤ a) → S2 a = S a := fun a h => ((f2 a (by omega)).trans (f1 a (by omega) (by omega))).trans (hA a (by omega))
  have hT2 : eqT (S 131) (S2 131) := r131
  have h8 := hB.2.1
  refine ⟨S2, m1, ⟨by rw [m2 130 (by decide)]; exact hb0, ⟨?_, townB_t hT2 hB, ?_⟩, ⟨?_, ?_⟩, ?_, ?_, ?_, ?_⟩, m2 137 (by decide), r34⟩
  · exact townR_t hT2 h8.2 (townR_fr (fS _ (by omega)) (fS _ (by omega)) (fS _ (by omega)) (fS _ (by omega)) (fS _ (by omega)) hR)
  · have e131 : Sa 131 = S 131 := hA 131 (by omega)
    exact lanes_t ((f2 30 (by omega)).trans (f1 30 (by omega) (by omega))) ((f2 33 (by omega)).trans (f1 33 (by omega) (by omega))) (by rw [e131]; exact hT2) (by rw [e131]; exact h8.2) hl
  · refine stEq_of (stV_c (v := v1) (fun k hk => r34 k hk) ?_)
    exact stV_fr ((f2 7 (by omega)).trans (f1 7 (by omega) (by omega))) ((f2 8 (by omega)).trans (f1 8 (by omega) (by omega))) ((f2 9 (by omega)).trans (f1 9 (by omega) (by omega))) ((f2 10 (by omega)).trans (f1 10 (by omega) (by omega))) h7
  · rw [r131 1 (by omega)]
    exact stBd_of (bdV_c (v := v1) (fun k hk => r34 k hk) hv)
  · have s59 : S2 59 = S1 59 := f2 59 (by omega)
    have hst := k2 _ _ (stEq_of (o := 34) (Q := S 131) h11)
    have hbd := hS.2
    by_cases c : N < 10
    · rw [if_pos c] at k4 k5
      have e49 : S2 131 49 = (N : Int) + 1 := by rw [m3 c, if_pos rfl]
      refine ⟨⟨by rw [s59, k4, e49], by omega, by omega, by rw [s59, k5]; exact n4, by rw [s59, k5]; exact n5⟩, fun i hi => ?_⟩
      have eki : kAt S2 i = kAt S i := by unfold kAt; rw [s59, k5]
      rw [r131 1 (by omega), eki]
      have blk : ∀ k, k < 15 → S2 131 (50 + 15 * i + k) = if i = N then S 131 (34 + k) else S 131 (50 + 15 * i + k) := by
        intro k hk
        rw [m3 c, if_neg (by omega)]
        by_cases cc : i = N
        · rw [if_pos (by omega), if_pos cc, hb137 _ (by omega)]; exact congrArg (S 131) (by omega)
        · rw [if_neg (by omega), if_neg cc, hb131]; unfold rowV; rw [if_neg (by omega)]
      by_cases cc : i = N
      · rw [cc] at blk ⊢
        have blk' : ∀ k, k < 15 → sft (S2 131) (50 + 15 * N) k = sft (S 131) 34 k := fun k hk => by have := blk k hk; rw [if_pos rfl] at this; exact this
        exact ⟨stEq_of (stV_c blk' (stV_fr (f2 _ (by omega)) (f2 _ (by omega)) (f2 _ (by omega)) (f2 _ (by omega)) (stV_of hst))), stBd_of (bdV_c blk' (bdV_of hbd))⟩
      · have blk' : ∀ k, k < 15 → sft (S2 131) (50 + 15 * i) k = sft (S 131) (50 + 15 * i) k := fun k hk => by have := blk k hk; rw [if_neg cc] at this; exact this
        obtain ⟨g1, g2⟩ := hH2 i (by omega)
        have ne := @kAt_ne S i N n4 n5 (by omega) c cc
        have bi : 61 ≤ kAt S i ∧ kAt S i ≤ 97 := by unfold kAt; omega
        have fr : ∀ a, kAt S i ≤ a → a < kAt S i + 4 → S2 a = S a := fun a q1 q2 => ((f2 a (by omega)).trans (k3 a (by omega) (by omega))).trans (hA a (by omega))
        exact ⟨stEq_of (stV_c blk' (stV_of (stEq_fr (fr _ (by omega) (by omega)) (fr _ (by omega) (by omega)) (fr _ (by omega) (by omega)) (fr _ (by omega) (by omega)) g1))), stBd_of (bdV_c blk' (bdV_of g2))⟩
    · have c10 : N = 10 := by omega
      rw [if_neg c] at k4 k5
      have e49 : S2 131 49 = 10 := by rw [m4 c10, if_pos rfl]
      refine ⟨⟨by rw [s59, k4, e49], by omega, by omega, by rw [s59, k5]; omega, by rw [s59, k5]; omega⟩, fun i hi => ?_⟩
      have eki : kAt S2 i = kAt S (i + 1) := by unfold kAt; rw [s59, k5]; omega
      rw [r131 1 (by omega), eki]
      have blk : ∀ k, k < 15 → S2 131 (50 + 15 * i + k) = if i = 9 then S 131 (34 + k) else S 131 (50 + 15 * (i + 1) + k) := by
        intro k hk
        rw [m4 c10, if_neg (by omega)]
        by_cases cc : i = 9
        · rw [if_neg (by omega), if_pos (by omega), if_pos cc, hb137 _ (by omega)]; exact congrArg (S 131) (by omega)
        · rw [if_pos (by omega), if_neg cc, hb131]; unfold rowV; rw [if_neg (by omega)]; exact congrArg (S 131) (by omega)
      have kN : kAt S N = kAt S 0 := by unfold kAt; omega
      by_cases cc : i = 9
      · have blk' : ∀ k, k < 15 → sft (S2 131) (50 + 15 * i) k = sft (S 131) 34 k := fun k hk => by have := blk k hk; rw [if_pos cc] at this; exact this
        have e9 : kAt S (i + 1) = kAt S N := by rw [cc, c10]
        rw [e9]
        exact ⟨stEq_of (stV_c blk' (stV_fr (f2 _ (by omega)) (f2 _ (by omega)) (f2 _ (by omega)) (f2 _ (by omega)) (stV_of hst))), stBd_of (bdV_c blk' (bdV_of hbd))⟩
      · have blk' : ∀ k, k < 15 → sft (S2 131) (50 + 15 * i) k = sft (S 131) (50 + 15 * (i + 1)) k := fun k hk => by have := blk k hk; rw [if_neg cc] at this; exact this
        obtain ⟨g1, g2⟩ := hH2 (i + 1) (by omega)
        have ne := @kAt_ne S (i + 1) 0 n4 n5 (by omega) (by omega) (by omega)
        have bi : 61 ≤ kAt S (i + 1) ∧ kAt S (i + 1) ≤ 97 := by unfold kAt; omega
        have fr : ∀ a, kAt S (i + 1) ≤ a → a < kAt S (i + 1) + 4 → S2 a = S a := fun a q1 q2 => ((f2 a (by omega)).trans (k3 a (by omega) (by omega))).trans (hA a (by omega))
        exact ⟨stEq_of (stV_c blk' (stV_of (stEq_fr (fr _ (by omega) (by omega)) (fr _ (by omega) (by omega)) (fr _ (by omega) (by omega)) (fr _ (by omega) (by omega)) g1))), stBd_of (bdV_c blk' (bdV_of g2))⟩
  · exact tape_fr (fS 19 (by omega)) (fS 20 (by omega)) (fS 133 (by omega)) (by rw [m2 130 (by decide)]; exact hb5) (by rw [m2 130 (by decide)]; exact hb13) (by rw [m2 130 (by decide)]; exact hb14) hT
  · exact trays_fr (fun a h h' => fS a (by omega)) (fS 147 (by omega)) (fS 148 (by omega)) (fS 149 (by omega)) hTr
  · exact imgs_fr (fS 1 (by omega)) (fun a h h' => fS a (by omega)) (fS 132 (by omega)) (fun k hk => r131 k (by omega)) hIm
