/-! put, undo, why, by, goer -/
theorem k_put : K_put Inv := by
  intro g c y cg cc cy S hI
  obtain ⟨i0, hC, hS, hH, _⟩ := id hI
  obtain ⟨hR, hB, _⟩ := id hC
  have h1 := hB.1
  have h3 := hB.2.2.1
  obtain ⟨S1, e1, v11, v7, bv, C1, f1⟩ := before_ok hI
  have e131 : S1 131 = S 131 := f1 131 (by omega)
  have z1 : S1 130 0 = 0 := by rw [f1 130 (by omega)]; exact i0
  have R1 := C1.1.1.1
  have R3 := C1.1.1.2.2.1
  rw [e131] at R1 R3
  have no : ¬ ((0 ≤ g ∧ g < S 131 3) ∧ (0 ≤ c ∧ c < S 131 1) ∧ (0 ≤ y ∧ y ≤ 19)) → fX0_moves g c y 7 S1 = some (1, S1) ∧ fX12_put g c y S1 = some (-11, S1) := by
    intro hn
    unfold fX0_moves fX12_put
    rw [hasGoer_ok (by rw [R3]; exact h3.2), R3, bnd_s, lt_ok, up_same z1, isGoer_ok (by rw [e131]; exact h3.1) (by rw [e131]; exact h3.2), e131, bnd_s]
    by_cases a : 0 ≤ g ∧ g < S 131 3
    · rw [if_pos (decide_eq_true a), if_pos (decide_eq_true a), hasCorner_ok (by rw [R1]; exact h1.2), R1, bnd_s, isCorner_ok (by rw [e131]; omega) (by rw [e131]; exact h1.2), e131, bnd_s]
      by_cases b : 0 ≤ c ∧ c < S 131 1
      · rw [if_pos (decide_eq_true b), if_pos (decide_eq_true b), cisYear_ok, isYear_ok, bnd_s, bnd_s, if_neg (by rw [decide_eq_true_eq]; omega), if_neg (by rw [decide_eq_true_eq]; omega)]
        exact ⟨rfl, rfl⟩
      · rw [if_neg (by rw [decide_eq_true_eq]; exact b), if_neg (by rw [decide_eq_true_eq]; exact b)]
        exact ⟨rfl, rfl⟩
    · rw [if_neg (by rw [decide_eq_true_eq]; exact a), if_neg (by rw [decide_eq_true_eq]; exact a)]
      exact ⟨rfl, rfl⟩
  unfold fX11_put
  rw [e1, bnd_s]
  by_cases d : (0 ≤ g ∧ g < S 131 3) ∧ (0 ≤ c ∧ c < S 131 1) ∧ (0 ≤ y ∧ y ≤ 19)
  · obtain ⟨a, b, e⟩ := id d
    obtain ⟨S2, q1, q2⟩ := stV_setG (c := c) (y := y) a.1 (show g < 3 by omega) v7
    have f2 : ∀ a, a ≠ 9 ∧ a ≠ 10 → S2 a = S1 a := fun a ha => w_fX6_setGoer q1 ha
    have v11' : stV S2 11 (sft (S 131) 34) := stV_fr (f2 _ (by decide)) (f2 _ (by decide)) (f2 _ (by decide)) (f2 _ (by decide)) v11
    have s59 : S2 59 = S 59 := (f2 59 (by omega)).trans (f1 59 (by omega))
    obtain ⟨⟨n1, n2, n3, n4, n5⟩, _⟩ := id hH
    obtain ⟨S3, kk⟩ := keepSome (S := S2) (by rw [s59]; exact n4) (by rw [s59]; exact n5) (by rw [s59, n1]; exact n2) (by rw [s59, n1]; exact n3)
    have fk : ∀ a, a ≠ 59 ∧ (a < 61 ∨ 100 < a) → S3 a = S2 a := fun a ha => w_fX2_keep kk ha
    have e3 : S3 131 = S 131 := ((fk 131 (by omega)).trans (f2 131 (by omega))).trans e131
    have e130 : S3 130 = S 130 := ((fk 130 (by omega)).trans (f2 130 (by omega))).trans (f1 130 (by omega))
    have m1 : fX0_moves g c y 7 S1 = some (0, S2) := by
      unfold fX0_moves
      rw [hasGoer_ok (by rw [R3]; exact h3.2), R3, bnd_s, if_pos (decide_eq_true a), hasCorner_ok (by rw [R1]; exact h1.2), R1, bnd_s, if_pos (decide_eq_true b), cisYear_ok, bnd_s, if_pos (decide_eq_true e), q1, bnd_s]
    rw [m1, bnd_s]
    simp only
    have bc := bv.1 g.toNat (by omega)
    have by' := bv.2.1 g.toNat (by omega)
    rw [if_pos trivial, cornerOf_V a.1 (by omega) v11', bnd_s, yearOf_V a.1 (by omega) v11', bnd_s, w32_eq (x := sft (S 131) 34 g.toNat * 100) (by omega) (by omega), w32_eq (by omega) (by omega)]
    unfold fX11_kept
    rw [kk, bnd_s, bnd_s]
    obtain ⟨S5, q5, k5, f5⟩ := @keeps_ok S3
    have e5 : S5 131 = S 131 := (f5 131 (by decide)).trans e3
    have r7 := rowV_setG (R := S 131) (v := sft (S 131) 34) (g := g) (c := c) (y := y) (S := S5) a.1 (show g < 3 by omega) (by rw [rowV_self]; exact e5)
    have f7 : ∀ a, a ≠ 131 → up (up S5 131 (34 + g).toNat c) 131 (37 + g).toNat y a = S5 a := fun a ha => (up_row ha).trans (up_row ha)
    have fz : ∀ a, a ≠ 131 → a ≠ 137 → up (up S5 131 (34 + g).toNat c) 131 (37 + g).toNat y a = S3 a := fun a h h' => (f7 a h).trans (f5 a h')
    obtain ⟨S8, q8, hI8, r137, _⟩ := deed_fin (S := S) (Sa := S2) (S1 := S3) (Sb := up (up S5 131 (34 + g).toNat c) 131 (37 + g).toNat y) (S2 := S2) hI
      (fun a ha hb => by unfold keepA at ha; exact (f2 a (by omega)).trans (f1 a (by omega)))
      v11' q2 (bdV_setG a.1 (by omega) b e bv) (lanes_fr (f2 30 (by omega)) (f2 33 (by omega)) (f2 131 (by omega)) C1.2.2) kk
      (fun a ha hb => by unfold keepA at ha; exact fz a (by omega) (by omega)) (by rw [fz 130 (by omega) (by omega), e130]; exact i0) (by rw [fz 130 (by omega) (by omega), e130]) (by rw [fz 130 (by omega) (by omega), e130]) (by rw [fz 130 (by omega) (by omega), e130])
      (fun k hk => by rw [f7 137 (by decide), k5 k hk, e3]) r7
    refine ⟨_, S3, S8, rfl, ?_, hI8⟩
    unfold fX12_put
    rw [lt_ok, up_same (by rw [e130]; exact i0), isGoer_ok (by rw [e3]; exact h3.1) (by rw [e3]; exact h3.2), e3, bnd_s, if_pos (decide_eq_true a), isCorner_ok (by rw [e3]; omega) (by rw [e3]; exact h1.2), e3, bnd_s, if_pos (decide_eq_true b), isYear_ok, bnd_s, if_pos (decide_eq_true e), q5, bnd_s, w32_eq (x := 34 + g) (by omega) (by omega), w32_eq (x := 37 + g) (by omega) (by omega), wrA_ok (by omega) (by omega), wrA_ok (by omega) (by omega), q8, bnd_s, w32_eq (x := 3 + g) (by omega) (by omega), rdA_ok (by omega) (by omega), rdA_ok (by omega) (by omega), r137, f7 137 (by decide), k5 _ (by omega), k5 _ (by omega), e3]
    have t : (3 + g).toNat = 3 + g.toNat := by omega
    have t1 : S 131 (34 + g.toNat) = sft (S 131) 34 g.toNat := rfl
    have t2 : S 131 (34 + (3 + g.toNat)) = sft (S 131) 34 (3 + g.toNat) := rfl
    rw [t, t1, t2, w32_eq (x := 100 * sft (S 131) 34 g.toNat) (by omega) (by omega), w32_eq (by omega) (by omega), Int.mul_comm 100]
  · obtain ⟨m1, m2⟩ := no d
    rw [m1, bnd_s]
    simp only
    rw [if_neg (by decide)]
    exact ⟨_, S1, S1, rfl, m2, inv_before hI f1⟩
theorem undo_L {N : Nat} (hN : N ≤ 9) : ∀ (m n k : Nat) (S : SS), m + k = 15 → m < n → S 131 49 = N → ∃ S', fX12_undo_L44 n k S = some S' ∧ ∀ j, S' 131 j = if 34 + k ≤ j ∧ j < 49 then S 131 (50 + 15 * N + (j - 34)) else S 131 j := by
  intro m
  induction m with
  | zero =>
    intro n k S hk hn hS
    obtain ⟨n, rfl⟩ := suc_of hn
    unfold fX12_undo_L44
    rw [if_pos (by omega)]
    exact ⟨S, rfl, fun j => by rw [if_neg (by omega)]⟩
  | succ m ih =>
    intro n k S hk hn hS
    obtain ⟨n, rfl⟩ := suc_of hn
    unfold fX12_undo_L44
    rw [if_neg (by omega), rdA_ok (by decide) (by decide)]
    have hS' : S 131 (49 : Int).toNat = N := hS
    have ek : (50 + 15 * (N : Int) + (k : Int)).toNat = 50 + 15 * N + k := by omega
    have ek' : (34 + (k : Int)).toNat = 34 + k := by omega
    rw [hS', w32_eq (x := 15 * (N : Int)) (by omega) (by omega), w32_eq (x := 50 + 15 * (N : Int)) (by omega) (by omega), w32_eq (x := 50 + 15 * (N : Int) + (k : Int)) (by omega) (by omega), w32_eq (x := 34 + (k : Int)) (by omega) (by omega), rdA_ok (by omega) (by omega), wrA_ok (by omega) (by omega), ek, ek', w32_k (by omega), lt_ok]
    obtain ⟨S', e1, e2⟩ := ih n (k + 1) (up S 131 (34 + k) (S 131 (50 + 15 * N + k))) (by omega) (by omega) (by rw [up_at, if_neg (by omega)]; exact hS)
    refine ⟨S', e1, fun j => ?_⟩
    rw [e2 j, up_at, up_at]
    by_cases c : j = 34 + k
    · rw [if_neg (by omega), if_pos c, if_pos (by omega)]; exact congrArg (S 131) (by omega)
    · by_cases c2 : 34 + k ≤ j ∧ j < 49
      · rw [if_pos (by omega), if_neg (by omega), if_pos c2]
      · rw [if_neg (by omega), if_neg c, if_neg c2]
theorem k_undo : K_undo Inv := by
  intro n cn S hI
  obtain ⟨i0, hC, hS, hH, hT, hTr, hIm⟩ := id hI
  obtain ⟨hR, hB, hL⟩ := id hC
  obtain ⟨⟨n1, n2, n3, n4, n5⟩, hH2⟩ := id hH
  have h8 := hB.2.1
  unfold fX11_undo
  by_cases c : 1 ≤ n ∧ n ≤ S 131 49
  · obtain ⟨N, hN⟩ : ∃ N : Nat, S 131 49 - n = N := ⟨(S 131 49 - n).toNat, by omega⟩
    obtain ⟨k1, k2, k3, k4⟩ := keptAt_ok (S := S) (i := N) n4 n5 (by omega)
    obtain ⟨Sa, a1, a2⟩ := @copySt S 7 (kAt S N) (by omega)
    have fa : ∀ a, (a < 7 ∨ 10 < a) → Sa a = S a := fun a ha => w_fX6_copyOf a1 (by omega)
    have e1 : fX2_bringBack n 7 S = some (up Sa 59 2 N) := by
      unfold fX2_bringBack
      rw [n1, w32_eq (x := S 131 49 - n) (by omega) (by omega), hN, k1, bnd_s, if_neg (by omega)]
      unfold gsh
      rw [if_pos k2, a1, bnd_s, lt_ok, fa 59 (by omega), n1, w32_eq (x := S 131 49 - n) (by omega) (by omega), hN]
    rw [n1, if_neg (by omega), if_pos c.2, e1, bnd_s, up_self]
    have z0 : up Sa 59 2 N 130 0 = 0 := by rw [up_row (by decide), fa 130 (by omega)]; exact i0
    have q131 : up Sa 59 2 N 131 = S 131 := by rw [up_row (by decide), fa 131 (by omega)]
    obtain ⟨Sc, c1, c2⟩ := undo_L (N := N) (by omega) 15 FU 0 (up (up Sa 59 2 N) 131 49 N) (by omega) (by decide) (by rw [up_self])
    have fc : ∀ a, a ≠ 131 → Sc a = up Sa 59 2 N a := fun a ha => (w_fX12_undo_L44 ha _ _ _ _ c1).trans (up_row ha)
    have fz : ∀ a, a ≠ 131 → a ≠ 59 → (a < 7 ∨ 10 < a) → Sc a = S a := fun a h h' h'' => ((fc a h).trans (up_row h')).trans (fa a h'')
    have r131 : ∀ j, Sc 131 j = if 34 ≤ j ∧ j < 49 then S 131 (50 + 15 * N + (j - 34)) else if j = 49 then (N : Int) else S 131 j := by
      intro j
      rw [c2 j, up_at, up_at, q131]
      by_cases cj : 34 ≤ j ∧ j < 49
      · rw [if_pos (by omega), if_neg (by omega), if_pos cj]
      · rw [if_neg (by omega), if_neg cj]
    have hT2 : eqT (S 131) (Sc 131) := fun k hk => by rw [r131 k, if_neg (by omega), if_neg (by omega)]
    have blk : ∀ k, k < 15 → sft (Sc 131) 34 k = sft (S 131) (50 + 15 * N) k := fun k hk => by
      show Sc 131 (34 + k) = S 131 (50 + 15 * N + k)
      rw [r131, if_pos (by omega)]; exact congrArg (S 131) (by omega)
    obtain ⟨g1, g2⟩ := hH2 N (by omega)
    have s59 : Sc 59 = up Sa 59 2 N 59 := fc 59 (by decide)
    have s591 : Sc 59 1 = S 59 1 := by rw [s59, up_at, if_neg (by decide), fa 59 (by omega)]
    refine ⟨_, _, Sc, rfl, ?_, ⟨by rw [fz 130 (by omega) (by omega) (by omega)]; exact i0, ⟨?_, townB_t hT2 hB, ?_⟩, ⟨?_, ?_⟩, ?_, ?_, ?_, ?_⟩⟩
    · unfold fX12_undo
      have c1' : fX12_undo_L44 FU 0 (up (up Sa 59 2 N) 131 (49 : Int).toNat N) = some Sc := c1
      have t : S 131 (49 : Int).toNat = S 131 49 := rfl
      rw [lt_ok, up_same z0, within_ok, bnd_s, if_pos (decide_eq_true (by omega)), rdA_ok (by decide) (by decide), q131, t, if_pos c.2, rdA_ok (by decide) (by decide), q131, t, w32_eq (x := S 131 49 - n) (by omega) (by omega), hN, wrA_ok (by decide) (by decide), c1', bnd_s, rdA_ok (by decide) (by decide)]
      have t2 : Sc 131 (49 : Int).toNat = N := by show Sc 131 49 = N; rw [r131, if_neg (by omega), if_pos rfl]
      rw [t2]
    · exact townR_t hT2 h8.2 (townR_fr (fz _ (by omega) (by omega) (by omega)) (fz _ (by omega) (by omega) (by omega)) (fz _ (by omega) (by omega) (by omega)) (fz _ (by omega) (by omega) (by omega)) (fz _ (by omega) (by omega) (by omega)) hR)
    · exact lanes_t (fz _ (by omega) (by omega) (by omega)) (fz _ (by omega) (by omega) (by omega)) hT2 h8.2 hL
    · refine stEq_of (stV_c blk ?_)
      have := stV_of (a2 _ _ g1)
      have f7 : ∀ a, 7 ≤ a → a ≤ 10 → Sc a = Sa a := fun a h h' => (fc a (by omega)).trans (up_row (by omega))
      exact stV_fr (f7 _ (by omega) (by omega)) (f7 _ (by omega) (by omega)) (f7 _ (by omega) (by omega)) (f7 _ (by omega) (by omega)) this
    · rw [hT2 1 (by omega)]
      exact stBd_of (bdV_c blk (bdV_of g2))
    · have e49 : Sc 131 49 = N := by rw [r131, if_neg (by omega), if_pos rfl]
      refine ⟨⟨by rw [e49, s59, up_self], by omega, by omega, by rw [s591]; exact n4, by rw [s591]; exact n5⟩, fun i hi => ?_⟩
      obtain ⟨g1, g2⟩ := hH2 i (by omega)
      have ek : kAt Sc i = kAt S i := by unfold kAt; rw [s591]
      have bi : 61 ≤ kAt S i ∧ kAt S i ≤ 97 := by unfold kAt; omega
      have blk' : ∀ k, k < 15 → sft (Sc 131) (50 + 15 * i) k = sft (S 131) (50 + 15 * i) k := fun k hk => by
        show Sc 131 (50 + 15 * i + k) = S 131 (50 + 15 * i + k)
        rw [r131, if_neg (by omega), if_neg (by omega)]
      rw [ek, hT2 1 (by omega)]
      refine ⟨stEq_of (stV_c blk' (stV_of (stEq_fr (fz _ (by omega) (by omega) (by omega)) (fz _ (by omega) (by omega) (by omega)) (fz _ (by omega) (by omega) (by omega)) (fz _ (by omega) (by omega) (by omega)) g1))), stBd_of (bdV_c blk' (bdV_of g2))⟩
    · have e130 := fz 130 (by omega) (by omega) (by omega)
      exact tape_fr (fz _ (by omega) (by omega) (by omega)) (fz _ (by omega) (by omega) (by omega)) (fz _ (by omega) (by omega) (by omega)) (by rw [e130]) (by rw [e130]) (by rw [e130]) hT
    · exact trays_fr (fun a h h' => fz a (by omega) (by omega) (by omega)) (fz _ (by omega) (by omega) (by omega)) (fz _ (by omega) (by omega) (by omega)) (fz _ (by omega) (by omega) (by omega)) hTr
    · exact imgs_fr (fz _ (by omega) (by omega) (by omega)) (fun a h h' => fz a (by omega) (by omega) (by omega)) (fz _ (by omega) (by omega) (by omega)) (fun k hk => hT2 k (by omega)) hIm
  · have e1 : (if n < 1 then some ((-3), S) else if n ≤ S 59 2 then (Option.bind (fX2_bringBack n 7 S) fun q1 => some (q1 59 2, q1)) else some ((-3), S) : Option (Int × SS)) = some (-3, S) := by
      by_cases c1 : n < 1
      · rw [if_pos c1]
      · rw [if_neg c1, if_neg (by rw [n1]; omega)]
    rw [e1]
    refine ⟨_, S, S, rfl, ?_, hI⟩
    unfold fX12_undo
    rw [lt_ok, up_same i0, within_ok, bnd_s]
    by_cases c1 : 1 ≤ n ∧ n ≤ 10
    · rw [if_pos (decide_eq_true c1), rdA_ok (by decide) (by decide), if_neg (by show ¬ n ≤ S 131 49; omega)]
    · rw [if_neg (by rw [decide_eq_true_eq]; exact c1)]
theorem k_why : K_why Inv := by
  intro g s cg cs S hI
  obtain ⟨i0, hC, hS, _⟩ := id hI
  obtain ⟨_, hB, _⟩ := id hC
  have h1 := hB.1
  obtain ⟨x, S1, e1, e2, e3⟩ := go_ok (g := g) (s := s) hC hS
  have f1 : ∀ a, (a < 31 ∨ 33 < a) → S1 a = S a := fun a ha => w_fX5_after e2 ha
  have e131 : S1 131 = S 131 := f1 131 (by omega)
  obtain ⟨S2, q⟩ := whyGo_ok (S := S1) (g := g) (s := s) (by rw [e131]; exact hB) (by rw [e131]; exact hS.2) cg cs
  rw [e131] at q
  have f2 : ∀ a, (a < 135 ∨ 136 < a) → S2 a = S1 a := fun a ha => w_fX12_whyGo q ha
  have gb := @goP_b S hB g s
  refine ⟨if goP (S 131) g s < 0 then - goP (S 131) g s else 0, S1, S2, ?_, ?_, inv_q hI e3 (fun a ha => by unfold keepA at ha; exact f1 a (by omega)) (fun a ha => by unfold keepA at ha; exact f2 a (by omega))⟩
  · unfold fX11_why
    rw [e1, bnd_s, e2, bnd_s]
    simp only
    by_cases c : goP (S 131) g s < 0
    · rw [if_neg (by omega), if_pos c, w32_eq (by omega) (by omega)]
    · rw [if_pos (by omega), if_neg c]
  · unfold fX12_why
    rw [lt_ok, up_same (by rw [f1 130 (by omega)]; exact i0), q, bnd_s]
theorem k_by : K_by Inv := by
  intro g s w cg cs cw S hI
  obtain ⟨i0, hC, hS, _⟩ := id hI
  obtain ⟨_, hB, hL⟩ := id hC
  have h1 := hB.1
  have h2 := hB.2.1
  have h3 := hB.2.2.1
  by_cases cw : 0 ≤ w ∧ w ≤ 1
  · obtain ⟨x, S1, e1, e2, e3⟩ := go_ok (g := g) (s := s) hC hS
    have f1 : ∀ a, (a < 31 ∨ 33 < a) → S1 a = S a := fun a ha => w_fX5_after e2 ha
    have e131 : S1 131 = S 131 := f1 131 (by omega)
    have z1 : S1 130 0 = 0 := by rw [f1 130 (by omega)]; exact i0
    obtain ⟨S2, q⟩ := whyGo_ok (S := S1) (g := g) (s := s) (by rw [e131]; exact hB) (by rw [e131]; exact hS.2) cg cs
    rw [e131] at q
    have f2 : ∀ a, (a < 135 ∨ 136 < a) → S2 a = S1 a := fun a ha => w_fX12_whyGo q ha
    have gb := @goP_b S hB g s
    have gv := @goV_b (S 131) (sft (S 131) 34) hB g s
    rw [goV_self h2.2 h3.2] at gv
    unfold fX11_by fX12_by
    rw [if_neg (by omega), if_pos cw.2, e1, bnd_s, e2, bnd_s]
    simp only
    by_cases c : goP (S 131) g s < 0
    · rw [if_pos c] at q
      rw [if_neg (by omega)]
      refine ⟨_, S1, S2, rfl, ?_, inv_q hI e3 (fun a ha => by unfold keepA at ha; exact f1 a (by omega)) (fun a ha => by unfold keepA at ha; exact f2 a (by omega))⟩
      rw [lt_ok, up_same z1, within_ok, bnd_s, if_pos (decide_eq_true cw), q, bnd_s]
      simp only
      rw [if_neg (by omega)]
    · rw [if_neg c] at q
      have e2' : S2 131 = S 131 := (f2 131 (by omega)).trans e131
      have hSt2 : stBd (S2 131) 34 (S2 131 1) := by rw [e2']; exact hS.2
      have hB2 : townB (S2 131) := by rw [e2']; exact hB
      have sp := spotP_b hSt2 (g := g) (by omega) (by omega)
      have ge : aftP (S2 131) g s (spotP (S2 131) g) (S2 131 (40 + s).toNat) (S2 131 48) = goP (S 131) g s := by
        rw [e2']; unfold goP; rw [if_pos (by omega)]
      obtain ⟨S6, q6⟩ := goneTo_ok (S := S2) (g := g) (s := s) (at1 := spotP (S2 131) g) (sg := S2 131 (40 + s).toNat) hB2 (by omega) (by rw [e2']; omega) (by rw [e2'] at sp ⊢; omega) hSt2.2.2.2 (by rw [ge]; omega)
      rw [ge] at q6
      have f6 : ∀ a, (a < 135 ∨ 136 < a) → S6 a = S2 a := fun a ha => w_fX12_goneTo q6 ha
      have iv : Inv S6 := inv_q hI e3 (fun a ha => by unfold keepA at ha; exact f1 a (by omega)) (fun a ha => by unfold keepA at ha; exact (f6 a (by omega)).trans (f2 a (by omega)))
      rw [if_pos (by omega)]
      refine ⟨if w = 0 then goP (S 131) g s / 20 else goP (S 131) g s % 20, S1, S6, ?_, ?_, iv⟩
      · by_cases c0 : w = 0
        · rw [if_pos c0, if_pos c0, tdiv20 (by omega), w32_eq (by omega) (by omega)]
        · rw [if_neg c0, if_neg c0, tmod20 (by omega)]
      · rw [lt_ok, up_same z1, within_ok, bnd_s, if_pos (decide_eq_true cw), q, bnd_s]
        simp only
        rw [if_pos trivial, standOf_ok hSt2 hB2 (by omega) (by omega), bnd_s, q6, bnd_s]
        simp only
        by_cases c0 : w = 0
        · rw [if_pos c0, if_pos c0, tdiv20 (by omega), w32_eq (by omega) (by omega)]
        · rw [if_neg c0, if_neg c0, tmod20 (by omega)]
  · refine ⟨-2, S, S, ?_, ?_, hI⟩
    · unfold fX11_by
      by_cases c1 : w < 0
      · rw [if_pos c1]
      · rw [if_neg c1, if_neg (by omega)]
    · unfold fX12_by
      rw [lt_ok, up_same i0, within_ok, bnd_s, if_neg (by rw [decide_eq_true_eq]; exact cw)]
