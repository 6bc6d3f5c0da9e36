def Sp (T U : Nat → Int) (n need : Nat) (t : Bool) (fc fm : SS → Option SS) : Prop := ∀ (s : Nat) (SC SM : SS), 1 ≤ s → JX T U n s SC SM → Rd SC SM → ∃ SC' SM', fc SC = some SC' ∧ fm SM = some SM' ∧ JX T U n s SC' SM' ∧ FX SC SM SC' SM' ∧ (Ok SM' → Ok SM ∧ SM 130 6 < SM' 130 6 ∧ Sg SM SM' need t)
theorem Ok_130 {A B : SS} (e : B 130 = A 130) (o : Ok B) : Ok A := by unfold Ok at o; rw [e] at o; exact o
theorem eats_y {S S' : SS} {k : Int} (t : S 130 11 = 0 ∧ S 130 9 = k) (h : fX12_next S = some S') : fX12_eats k S = some (true, S') := by
  unfold fX12_eats
  rw [is_ok, bnd_s, if_pos (decide_eq_true t), h, bnd_s]
theorem eats_n {S : SS} {k : Int} (t : ¬ (S 130 11 = 0 ∧ S 130 9 = k)) : fX12_eats k S = some (false, S) := by
  unfold fX12_eats
  rw [is_ok, bnd_s, if_neg (by rw [decide_eq_true_eq]; exact t)]
theorem at_lt {n s : Nat} {SC SM : SS} (h : JO n s SC SM) (hk : SM 130 9 ≠ 24) : SM 130 6 < n := by
  obtain ⟨q, e, N, a1, a2, a3, a4, a5, a6, a7, a8, a9, a10, _⟩ := h
  rcases a10 with z | z
  · exact absurd z hk
  · rw [a4]; omega
theorem at_0 {n s : Nat} {SC SM : SS} (h : JO n s SC SM) : 0 ≤ SM 130 6 := by
  obtain ⟨q, e, N, a1, a2, a3, a4, _⟩ := h
  rw [a4]; omega
theorem term_loop {T U : Nat → Int} {n need d : Nat} {rcC rcM : Nat → Int → SS → Option SS} (ht : tp T U n) (ha : Sp T U n need false (rcC 6 d) (rcM 0 d)) : ∀ (m fc fm i s : Nat) (A SC SM : SS), 1 ≤ s → JX T U n s SC SM → Rd SC SM → (Ok SM → (n : Int) ≤ SM 130 6 + m ∧ Sg A SM (need + 1) false) → m < fc → m < fm → i + m ≤ 900 →
    ∃ SC' SM', fX3_term_L7 rcC d fc i SC = some SC' ∧ fX12_readTerm_L5 rcM d fm SM = some SM' ∧ JX T U n s SC' SM' ∧ FX SC SM SC' SM' ∧ (Ok SM' → Ok SM ∧ SM 130 6 ≤ SM' 130 6 ∧ Sg A SM' (need + 1) false) := by
  have hn := ht.1
  intro m
  induction m with
  | zero =>
    intro fc fm i s A SC SM hs hJ hR hA hc hf hi
    obtain ⟨fc, rfl⟩ := suc_of hc
    obtain ⟨fm, rfl⟩ := suc_of hf
    by_cases t : SM 130 11 = 0 ∧ SM 130 9 = 34
    · have o := Ok_k t (by decide)
      have := at_lt (JX_O hJ o) (by rw [t.2]; decide)
      have := (hA o).1
      omega
    · unfold fX3_term_L7 fX12_readTerm_L5
      rw [if_neg (show ¬ SC 19 5 = 42 from fun z => t ((JX_tok pr_34 hJ).mp z)), ite_self, eats_n t, bnd_s]
      exact ⟨SC, SM, rfl, rfl, hJ, FX_r, fun o => ⟨o, Int.le_refl _, (hA o).2⟩⟩
  | succ m ih =>
    intro fc fm i s A SC SM hs hJ hR hA hc hf hi
    obtain ⟨fc, rfl⟩ := suc_of hc
    obtain ⟨fm, rfl⟩ := suc_of hf
    by_cases t : SM 130 11 = 0 ∧ SM 130 9 = 34
    · have o := Ok_k t (by decide)
      obtain ⟨SC1, SM1, x1, x2, x3, x4, x5, x6, x7⟩ := adv_j ht hJ o (by rw [t.2]; decide)
      obtain ⟨SC2, SM2, y1, y2, y3, y4, y5⟩ := ha (s + 1) SC1 SM1 (by omega) x3 (Rd_f x4 hR)
      obtain ⟨SC3, SM3, z1, z2, z3, z4, z5, z6, z7⟩ := code_j (c := 2042) (m := 3002) ht (by unfold codeRel; omega) y3
      obtain ⟨SC4, SM4, w1, w2, w3, w4, w5⟩ := ih fc fm (i + 1) s A SC3 SM3 hs z3 (Rd_f (FX_t x4 (FX_t y4 z4)) hR) (fun o3 => by
        have o2 := Ok_130 z5 o3
        obtain ⟨_, p1, p2⟩ := y5 o2
        obtain ⟨p3, p4⟩ := hA o
        refine ⟨by rw [z5]; omega, Sg_2 p4 x5 p2 (z7 o2) (fun code a b c s1 s2 hc => seg_bin s1 s2 (by omega) (by omega) (by omega))⟩) (by omega) (by omega) (by omega)
      unfold fX3_term_L7 fX12_readTerm_L5
      rw [if_neg (show ¬ (900 : Int) ≤ i by omega), if_pos ((JX_tok pr_34 hJ).mpr t), x1, bnd_s, y1, bnd_s, z1, bnd_s, lt_ok, w32_k (by omega), eats_y t x2, bnd_s]
      simp only [if_true]
      rw [y2, bnd_s, z2, bnd_s]
      refine ⟨SC4, SM4, w1, w2, w3, FX_t x4 (FX_t y4 (FX_t z4 w4)), fun o4 => ?_⟩
      obtain ⟨o3, p1, p2⟩ := w5 o4
      have o2 := Ok_130 z5 o3
      rw [z5] at p1
      have p3 := (y5 o2).2.1
      exact ⟨o, by omega, p2⟩
    · unfold fX3_term_L7 fX12_readTerm_L5
      rw [if_neg (show ¬ SC 19 5 = 42 from fun z => t ((JX_tok pr_34 hJ).mp z)), ite_self, eats_n t, bnd_s]
      exact ⟨SC, SM, rfl, rfl, hJ, FX_r, fun o => ⟨o, Int.le_refl _, (hA o).2⟩⟩
theorem term_sp {T U : Nat → Int} {n need d : Nat} {rcC rcM : Nat → Int → SS → Option SS} (ht : tp T U n) (ha : Sp T U n need false (rcC 6 d) (rcM 0 d)) : Sp T U n (need + 1) false (fX3_term rcC d) (fX12_readTerm rcM d) := by
  have hn := ht.1
  intro s SC SM hs hJ hR
  obtain ⟨SC1, SM1, y1, y2, y3, y4, y5⟩ := ha s SC SM hs hJ hR
  obtain ⟨SC2, SM2, w1, w2, w3, w4, w5⟩ := term_loop ht ha n FU FU 0 s SM SC1 SM1 hs y3 (Rd_f y4 hR) (fun o => ⟨by have := at_0 (JX_O y3 o); omega, Sg_w (by omega) (y5 o).2.2⟩) (by unfold FU; omega) (by unfold FU; omega) (by omega)
  unfold fX3_term fX12_readTerm
  rw [y1, bnd_s, y2, bnd_s]
  have w1' : fX3_term_L7 rcC d FU 0 SC1 = some SC2 := w1
  rw [w1', bnd_s, w2, bnd_s]
  refine ⟨SC2, SM2, rfl, rfl, w3, FX_t y4 w4, fun o => ?_⟩
  obtain ⟨o1, p1, p2⟩ := w5 o
  obtain ⟨o0, p3, _⟩ := y5 o1
  exact ⟨o0, by omega, p2⟩
theorem both_loop {T U : Nat → Int} {n need d : Nat} {rcC rcM : Nat → Int → SS → Option SS} (ht : tp T U n) (ha : Sp T U n need true (rcC 2 d) (rcM 4 d)) : ∀ (m fc fm i s : Nat) (A SC SM : SS), 1 ≤ s → JX T U n s SC SM → Rd SC SM → (Ok SM → (n : Int) ≤ SM 130 6 + m ∧ Sg A SM (need + 1) true) → m < fc → m < fm → i + m ≤ 900 →
    ∃ SC' SM', fX3_both_L7 rcC d fc i SC = some SC' ∧ fX12_readBoth_L5 rcM d fm SM = some SM' ∧ JX T U n s SC' SM' ∧ FX SC SM SC' SM' ∧ (Ok SM' → Ok SM ∧ SM 130 6 ≤ SM' 130 6 ∧ Sg A SM' (need + 1) true) := by
  have hn := ht.1
  intro m
  induction m with
  | zero =>
    intro fc fm i s A SC SM hs hJ hR hA hc hf hi
    obtain ⟨fc, rfl⟩ := suc_of hc
    obtain ⟨fm, rfl⟩ := suc_of hf
    by_cases t : SM 130 11 = 0 ∧ SM 130 9 = 15
    · have o := Ok_k t (by decide)
      have := at_lt (JX_O hJ o) (by rw [t.2]; decide)
      have := (hA o).1
      omega
    · unfold fX3_both_L7 fX12_readBoth_L5
      rw [if_neg (show ¬ SC 19 5 = 1016 from fun z => t ((JX_tok pr_15 hJ).mp z)), ite_self, eats_n t, bnd_s]
      exact ⟨SC, SM, rfl, rfl, hJ, FX_r, fun o => ⟨o, Int.le_refl _, (hA o).2⟩⟩
  | succ m ih =>
    intro fc fm i s A SC SM hs hJ hR hA hc hf hi
    obtain ⟨fc, rfl⟩ := suc_of hc
    obtain ⟨fm, rfl⟩ := suc_of hf
    by_cases t : SM 130 11 = 0 ∧ SM 130 9 = 15
    · have o := Ok_k t (by decide)
      obtain ⟨SC1, SM1, x1, x2, x3, x4, x5, x6, x7⟩ := adv_j ht hJ o (by rw [t.2]; decide)
      obtain ⟨SC2, SM2, y1, y2, y3, y4, y5⟩ := ha (s + 1) SC1 SM1 (by omega) x3 (Rd_f x4 hR)
      obtain ⟨SC3, SM3, z1, z2, z3, z4, z5, z6, z7⟩ := code_j (c := 3016) (m := 3007) ht (by unfold codeRel; omega) y3
      obtain ⟨SC4, SM4, w1, w2, w3, w4, w5⟩ := ih fc fm (i + 1) s A SC3 SM3 hs z3 (Rd_f (FX_t x4 (FX_t y4 z4)) hR) (fun o3 => by
        have o2 := Ok_130 z5 o3
        obtain ⟨_, p1, p2⟩ := y5 o2
        obtain ⟨p3, p4⟩ := hA o
        refine ⟨by rw [z5]; omega, Sg_2 p4 x5 p2 (z7 o2) (fun code a b c s1 s2 hc => seg_log s1 s2 (by omega) (by omega) (by omega))⟩) (by omega) (by omega) (by omega)
      unfold fX3_both_L7 fX12_readBoth_L5
      rw [if_neg (show ¬ (900 : Int) ≤ i by omega), if_pos ((JX_tok pr_15 hJ).mpr t), x1, bnd_s, y1, bnd_s, z1, bnd_s, lt_ok, w32_k (by omega), eats_y t x2, bnd_s]
      simp only [if_true]
      rw [y2, bnd_s, z2, bnd_s]
      refine ⟨SC4, SM4, w1, w2, w3, FX_t x4 (FX_t y4 (FX_t z4 w4)), fun o4 => ?_⟩
      obtain ⟨o3, p1, p2⟩ := w5 o4
      have o2 := Ok_130 z5 o3
      rw [z5] at p1
      have p3 := (y5 o2).2.1
      exact ⟨o, by omega, p2⟩
    · unfold fX3_both_L7 fX12_readBoth_L5
      rw [if_neg (show ¬ SC 19 5 = 1016 from fun z => t ((JX_tok pr_15 hJ).mp z)), ite_self, eats_n t, bnd_s]
      exact ⟨SC, SM, rfl, rfl, hJ, FX_r, fun o => ⟨o, Int.le_refl _, (hA o).2⟩⟩
theorem both_sp {T U : Nat → Int} {n need d : Nat} {rcC rcM : Nat → Int → SS → Option SS} (ht : tp T U n) (ha : Sp T U n need true (rcC 2 d) (rcM 4 d)) : Sp T U n (need + 1) true (fX3_both rcC d) (fX12_readBoth rcM d) := by
  have hn := ht.1
  intro s SC SM hs hJ hR
  obtain ⟨SC1, SM1, y1, y2, y3, y4, y5⟩ := ha s SC SM hs hJ hR
  obtain ⟨SC2, SM2, w1, w2, w3, w4, w5⟩ := both_loop ht ha n FU FU 0 s SM SC1 SM1 hs y3 (Rd_f y4 hR) (fun o => ⟨by have := at_0 (JX_O y3 o); omega, Sg_w (by omega) (y5 o).2.2⟩) (by unfold FU; omega) (by unfold FU; omega) (by omega)
  unfold fX3_both fX12_readBoth
  rw [y1, bnd_s, y2, bnd_s]
  have w1' : fX3_both_L7 rcC d FU 0 SC1 = some SC2 := w1
  rw [w1', bnd_s, w2, bnd_s]
  refine ⟨SC2, SM2, rfl, rfl, w3, FX_t y4 w4, fun o => ?_⟩
  obtain ⟨o1, p1, p2⟩ := w5 o
  obtain ⟨o0, p3, _⟩ := y5 o1
  exact ⟨o0, by omega, p2⟩
theorem truth_loop {T U : Nat → Int} {n need d : Nat} {rcC rcM : Nat → Int → SS → Option SS} (ht : tp T U n) (ha : Sp T U n need true (rcC 1 d) (rcM 5 d)) : ∀ (m fc fm i s : Nat) (A SC SM : SS), 1 ≤ s → JX T U n s SC SM → Rd SC SM → (Ok SM → (n : Int) ≤ SM 130 6 + m ∧ Sg A SM (need + 1) true) → m < fc → m < fm → i + m ≤ 900 →
    ∃ SC' SM', fX3_truth_L7 rcC d fc i SC = some SC' ∧ fX12_readTruth_L5 rcM d fm SM = some SM' ∧ JX T U n s SC' SM' ∧ FX SC SM SC' SM' ∧ (Ok SM' → Ok SM ∧ SM 130 6 ≤ SM' 130 6 ∧ Sg A SM' (need + 1) true) := by
  have hn := ht.1
  intro m
  induction m with
  | zero =>
    intro fc fm i s A SC SM hs hJ hR hA hc hf hi
    obtain ⟨fc, rfl⟩ := suc_of hc
    obtain ⟨fm, rfl⟩ := suc_of hf
    by_cases t : SM 130 11 = 0 ∧ SM 130 9 = 16
    · have o := Ok_k t (by decide)
      have := at_lt (JX_O hJ o) (by rw [t.2]; decide)
      have := (hA o).1
      omega
    · unfold fX3_truth_L7 fX12_readTruth_L5
      rw [if_neg (show ¬ SC 19 5 = 1017 from fun z => t ((JX_tok pr_16 hJ).mp z)), ite_self, eats_n t, bnd_s]
      exact ⟨SC, SM, rfl, rfl, hJ, FX_r, fun o => ⟨o, Int.le_refl _, (hA o).2⟩⟩
  | succ m ih =>
    intro fc fm i s A SC SM hs hJ hR hA hc hf hi
    obtain ⟨fc, rfl⟩ := suc_of hc
    obtain ⟨fm, rfl⟩ := suc_of hf
    by_cases t : SM 130 11 = 0 ∧ SM 130 9 = 16
    · have o := Ok_k t (by decide)
      obtain ⟨SC1, SM1, x1, x2, x3, x4, x5, x6, x7⟩ := adv_j ht hJ o (by rw [t.2]; decide)
      obtain ⟨SC2, SM2, y1, y2, y3, y4, y5⟩ := ha (s + 1) SC1 SM1 (by omega) x3 (Rd_f x4 hR)
      obtain ⟨SC3, SM3, z1, z2, z3, z4, z5, z6, z7⟩ := code_j (c := 3017) (m := 3008) ht (by unfold codeRel; omega) y3
      obtain ⟨SC4, SM4, w1, w2, w3, w4, w5⟩ := ih fc fm (i + 1) s A SC3 SM3 hs z3 (Rd_f (FX_t x4 (FX_t y4 z4)) hR) (fun o3 => by
        have o2 := Ok_130 z5 o3
        obtain ⟨_, p1, p2⟩ := y5 o2
        obtain ⟨p3, p4⟩ := hA o
        refine ⟨by rw [z5]; omega, Sg_2 p4 x5 p2 (z7 o2) (fun code a b c s1 s2 hc => seg_log s1 s2 (by omega) (by omega) (by omega))⟩) (by omega) (by omega) (by omega)
      unfold fX3_truth_L7 fX12_readTruth_L5
      rw [if_neg (show ¬ (900 : Int) ≤ i by omega), if_pos ((JX_tok pr_16 hJ).mpr t), x1, bnd_s, y1, bnd_s, z1, bnd_s, lt_ok, w32_k (by omega), eats_y t x2, bnd_s]
      simp only [if_true]
      rw [y2, bnd_s, z2, bnd_s]
      refine ⟨SC4, SM4, w1, w2, w3, FX_t x4 (FX_t y4 (FX_t z4 w4)), fun o4 => ?_⟩
      obtain ⟨o3, p1, p2⟩ := w5 o4
      have o2 := Ok_130 z5 o3
      rw [z5] at p1
      have p3 := (y5 o2).2.1
      exact ⟨o, by omega, p2⟩
    · unfold fX3_truth_L7 fX12_readTruth_L5
      rw [if_neg (show ¬ SC 19 5 = 1017 from fun z => t ((JX_tok pr_16 hJ).mp z)), ite_self, eats_n t, bnd_s]
      exact ⟨SC, SM, rfl, rfl, hJ, FX_r, fun o => ⟨o, Int.le_refl _, (hA o).2⟩⟩
theorem truth_sp {T U : Nat → Int} {n need d : Nat} {rcC rcM : Nat → Int → SS → Option SS} (ht : tp T U n) (ha : Sp T U n need true (rcC 1 d) (rcM 5 d)) : Sp T U n (need + 1) true (fX3_truth rcC d) (fX12_readTruth rcM d) := by
  have hn := ht.1
  intro s SC SM hs hJ hR
  obtain ⟨SC1, SM1, y1, y2, y3, y4, y5⟩ := ha s SC SM hs hJ hR
  obtain ⟨SC2, SM2, w1, w2, w3, w4, w5⟩ := truth_loop ht ha n FU FU 0 s SM SC1 SM1 hs y3 (Rd_f y4 hR) (fun o => ⟨by have := at_0 (JX_O y3 o); omega, Sg_w (by omega) (y5 o).2.2⟩) (by unfold FU; omega) (by unfold FU; omega) (by omega)
  unfold fX3_truth fX12_readTruth
  rw [y1, bnd_s, y2, bnd_s]
  have w1' : fX3_truth_L7 rcC d FU 0 SC1 = some SC2 := w1
  rw [w1', bnd_s, w2, bnd_s]
  refine ⟨SC2, SM2, rfl, rfl, w3, FX_t y4 w4, fun o => ?_⟩
  obtain ⟨o1, p1, p2⟩ := w5 o
  obtain ⟨o0, p3, _⟩ := y5 o1
  exact ⟨o0, by omega, p2⟩
theorem sum_loop {T U : Nat → Int} {n need d : Nat} {rcC rcM : Nat → Int → SS → Option SS} (ht : tp T U n) (ha : Sp T U n need false (rcC 5 d) (rcM 2 d)) : ∀ (m fc fm i s : Nat) (A SC SM : SS), 1 ≤ s → JX T U n s SC SM → Rd SC SM → (Ok SM → (n : Int) ≤ SM 130 6 + m ∧ Sg A SM (need + 1) false) → m < fc → m < fm → i + m ≤ 900 →
    ∃ SC' SM', fX3_sum_L7 rcC d fc i SC = some SC' ∧ fX12_readSum_L5 rcM d fm SM = some SM' ∧ JX T U n s SC' SM' ∧ FX SC SM SC' SM' ∧ (Ok SM' → Ok SM ∧ SM 130 6 ≤ SM' 130 6 ∧ Sg A SM' (need + 1) false) := by
  have hn := ht.1
  intro m
  induction m with
  | zero =>
    intro fc fm i s A SC SM hs hJ hR hA hc hf hi
    obtain ⟨fc, rfl⟩ := suc_of hc
    obtain ⟨fm, rfl⟩ := suc_of hf
    by_cases t : SM 130 11 = 0 ∧ SM 130 9 = 32
    · have o := Ok_k t (by decide)
      have := at_lt (JX_O hJ o) (by rw [t.2]; decide)
      have := (hA o).1
      omega
    · by_cases t' : SM 130 11 = 0 ∧ SM 130 9 = 33
      · have o := Ok_k t' (by decide)
        have := at_lt (JX_O hJ o) (by rw [t'.2]; decide)
        have := (hA o).1
        omega
      · unfold fX3_sum_L7 fX12_readSum_L5
        rw [if_neg (show ¬ SC 19 5 = 43 from fun z => t ((JX_tok pr_32 hJ).mp z)), if_neg (show ¬ SC 19 5 = 45 from fun z => t' ((JX_tok pr_33 hJ).mp z)), ite_self, is_ok, bnd_s, if_neg (by rw [decide_eq_true_eq]; exact t), is_ok, bnd_s, if_neg (by rw [decide_eq_true_eq]; exact t')]
        exact ⟨SC, SM, rfl, rfl, hJ, FX_r, fun o => ⟨o, Int.le_refl _, (hA o).2⟩⟩
  | succ m ih =>
    intro fc fm i s A SC SM hs hJ hR hA hc hf hi
    obtain ⟨fc, rfl⟩ := suc_of hc
    obtain ⟨fm, rfl⟩ := suc_of hf
    have turn : ∀ (tok kd mc : Int), pairT tok kd → kd ≠ 24 → codeRel (2000 + tok) mc → 3000 ≤ mc ∧ mc < 3003 → SM 130 11 = 0 ∧ SM 130 9 = kd → ∃ SC1 SC2 SC3 SM1 SM2 SM3 SC' SM', fX3_advance SC = some SC1 ∧ rcC 5 d SC1 = some SC2 ∧ fX8_addCode 21 (2000 + tok) SC2 = some SC3 ∧ fX12_next SM = some SM1 ∧ rcM 2 d SM1 = some SM2 ∧ fX12_codes mc SM2 = some SM3 ∧ fX3_sum_L7 rcC d fc ((i + 1 : Nat) : Int) SC3 = some SC' ∧ fX12_readSum_L5 rcM d fm SM3 = some SM' ∧ JX T U n s SC' SM' ∧ FX SC SM SC' SM' ∧ (Ok SM' → Ok SM ∧ SM 130 6 ≤ SM' 130 6 ∧ Sg A SM' (need + 1) false) ∧ i < 900 := by
      intro tok kd mc hp hk hr hm t
      have o := Ok_k t hp.2.2
      obtain ⟨SC1, SM1, x1, x2, x3, x4, x5, x6, x7⟩ := adv_j ht hJ o (by rw [t.2]; exact hk)
      obtain ⟨SC2, SM2, y1, y2, y3, y4, y5⟩ := ha (s + 1) SC1 SM1 (by omega) x3 (Rd_f x4 hR)
      obtain ⟨SC3, SM3, z1, z2, z3, z4, z5, z6, z7⟩ := code_j (c := 2000 + tok) (m := mc) ht hr y3
      obtain ⟨SC4, SM4, w1, w2, w3, w4, w5⟩ := ih fc fm (i + 1) s A SC3 SM3 hs z3 (Rd_f (FX_t x4 (FX_t y4 z4)) hR) (fun o3 => by
        have o2 := Ok_130 z5 o3
        obtain ⟨_, p1, p2⟩ := y5 o2
        obtain ⟨p3, p4⟩ := hA o
        refine ⟨by rw [z5]; omega, Sg_2 p4 x5 p2 (z7 o2) (fun code a b c s1 s2 hc => seg_bin s1 s2 (by omega) (by omega) (by omega))⟩) (by omega) (by omega) (by omega)
      refine ⟨SC1, SC2, SC3, SM1, SM2, SM3, SC4, SM4, x1, y1, z1, x2, y2, z2, w1, w2, w3, FX_t x4 (FX_t y4 (FX_t z4 w4)), fun o4 => ?_, by omega⟩
      obtain ⟨o3, p1, p2⟩ := w5 o4
      have o2 := Ok_130 z5 o3
      rw [z5] at p1
      have p3 := (y5 o2).2.1
      exact ⟨o, by omega, p2⟩
    by_cases t : SM 130 11 = 0 ∧ SM 130 9 = 32
    · obtain ⟨SC1, SC2, SC3, SM1, SM2, SM3, SC4, SM4, x1, y1, z1, x2, y2, z2, w1, w2, w3, w4, w5, hi'⟩ := turn 43 32 3000 pr_32 (by decide) (by unfold codeRel; omega) (by omega) t
      have z1' : fX8_addCode 21 (w32 (2000 + 43)) SC2 = some SC3 := z1
      unfold fX3_sum_L7 fX12_readSum_L5
      rw [if_neg (show ¬ (900 : Int) ≤ i by omega), if_pos ((JX_tok pr_32 hJ).mpr t), lt_ok, (JX_tok pr_32 hJ).mpr t, x1, bnd_s, y1, bnd_s, z1', bnd_s, lt_ok, w32_k (by omega), is_ok, bnd_s, if_pos (decide_eq_true t), if_pos t.2, bnd_s, x2, bnd_s, y2, bnd_s, z2, bnd_s]
      exact ⟨SC4, SM4, w1, w2, w3, w4, w5⟩
    · by_cases t' : SM 130 11 = 0 ∧ SM 130 9 = 33
      · obtain ⟨SC1, SC2, SC3, SM1, SM2, SM3, SC4, SM4, x1, y1, z1, x2, y2, z2, w1, w2, w3, w4, w5, hi'⟩ := turn 45 33 3001 pr_33 (by decide) (by unfold codeRel; omega) (by omega) t'
        have z1' : fX8_addCode 21 (w32 (2000 + 45)) SC2 = some SC3 := z1
        unfold fX3_sum_L7 fX12_readSum_L5
        rw [if_neg (show ¬ (900 : Int) ≤ i by omega), if_neg (show ¬ SC 19 5 = 43 from fun z => t ((JX_tok pr_32 hJ).mp z)), if_pos ((JX_tok pr_33 hJ).mpr t'), lt_ok, (JX_tok pr_33 hJ).mpr t', x1, bnd_s, y1, bnd_s, z1', bnd_s, lt_ok, w32_k (by omega), is_ok, bnd_s, if_neg (by rw [decide_eq_true_eq]; exact t), is_ok, bnd_s, if_pos (decide_eq_true t'), if_neg (show ¬ SM 130 9 = 32 by omega), bnd_s, x2, bnd_s, y2, bnd_s, z2, bnd_s]
        exact ⟨SC4, SM4, w1, w2, w3, w4, w5⟩
      · unfold fX3_sum_L7 fX12_readSum_L5
        rw [if_neg (show ¬ SC 19 5 = 43 from fun z => t ((JX_tok pr_32 hJ).mp z)), if_neg (show ¬ SC 19 5 = 45 from fun z => t' ((JX_tok pr_33 hJ).mp z)), ite_self, is_ok, bnd_s, if_neg (by rw [decide_eq_true_eq]; exact t), is_ok, bnd_s, if_neg (by rw [decide_eq_true_eq]; exact t')]
        exact ⟨SC, SM, rfl, rfl, hJ, FX_r, fun o => ⟨o, Int.le_refl _, (hA o).2⟩⟩
theorem sum_sp {T U : Nat → Int} {n need d : Nat} {rcC rcM : Nat → Int → SS → Option SS} (ht : tp T U n) (ha : Sp T U n need false (rcC 5 d) (rcM 2 d)) : Sp T U n (need + 1) false (fX3_sum rcC d) (fX12_readSum rcM d) := by
  have hn := ht.1
  intro s SC SM hs hJ hR
  obtain ⟨SC1, SM1, y1, y2, y3, y4, y5⟩ := ha s SC SM hs hJ hR
  obtain ⟨SC2, SM2, w1, w2, w3, w4, w5⟩ := sum_loop ht ha n FU FU 0 s SM SC1 SM1 hs y3 (Rd_f y4 hR) (fun o => ⟨by have := at_0 (JX_O y3 o); omega, Sg_w (by omega) (y5 o).2.2⟩) (by unfold FU; omega) (by unfold FU; omega) (by omega)
  unfold fX3_sum fX12_readSum
  rw [y1, bnd_s, y2, bnd_s]
  have w1' : fX3_sum_L7 rcC d FU 0 SC1 = some SC2 := w1
  rw [w1', bnd_s, w2, bnd_s]
  refine ⟨SC2, SM2, rfl, rfl, w3, FX_t y4 w4, fun o => ?_⟩
  obtain ⟨o1, p1, p2⟩ := w5 o
  obtain ⟨o0, p3, _⟩ := y5 o1
  exact ⟨o0, by omega, p2⟩
