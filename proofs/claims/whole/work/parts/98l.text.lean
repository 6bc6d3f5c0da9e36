theorem JX_f {T U : Nat → Int} {n s s' : Nat} {SC SM : SS} (h : JX T U n s SC SM) (w : SM 130 11 ≠ 0) : JX T U n s' SC SM := by
  obtain ⟨hS, h | h | h⟩ := h
  · obtain ⟨q, e, N, a1, a2, _⟩ := h
    exact absurd a2 w
  · obtain ⟨q, N, a1, a2, a3, a4, _⟩ := h
    exact absurd a4 w
  · exact ⟨hS, Or.inr (Or.inr h)⟩
theorem exp_1 {T U : Nat → Int} {n s : Nat} {SC SM : SS} {c k : Int} (ht : tp T U n) (hp : pairT c k) (hk : k ≠ 24) (h : JX T U n s SC SM) : ∃ SC' SM' b SM1, fX3_expect c SC = some SC' ∧ fX12_eats k SM = some (b, SM1) ∧ (if b = true then some SM1 else Option.bind (fX12_fails 2 SM1) fun q => some q) = some SM' ∧ JX T U n (s + 1) SC' SM' ∧ FX SC SM SC' SM' ∧ SM' 134 = SM 134 ∧ (Ok SM' → Ok SM ∧ SM 130 6 < SM' 130 6) := by
  unfold fX3_expect fX12_eats
  by_cases t : SM 130 11 = 0 ∧ SM 130 9 = k
  · have o := Ok_k t hp.2.2
    obtain ⟨SC', SM', x1, x2, x3, x4, x5, x6, x7⟩ := adv_j ht h o (by rw [t.2]; exact hk)
    exact ⟨SC', SM', true, SM', by rw [if_pos ((JX_tok hp h).mpr t), x1, bnd_s], by rw [is_ok, bnd_s, if_pos (decide_eq_true t), x2, bnd_s], by rw [if_pos rfl], x3, x4, x5, fun _ => ⟨o, x7⟩⟩
  · obtain ⟨SC', SM', x1, x2, x3, x4, x5, x6⟩ := fail_j (f := 2) (by decide) h
    exact ⟨SC', SM', false, SM, by rw [if_neg (fun z => t ((JX_tok hp h).mp z)), x1, bnd_s], by rw [is_ok, bnd_s, if_neg (by rw [decide_eq_true_eq]; exact t)], by rw [if_neg (by decide), x2, bnd_s], JX_f x3 x6, x4, x5, fun o => absurd o.1 x6⟩
theorem lines_loop {T U : Nat → Int} {n : Nat} (ht : tp T U n) : ∀ (m fc fm i : Nat) (SC SM : SS), JX T U n 1 SC SM → (Ok SM → (n : Int) ≤ SM 130 6 + m ∧ DrQ 0 SC (SM 134) (SM 130 6)) → m < fc → m + 1 < fm → i + m ≤ 900 →
    ∃ SC' SM', fX3_read_L76 fc i SC = some SC' ∧ fX12_town_L83 fm SM = some SM' ∧ FM SM SM' ∧ SC' 19 9 = SM' 130 11 ∧ (SM' 130 11 = 0 → JX T U n 1 SC' SM' ∧ Ok SM' ∧ DrQ 0 SC' (SM' 134) (SM' 130 6)) ∧ (SM' 130 11 ≠ 0 → SC' 19 10 = SM' 130 12) := by
  have hn := ht.1
  intro m
  have stop : ∀ (fc fm i : Nat) (SC SM : SS), JX T U n 1 SC SM → ¬ (Ok SM ∧ SM 130 9 ≠ 24) → (Ok SM → DrQ 0 SC (SM 134) (SM 130 6)) → ∃ SC' SM', fX3_read_L76 (fc + 1) i SC = some SC' ∧ fX12_town_L83 (fm + 2) SM = some SM' ∧ FM SM SM' ∧ SC' 19 9 = SM' 130 11 ∧ (SM' 130 11 = 0 → JX T U n 1 SC' SM' ∧ Ok SM' ∧ DrQ 0 SC' (SM' 134) (SM' 130 6)) ∧ (SM' 130 11 ≠ 0 → SC' 19 10 = SM' 130 12) := by
    intro fc fm i SC SM hJ t hA
    unfold fX3_read_L76
    obtain ⟨_, h | h | h⟩ := id hJ
    · have o := JO_ok h
      have k24 : SM 130 9 = 24 := by
        by_cases z : SM 130 9 = 24
        · exact z
        · exact absurd ⟨o, z⟩ t
      unfold fX12_town_L83
      rw [if_pos ((JX_tok pr_24 hJ).mpr ⟨o.1, k24⟩), ite_self, if_pos o.1, if_pos k24]
      obtain ⟨q, e, N, a1, a2, _⟩ := h
      exact ⟨SC, SM, rfl, rfl, FM_m rfl, by rw [a1, a2], fun _ => ⟨hJ, o, hA o⟩, fun z => absurd a2 z⟩
    · obtain ⟨q, N, a1, a2, a3, a4, a5, a6, a7, a8, a9⟩ := h
      obtain ⟨SM1, h1⟩ : ∃ S, S = up (up SM 130 11 1) 130 12 (SM 130 6) := ⟨_, rfl⟩
      have w1 : SM1 130 11 = 1 := by rw [h1, up_k (by decide), up_self]
      have w2 : SM1 130 12 = q := by rw [h1, up_self, a6]
      have r1 : fX12_readLine SM = some SM1 := by
        unfold fX12_readLine
        rw [if_pos a4, is_ok, bnd_s, if_neg (by rw [decide_eq_true_eq]; omega), is_ok, bnd_s, if_neg (by rw [decide_eq_true_eq]; omega), eats_n (by omega), bnd_s]
        simp only [Bool.false_eq_true, if_false]
        rw [is_ok, bnd_s, if_neg (by rw [decide_eq_true_eq]; omega), is_ok, bnd_s, if_neg (by rw [decide_eq_true_eq]; omega), fails_0 a4, if_pos a5, bnd_s, h1]
      have r2 : fX12_ends SM1 = some (up SM1 134 0 (w32 (SM1 134 0 + 1))) := by
        unfold fX12_ends
        rw [mf_eats (by omega), bnd_s]
        simp only [Bool.false_eq_true, if_false]
        rw [fails_n (by omega), bnd_s, bnd_s, rd_0, wr_0]
      have v1 : up SM1 134 0 (w32 (SM1 134 0 + 1)) 130 11 = 1 := by rw [up_row (by decide)]; exact w1
      have v2 : up SM1 134 0 (w32 (SM1 134 0 + 1)) 130 12 = q := by rw [up_row (by decide)]; exact w2
      refine ⟨SC, up SM1 134 0 (w32 (SM1 134 0 + 1)), ?_, ?_, ?_, ?_, ?_, ?_⟩
      · rw [if_pos a3]
        rw [show (if SC 19 5 = 0 then some SC else some SC) = some SC from ite_self _, ite_self]
      · unfold fX12_town_L83
        rw [if_pos a4, if_neg (by omega), r1, bnd_s, r2, bnd_s]
        unfold fX12_town_L83
        rw [if_neg (by rw [v1]; decide)]
      · refine FM_t ?_ FM_u
        rw [h1]
        exact ⟨by rw [up_k (by decide), up_k (by decide)], by rw [up_k (by decide), up_k (by decide)]⟩
      · rw [v1]; exact a1
      · intro z; rw [v1] at z; exact absurd z (by decide)
      · intro _; rw [v2]; exact a2
    · refine ⟨SC, SM, ?_, ?_, FM_m rfl, h.1, fun z => absurd z h.2.1, fun _ => h.2.2.2⟩
      · rw [if_pos h.2.2.1]
        rw [show (if SC 19 5 = 0 then some SC else some SC) = some SC from ite_self _, ite_self]
      · unfold fX12_town_L83
        rw [if_neg h.2.1]
  induction m with
  | zero =>
    intro fc fm i SC SM hJ hA hc hf hi
    obtain ⟨fc, rfl⟩ : ∃ f, fc = f + 1 := ⟨fc - 1, by omega⟩
    obtain ⟨fm, rfl⟩ : ∃ f, fm = f + 2 := ⟨fm - 2, by omega⟩
    refine stop fc fm i SC SM hJ (fun t => ?_) (fun o => (hA o).2)
    have := at_lt (JX_O hJ t.1) t.2
    have := (hA t.1).1
    omega
  | succ m ih =>
    intro fc fm i SC SM hJ hA hc hf hi
    obtain ⟨fc, rfl⟩ : ∃ f, fc = f + 1 := ⟨fc - 1, by omega⟩
    by_cases t : Ok SM ∧ SM 130 9 ≠ 24
    · obtain ⟨o, hk⟩ := t
      obtain ⟨p1, p2⟩ := hA o
      obtain ⟨SC1, SM0, SM1, x1, x2, x3, x4, x5, x6⟩ := line_j ht hJ o hk p2
      obtain ⟨fm, rfl⟩ : ∃ f, fm = f + 1 := ⟨fm - 1, by omega⟩
      obtain ⟨SC2, SM2, y1, y2, y3, y4, y5, y6⟩ := ih fc fm (i + 1) SC1 SM1 x4 (fun o1 => ⟨by have := (x6 o1).1; omega, (x6 o1).2⟩) (by omega) (by omega) (by omega)
      have t0 : ¬ SC 19 5 = 0 := fun z => hk ((JX_tok pr_24 hJ).mp z).2
      have t1 : ¬ SC 19 5 = 1 := by
        obtain ⟨q, e, N, a1, a2, a3, a4, a5, a6, a7, _⟩ := JX_O hJ o
        exact (tok_b a7).1
      refine ⟨SC2, SM2, ?_, ?_, FM_t x5 y3, y4, y5, y6⟩
      · unfold fX3_read_L76
        rw [if_neg (show ¬ (900 : Int) ≤ i by omega), if_neg t0, if_neg t1, x1, bnd_s, lt_ok, w32_k (by omega)]
        exact y1
      · unfold fX12_town_L83
        rw [if_pos o.1, if_neg hk, x2, bnd_s, x3, bnd_s]
        exact y2
    · obtain ⟨fm, rfl⟩ : ∃ f, fm = f + 2 := ⟨fm - 2, by omega⟩
      exact stop fc fm i SC SM hJ t (fun o => (hA o).2)
theorem dr_start {SC : SS} {Q : Nat → Int} {p v : Int} (hv : 1 ≤ v ∧ v ≤ 6) (s5 : SC 21 5 = v) (s21 : ∀ j, j ≠ 5 → j ≠ 9 → 5 ≤ j → j ≤ 13 → SC 21 j = 0) (s26 : SC 26 3 = 0) (s27 : ∀ j, j < 8 → SC 27 j = 0) (s28 : ∀ j, j < 3 → SC 28 j = 0) (s29 : ∀ j, j < 3 → SC 29 j = 0) (q1 : Q 1 = v) (q : ∀ k, k < 200 → k ≠ 1 → Q k = 0) (hp : 0 ≤ p) : DrQ 0 SC Q p := by
  refine ⟨⟨?_, ?_, ?_, ?_⟩, ⟨?_, ?_, ?_, ?_⟩, fun s hs => ?_, fun s h8 hs => ?_, ⟨⟨fun x hx => ?_, fun x hx => ?_, fun x hx => ?_, ?_⟩, ⟨fun x hx => ?_, fun x hx => ?_, fun x hx => ?_, ?_⟩⟩, ⟨Or.inl ⟨?_, ?_⟩, Or.inl ⟨?_, ?_⟩⟩, ⟨Or.inl ?_, Or.inl ?_⟩, ?_⟩
  · rw [s5, q1]
  · rw [s21 6 (by decide) (by decide) (by decide) (by decide), q 2 (by decide) (by decide)]; rfl
  · rw [s21 7 (by decide) (by decide) (by decide) (by decide), q 3 (by decide) (by decide)]
  · rw [s21 8 (by decide) (by decide) (by decide) (by decide), q 0 (by decide) (by decide)]
  · rw [q1]; exact hv
  · rw [q 2 (by decide) (by decide)]; omega
  · rw [q 3 (by decide) (by decide)]; omega
  · rw [q 0 (by decide) (by decide)]; omega
  · rw [q 2 (by decide) (by decide)] at hs; omega
  · rw [q (26 + s) (by omega) (by omega), q (40 + s) (by omega) (by omega)]; exact ⟨rfl, rfl⟩
  · rw [q _ (by omega) (by omega)]; exact s28 x hx
  · rw [q _ (by omega) (by omega)]; exact s29 x hx
  · rw [q _ (by omega) (by omega)]; exact s27 x hx
  · rw [q _ (by omega) (by omega)]; exact s26
  · rw [q _ (by omega) (by omega), q1]; omega
  · rw [q _ (by omega) (by omega)]; omega
  · rw [q _ (by omega) (by omega)]; omega
  · rw [q _ (by omega) (by omega)]; omega
  · exact q 4 (by decide) (by decide)
  · rw [s21 10 (by decide) (by decide) (by decide) (by decide), s21 11 (by decide) (by decide) (by decide) (by decide)]
  · exact q 5 (by decide) (by decide)
  · rw [s21 12 (by decide) (by decide) (by decide) (by decide), s21 13 (by decide) (by decide) (by decide) (by decide)]
  · exact q 4 (by decide) (by decide)
  · exact q 5 (by decide) (by decide)
  · exact q 49 (by decide) (by decide)
theorem core_j {T U : Nat → Int} {n : Nat} {SC0 SM0 : SS} (ht : tp T U n) (cT : SC0 20 = T) (c3 : SC0 19 3 = n) (c4 : SC0 19 4 = 0) (c9 : SC0 19 9 = 0) (c10 : SC0 19 10 = -1) (s21 : ∀ j, 6 ≤ j → j ≤ 13 → SC0 21 j = 0) (s26 : SC0 26 3 = 0) (s27 : ∀ j, j < 8 → SC0 27 j = 0) (s28 : ∀ j, j < 3 → SC0 28 j = 0) (s29 : ∀ j, j < 3 → SC0 29 j = 0)
    (mU : SM0 133 = U) (m7 : SM0 130 7 = 0) (m8 : SM0 130 8 = n) (m11 : SM0 130 11 = 0) (q : ∀ k, k < 201 → k ≠ 1 → SM0 134 k = 0) :
    ∃ C1 C2 v C3 C4 C6 M1 b M2 M2' v' M3 M4 M6, fX3_advance SC0 = some C1 ∧ fX3_expect 1000 C1 = some C2 ∧ fX3_number 1 6 (-1) C2 = some (v, C3) ∧ fX3_expect 59 (up C3 21 5 v) = some C4 ∧ fX3_read_L76 FU 0 (up C4 21 8 1) = some C6
      ∧ fX12_next SM0 = some M1 ∧ fX12_eats 0 M1 = some (b, M2) ∧ (if b = true then some M2 else Option.bind (fX12_fails 2 M2) fun q => some q) = some M2' ∧ fX12_takes 1 6 M2' = some (v', M3) ∧ fX12_ends (up M3 134 1 v') = some M4 ∧ fX12_town_L83 FU M4 = some M6
      ∧ FM SM0 M6 ∧ C6 19 9 = M6 130 11 ∧ (M6 130 11 = 0 → JX T U n 1 C6 M6 ∧ Ok M6 ∧ DrQ 0 C6 (M6 134) (M6 130 6)) ∧ (M6 130 11 ≠ 0 → C6 19 10 = M6 130 12) := by
  have hn := ht.1
  obtain ⟨q', e', C1, M1, x1, x2, x3, x4, x5, x6, x7, x10, x8⟩ := lex_ok (p := 0) ht (by omega) c9 cT c3 c4 mU m8 m7
  have y11 : M1 130 11 = 0 := on1 x4 (by decide) m11
  have y134 : M1 134 = SM0 134 := x4.1 134 (by decide)
  have z21 : C1 21 = SC0 21 := x3.1 21 (by decide)
  have F1 : FX SC0 SM0 C1 M1 := FX_o x3 (only_m x4 (by decide))
  have e9 : C1 21 9 = ((0 : Nat) : Int) := by rw [z21]; exact s21 9 (by decide) (by decide)
  have e200 : M1 134 200 = ((0 : Nat) : Int) := by rw [y134]; exact q 200 (by decide) (by decide)
  have J1 : JX T U n 0 C1 M1 := by
    refine ⟨⟨(x3.1 20 (by decide)).trans cT, (x4.1 133 (by decide)).trans mU, on1 x3 (by decide) c3, on1 x4 (by decide) m8, by rw [e9]; decide, fun h => (x10 h).trans c10⟩, ?_⟩
    rcases x8 with ⟨p1, p2, p3, p4, p5, p6, p7⟩ | ⟨p1, p2, p3, p4⟩
    · exact Or.inl ⟨q', e', 0, p1, y11, p2, x7, p3, p4, p5, p6, x6, p7, e9, e200, by omega, fun k hk => by omega⟩
    · exact Or.inr (Or.inl ⟨q', 0, p1, p2, p3, y11, p4, x7, x6, e200, by omega⟩)
  obtain ⟨C2, M2', b, M2, e1, e2, e3, e4, e5, e6, e7⟩ := exp_1 ht pr_0 (by decide) J1
  obtain ⟨v, v', C3, M3, k1, k2, k3, k4, k5, k6⟩ := tk_j (lo := 1) (hi := 6) ht (by omega) e4
  have J3 : JX T U n 1 (up C3 21 5 v) (up M3 134 1 v') := JX_c21 (by omega) (JX_m (by omega) k3)
  have F3 := FX_t F1 (FX_t e5 k4)
  have m3 : M3 134 = SM0 134 := k5.trans (e6.trans y134)
  have D3 : Ok (up M3 134 1 v') → DrQ 0 (up C3 21 5 v) (up M3 134 1 v' 134) (up M3 134 1 v' 130 6) := by
    intro o3
    obtain ⟨o2, p1, p2, p3, p4⟩ := k6 (Ok_m.mp o3)
    have h0 := at_0 (JX_O J3 o3)
    refine dr_start (v := v) ⟨p2, p3⟩ up_self (fun j a1 a2 a3 a4 => ?_) ?_ (fun j hj => ?_) (fun j hj => ?_) (fun j hj => ?_) ?_ (fun k hk hk' => ?_) h0
    · rw [up_k a1, F3.2.2.1 j a2]; exact s21 j (by omega) a4
    · rw [up_row (by decide), F3.1 26 (by decide)]; exact s26
    · rw [up_row (by decide), F3.1 27 (by decide)]; exact s27 j hj
    · rw [up_row (by decide), F3.1 28 (by decide)]; exact s28 j hj
    · rw [up_row (by decide), F3.1 29 (by decide)]; exact s29 j hj
    · rw [up_self, p1]
    · rw [up_k hk', m3]; exact q k (by omega) hk'
  obtain ⟨C4, M4, r1, r2, r3, r4, r5, r6⟩ := ends_j ht J3 D3
  obtain ⟨C6, M6, w1, w2, w3, w4, w5, w6⟩ := lines_loop ht n FU FU 0 (up C4 21 8 1) M4 (r3 1) (fun o4 => by
    obtain ⟨o3, p1, p2, p3⟩ := r6 o4
    have h0 := at_0 (JX_O (r3 1) o4)
    rw [up_k (by decide), m3, q 0 (by decide) (by decide)] at p3
    exact ⟨by omega, p3⟩) (by unfold FU; omega) (by unfold FU; omega) (by omega)
  exact ⟨C1, C2, v, C3, C4, C6, M1, b, M2, M2', v', M3, M4, M6, x1, e1, k1, r1, w1, x2, e2, e3, k2, r2, w2, FM_t (FM_f F3) (FM_t FM_u (FM_t r4 w3)), w4, w5, w6⟩
