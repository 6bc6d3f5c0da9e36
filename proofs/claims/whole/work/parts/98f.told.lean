/-! numbers told -/
theorem takes_f {S : SS} {lo hi : Int} (h : S 130 11 ≠ 0) : fX12_takes lo hi S = some (S 130 10, S) := by
  unfold fX12_takes
  rw [is_ok, bnd_s, if_neg (by rw [decide_eq_true_eq]; exact fun z => h z.1), fails_n h, bnd_s, bnd_s, lt_ok, if_neg h, bnd_s]
theorem takes_b {S S' : SS} {lo hi : Int} (t : ¬ (S 130 11 = 0 ∧ S 130 9 = 23)) (hf : fX12_fails 2 S = some S') (hx : S' 130 11 ≠ 0) : fX12_takes lo hi S = some (S' 130 10, S') := by
  unfold fX12_takes
  rw [is_ok, bnd_s, if_neg (by rw [decide_eq_true_eq]; exact t), hf, bnd_s, bnd_s, lt_ok, if_neg hx, bnd_s]
theorem takes_r {S S' : SS} {lo hi : Int} (t : S 130 11 = 0 ∧ S 130 9 = 23) (hr : ¬ (lo ≤ S 130 10 ∧ S 130 10 ≤ hi)) (hf : fX12_fails 3 S = some S') (hx : S' 130 11 ≠ 0) : fX12_takes lo hi S = some (S' 130 10, S') := by
  unfold fX12_takes
  rw [is_ok, bnd_s, if_pos (decide_eq_true t), within_ok, bnd_s, if_neg (by rw [decide_eq_true_eq]; exact hr), hf, bnd_s, bnd_s, lt_ok, if_neg hx, bnd_s]
theorem takes_y {S S' : SS} {lo hi : Int} (t : S 130 11 = 0 ∧ S 130 9 = 23) (hr : lo ≤ S 130 10 ∧ S 130 10 ≤ hi) (hn : fX12_next S = some S') : fX12_takes lo hi S = some (S 130 10, S') := by
  unfold fX12_takes
  rw [is_ok, bnd_s, if_pos (decide_eq_true t), within_ok, bnd_s, if_pos (decide_eq_true hr), bnd_s, lt_ok, if_pos t.1, hn, bnd_s, bnd_s]
theorem numb_n {S S' : SS} {lo hi ba : Int} (t : ¬ S 19 5 = 256) (hf : fX3_fail 2 S = some S') : fX3_number lo hi ba S = some (0, S') := by
  unfold fX3_number
  rw [if_neg t, hf, bnd_s]
theorem numb_r {S S' : SS} {lo hi ba : Int} (t : S 19 5 = 256) (hr : S 19 7 < lo ∨ hi < S 19 7 ∨ S 19 7 = ba) (hf : fX3_fail 3 S = some S') : fX3_number lo hi ba S = some (0, S') := by
  unfold fX3_number
  rw [if_pos t]
  by_cases c1 : S 19 7 < lo
  · rw [if_pos c1, hf, bnd_s]
  rw [if_neg c1]
  by_cases c2 : hi < S 19 7
  · rw [if_pos c2, hf, bnd_s]
  rw [if_neg c2, if_pos (by omega), hf, bnd_s]
theorem numb_y {S S' : SS} {lo hi ba : Int} (t : S 19 5 = 256) (h1 : ¬ S 19 7 < lo) (h2 : ¬ hi < S 19 7) (h3 : ¬ S 19 7 = ba) (hn : fX3_advance S = some S') : fX3_number lo hi ba S = some (S 19 7, S') := by
  unfold fX3_number
  rw [if_pos t, if_neg h1, if_neg h2, if_neg h3, lt_ok, hn, bnd_s]
theorem val_j {T U : Nat → Int} {n s : Nat} {SC SM : SS} (hJ : JX T U n s SC SM) (t : SM 130 11 = 0 ∧ SM 130 9 = 23) : SC 19 7 = SM 130 10 ∧ 0 ≤ SM 130 10 := by
  obtain ⟨q, e, N, a1, a2, a3, a4, a5, a6, a7, a8, _⟩ := JX_O hJ (Ok_k t (by decide))
  have := a8 t.2
  exact ⟨this.1, this.2.1⟩
theorem tk_j {T U : Nat → Int} {n s : Nat} {SC SM : SS} {lo hi : Int} (ht : tp T U n) (h0 : 0 ≤ lo) (hJ : JX T U n s SC SM) : ∃ v v' SC' SM', fX3_number lo hi (-1) SC = some (v, SC') ∧ fX12_takes lo hi SM = some (v', SM') ∧ JX T U n s SC' SM' ∧ FX SC SM SC' SM' ∧ SM' 134 = SM 134 ∧ (Ok SM' → Ok SM ∧ v = v' ∧ lo ≤ v ∧ v ≤ hi ∧ SM 130 6 < SM' 130 6) := by
  by_cases t : SM 130 11 = 0 ∧ SM 130 9 = 23
  · have o := Ok_k t (by decide)
    have tc := (JX_tok pr_23 hJ).mpr t
    obtain ⟨v1, v2⟩ := val_j hJ t
    by_cases r : lo ≤ SM 130 10 ∧ SM 130 10 ≤ hi
    · obtain ⟨SC', SM', x1, x2, x3, x4, x5, x6, x7⟩ := adv_j ht hJ o (by rw [t.2]; decide)
      exact ⟨_, _, SC', SM', numb_y tc (by omega) (by omega) (by omega) x1, takes_y t r x2, JX_w (by omega) x3, x4, x5, fun _ => ⟨o, v1, by omega, by omega, x7⟩⟩
    · obtain ⟨SC', SM', x1, x2, x3, x4, x5, x6⟩ := fail_j (f := 3) (by decide) hJ
      exact ⟨_, _, SC', SM', numb_r tc (by omega) x1, takes_r t r x2 x6, x3, x4, x5, fun o' => absurd o'.1 x6⟩
  · obtain ⟨SC', SM', x1, x2, x3, x4, x5, x6⟩ := fail_j (f := 2) (by decide) hJ
    exact ⟨_, _, SC', SM', numb_n (fun z => t ((JX_tok pr_23 hJ).mp z)) x1, takes_b t x2 x6, x3, x4, x5, fun o' => absurd o'.1 x6⟩
/-- a number that must be unlike one told ahead -/
theorem tk2_j {T U : Nat → Int} {n s v1 : Nat} {SC SM : SS} {lo hi v : Int} (ht : tp T U n) (h0 : 0 ≤ lo) (hv1 : v1 < 8) (hJ : JX T U n s SC SM) (hv : Ok SM → v = SM 134 (10 + v1)) : ∃ w w' SC' SM' SM1, fX3_number lo hi v SC = some (w, SC')
    ∧ (if decide (SM 130 11 = 0 ∧ SM 130 9 = 23) = true then (rdA SM 134 1101 (w32 (10 + (v1 : Int))) fun v14 => if (SM 130 10) = v14 then (Option.bind (fX12_fails 3 SM) fun q16 => some q16) else (some SM)) else (some SM)) = some SM1
    ∧ fX12_takes lo hi SM1 = some (w', SM') ∧ SM1 134 = SM 134 ∧ JX T U n s SC' SM' ∧ FX SC SM SC' SM' ∧ SM' 134 = SM 134 ∧ (Ok SM' → Ok SM ∧ w = w' ∧ lo ≤ w ∧ w ≤ hi ∧ w ≠ v ∧ SM 130 6 < SM' 130 6) := by
  have ei : w32 (10 + (v1 : Int)) = ((10 + v1 : Nat) : Int) := by rw [w32_eq (by omega) (by omega)]; omega
  rw [ei, rdA_ok (by omega) (by omega), Int.toNat_natCast]
  clear ei
  by_cases t : SM 130 11 = 0 ∧ SM 130 9 = 23
  · have o := Ok_k t (by decide)
    have tc := (JX_tok pr_23 hJ).mpr t
    obtain ⟨x1, x2⟩ := val_j hJ t
    have hv' := hv o
    rw [if_pos (decide_eq_true t)]
    by_cases e : SM 130 10 = SM 134 (10 + v1)
    · obtain ⟨SC', SM', y1, y2, y3, y4, y5, y6⟩ := fail_j (f := 3) (by decide) hJ
      exact ⟨_, _, SC', SM', SM', numb_r tc (by omega) y1, by rw [if_pos e, y2, bnd_s], takes_f y6, y5, y3, y4, y5, fun o' => absurd o'.1 y6⟩
    · rw [if_neg e]
      by_cases r : lo ≤ SM 130 10 ∧ SM 130 10 ≤ hi
      · obtain ⟨SC', SM', y1, y2, y3, y4, y5, y6, y7⟩ := adv_j ht hJ o (by rw [t.2]; decide)
        exact ⟨_, _, SC', SM', SM, numb_y tc (by omega) (by omega) (by omega) y1, rfl, takes_y t r y2, rfl, JX_w (by omega) y3, y4, y5, fun _ => ⟨o, x1, by omega, by omega, by omega, y7⟩⟩
      · obtain ⟨SC', SM', y1, y2, y3, y4, y5, y6⟩ := fail_j (f := 3) (by decide) hJ
        exact ⟨_, _, SC', SM', SM, numb_r tc (by omega) y1, rfl, takes_r t r y2 y6, rfl, y3, y4, y5, fun o' => absurd o'.1 y6⟩
  · rw [if_neg (by rw [decide_eq_true_eq]; exact t)]
    obtain ⟨SC', SM', y1, y2, y3, y4, y5, y6⟩ := fail_j (f := 2) (by decide) hJ
    exact ⟨_, _, SC', SM', SM, numb_n (fun z => t ((JX_tok pr_23 hJ).mp z)) y1, rfl, takes_b t y2 y6, rfl, y3, y4, y5, fun o' => absurd o'.1 y6⟩
/-! what is written beside -/
theorem JX_wr {T U : Nat → Int} {n s : Nat} {SC SM SC' SM' : SS} (c19 : ∀ j, j ≠ 8 → SC' 19 j = SC 19 j) (c20 : SC' 20 = SC 20) (c21 : SC' 21 9 = SC 21 9) (c25 : SC' 25 = SC 25) (m130 : ∀ j, j ≠ 15 → SM' 130 j = SM 130 j) (m133 : SM' 133 = SM 133) (m134 : ∀ k, 200 ≤ k → SM' 134 k = SM 134 k) (h : JX T U n s SC SM) : JX T U n s SC' SM' := by
  unfold JX JS JO JB JF at h ⊢
  rw [c20, c21, c25, m133, m134 200 (by omega), c19 3 (by decide), c19 4 (by decide), c19 5 (by decide), c19 6 (by decide), c19 7 (by decide), c19 9 (by decide), c19 10 (by decide), m130 6 (by decide), m130 7 (by decide), m130 8 (by decide), m130 9 (by decide), m130 10 (by decide), m130 11 (by decide), m130 12 (by decide)]
  obtain ⟨a, b | b | b⟩ := h
  · obtain ⟨q, e, N, a1, a2, a3, a4, a5, a6, a7, a8, a9, a10, a11, a12, a13, a14⟩ := b
    exact ⟨a, Or.inl ⟨q, e, N, a1, a2, a3, a4, a5, a6, a7, a8, a9, a10, a11, a12, a13, fun k hk => by rw [m134 _ (by omega)]; exact a14 k hk⟩⟩
  · exact ⟨a, Or.inr (Or.inl b)⟩
  · exact ⟨a, Or.inr (Or.inr b)⟩
theorem Ok_wr {SM SM' : SS} (m130 : ∀ j, j ≠ 15 → SM' 130 j = SM 130 j) : Ok SM' ↔ Ok SM := by
  unfold Ok
  rw [m130 11 (by decide), m130 9 (by decide)]
def lawS (SC : SS) (Q : Nat → Int) : Prop := ((Q 4 = 0 ∧ SC 21 10 = SC 21 11) ∨ (Q 4 = 1 ∧ SC 21 10 = Q 6 ∧ SC 21 11 = Q 6 + Q 8)) ∧ ((Q 5 = 0 ∧ SC 21 12 = SC 21 13) ∨ (Q 5 = 1 ∧ SC 21 12 = Q 7 ∧ SC 21 13 = Q 7 + Q 9))
def strB (Q : Nat → Int) (s : Nat) : Prop := (0 ≤ Q (10 + s) ∧ Q (10 + s) < Q 1) ∧ (0 ≤ Q (18 + s) ∧ Q (18 + s) < Q 1) ∧ Q (10 + s) ≠ Q (18 + s) ∧ (-9 ≤ Q (26 + s) ∧ Q (26 + s) ≤ 9)
def strE (SC : SS) (Q : Nat → Int) (s : Nat) : Prop := SC 22 s = Q (10 + s) ∧ SC 23 s = Q (18 + s) ∧ SC 24 s = Q (26 + s)
def DrQ (ds : Nat) (SC : SS) (Q : Nat → Int) (p : Int) : Prop :=
  (SC 21 5 = Q 1 ∧ SC 21 6 = Q 2 + ds ∧ SC 21 7 = Q 3 ∧ SC 21 8 = Q 0)
  ∧ ((1 ≤ Q 1 ∧ Q 1 ≤ 6) ∧ (0 ≤ Q 2 ∧ Q 2 + ds ≤ 8) ∧ (0 ≤ Q 3 ∧ Q 3 ≤ 3) ∧ (0 ≤ Q 0 ∧ Q 0 ≤ p))
  ∧ (∀ s : Nat, (s : Int) < Q 2 + ds → strE SC Q s ∧ strB Q s)
  ∧ (∀ s : Nat, s < 8 → Q 2 + ds ≤ s → Q (26 + s) = 0 ∧ Q (40 + s) = 0)
  ∧ (stEq SC 26 Q 34 ∧ stBd Q 34 (Q 1)) ∧ lawS SC Q ∧ (lawB Q 0 false ∧ lawB Q 1 true) ∧ Q 49 = 0
theorem lawB_q {Q Q' : Nat → Int} {l : Nat} {b : Bool} (hl : l < 2) (e : ∀ k, k < 200 → Q' k = Q k) (h2 : Q 200 ≤ Q' 200) (hp : ∀ k : Nat, (k : Int) < Q 200 → Q' (201 + k) = Q (201 + k)) (h : lawB Q l b) : lawB Q' l b := by
  unfold lawB at h ⊢
  rw [e (4 + l) (by omega), e (6 + l) (by omega), e (8 + l) (by omega)]
  rcases h with h | ⟨h1, h3, h4, h5, ty, h6, h7⟩
  · exact Or.inl h
  · refine Or.inr ⟨h1, h3, h4, by omega, ty, ?_, h7⟩
    rw [← h6]
    have ec : ∀ k : Nat, k < (Q (8 + l)).toNat → codeP Q' l k = codeP Q l k := fun k hk => by
      unfold codeP
      rw [e (6 + l) (by omega), Nat.add_assoc, hp _ (by omega)]
    have e1 := @tyR_run (codeP Q' l) 0 (Q (8 + l)).toNat
    have e2 := @tyR_run (codeP Q l) 0 (Q (8 + l)).toNat
    simp only [Nat.zero_add] at e1 e2
    rw [show tyR (codeP Q' l) (Q (8 + l)).toNat = _ from e1, show tyR (codeP Q l) (Q (8 + l)).toNat = _ from e2]
    exact runS_e _ (fun k _ hk => ec k (by omega))
theorem DrQ_c {ds : Nat} {SC SC' : SS} {Q : Nat → Int} {p p' : Int} (f : ∀ a, (22 ≤ a ∧ a ≤ 24) ∨ (26 ≤ a ∧ a ≤ 29) → SC' a = SC a) (f21 : ∀ j, j ≠ 9 → SC' 21 j = SC 21 j) (hp : p ≤ p') (h : DrQ ds SC Q p) : DrQ ds SC' Q p' := by
  obtain ⟨⟨a1, a2, a3, a4⟩, ⟨b1, b2, b3, b4⟩, c, d, ⟨e1, e2⟩, g, i, j⟩ := h
  refine ⟨⟨by rw [f21 5 (by decide)]; exact a1, by rw [f21 6 (by decide)]; exact a2, by rw [f21 7 (by decide)]; exact a3, by rw [f21 8 (by decide)]; exact a4⟩, ⟨b1, b2, b3, b4.1, by omega⟩, fun s hs => ⟨?_, (c s hs).2⟩, d, ⟨stEq_fr (f 26 (by omega)) (f 27 (by omega)) (f 28 (by omega)) (f 29 (by omega)) e1, e2⟩, ?_, i, j⟩
  · unfold strE
    rw [f 22 (by omega), f 23 (by omega), f 24 (by omega)]
    exact (c s hs).1
  · unfold lawS
    rw [f21 10 (by decide), f21 11 (by decide), f21 12 (by decide), f21 13 (by decide)]
    exact g
theorem DrQ_q {ds : Nat} {SC : SS} {Q Q' : Nat → Int} {p : Int} (e : ∀ k, k < 200 → Q' k = Q k) (h2 : Q 200 ≤ Q' 200) (hp : ∀ k : Nat, (k : Int) < Q 200 → Q' (201 + k) = Q (201 + k)) (h : DrQ ds SC Q p) : DrQ ds SC Q' p := by
  obtain ⟨a, b, c, d, ⟨e1, e2⟩, g, i, j⟩ := h
  unfold DrQ strE strB lawS
  rw [e 0 (by omega), e 1 (by omega), e 2 (by omega), e 3 (by omega), e 4 (by omega), e 5 (by omega), e 6 (by omega), e 7 (by omega), e 8 (by omega), e 9 (by omega), e 49 (by omega)]
  refine ⟨a, b, fun s hs => ?_, fun s h8 hs => ?_, ⟨?_, ?_⟩, g, ⟨lawB_q (by omega) e h2 hp i.1, lawB_q (by omega) e h2 hp i.2⟩, j⟩
  · rw [e (10 + s) (by omega), e (18 + s) (by omega), e (26 + s) (by omega)]
    exact c s hs
  · rw [e (26 + s) (by omega), e (40 + s) (by omega)]
    exact d s h8 hs
  · refine ⟨fun x hx => ?_, fun x hx => ?_, fun x hx => ?_, ?_⟩
    · rw [e _ (by omega)]; exact e1.1 x hx
    · rw [e _ (by omega)]; exact e1.2.1 x hx
    · rw [e _ (by omega)]; exact e1.2.2.1 x hx
    · rw [e _ (by omega)]; exact e1.2.2.2
  · refine ⟨fun x hx => ?_, fun x hx => ?_, fun x hx => ?_, ?_⟩
    · rw [e _ (by omega)]; exact e2.1 x hx
    · rw [e _ (by omega)]; exact e2.2.1 x hx
    · rw [e _ (by omega)]; exact e2.2.2.1 x hx
    · rw [e _ (by omega)]; exact e2.2.2.2
/-- over steps that write no code -/
theorem DrQ_f {ds : Nat} {SC SM SC' SM' : SS} (f : FX SC SM SC' SM') (e : SM' 134 = SM 134) (hp : SM 130 6 ≤ SM' 130 6) (h : DrQ ds SC (SM 134) (SM 130 6)) : DrQ ds SC' (SM' 134) (SM' 130 6) := by
  rw [e]
  exact DrQ_c (fun a ha => f.1 a (by simp; omega)) f.2.2.1 hp h
def FM (SM SM' : SS) : Prop := SM' 130 0 = SM 130 0 ∧ SM' 130 5 = SM 130 5
theorem FM_f {SC SM SC' SM' : SS} (f : FX SC SM SC' SM') : FM SM SM' := ⟨f.2.2.2.2.1 0 (by decide), f.2.2.2.2.1 5 (by decide)⟩
theorem FM_t {A B C : SS} (h : FM A B) (g : FM B C) : FM A C := ⟨g.1.trans h.1, g.2.trans h.2⟩
theorem FM_m {A B : SS} (h : B 130 = A 130) : FM A B := ⟨by rw [h], by rw [h]⟩
theorem rd_0 {α : Type} {S : SS} {k : Int → Option α} : rdA S 134 1101 0 k = k (S 134 0) := rdA_ok (by decide) (by decide)
theorem rd_1 {α : Type} {S : SS} {k : Int → Option α} : rdA S 134 1101 1 k = k (S 134 1) := rdA_ok (by decide) (by decide)
theorem rd_2 {α : Type} {S : SS} {k : Int → Option α} : rdA S 134 1101 2 k = k (S 134 2) := rdA_ok (by decide) (by decide)
theorem rd_3 {α : Type} {S : SS} {k : Int → Option α} : rdA S 134 1101 3 k = k (S 134 3) := rdA_ok (by decide) (by decide)
theorem rd_200 {α : Type} {S : SS} {k : Int → Option α} : rdA S 134 1101 200 k = k (S 134 200) := rdA_ok (by decide) (by decide)
theorem wr_0 {α : Type} {S : SS} {v : Int} {k : SS → Option α} : wrA S 134 1101 0 v k = k (up S 134 0 v) := wrA_ok (by decide) (by decide)
theorem wr_1 {α : Type} {S : SS} {v : Int} {k : SS → Option α} : wrA S 134 1101 1 v k = k (up S 134 1 v) := wrA_ok (by decide) (by decide)
theorem wr_2 {α : Type} {S : SS} {v : Int} {k : SS → Option α} : wrA S 134 1101 2 v k = k (up S 134 2 v) := wrA_ok (by decide) (by decide)
theorem wr_3 {α : Type} {S : SS} {v : Int} {k : SS → Option α} : wrA S 134 1101 3 v k = k (up S 134 3 v) := wrA_ok (by decide) (by decide)
theorem wr_48 {α : Type} {S : SS} {v : Int} {k : SS → Option α} : wrA S 134 1101 48 v k = k (up S 134 48 v) := wrA_ok (by decide) (by decide)
theorem wr_i {α : Type} {S : SS} {v : Int} {a j : Nat} {k : SS → Option α} (h : a + j < 1101) : wrA S 134 1101 (w32 ((a : Int) + j)) v k = k (up S 134 (a + j) v) := by
  rw [show w32 ((a : Int) + j) = ((a + j : Nat) : Int) by rw [w32_eq (by omega) (by omega)]; omega, wrA_ok (by omega) (by omega), Int.toNat_natCast]
