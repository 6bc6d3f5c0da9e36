/-! both readers, side by side -/
def Ok (SM : SS) : Prop := SM 130 11 = 0 ∧ SM 130 9 ≠ 25
def JS (T U : Nat → Int) (n : Nat) (SC SM : SS) : Prop := SC 20 = T ∧ SM 133 = U ∧ SC 19 3 = n ∧ SM 130 8 = n ∧ 0 ≤ SC 21 9 ∧ (SC 19 9 = 0 → SC 19 10 = -1)
def JO (n s : Nat) (SC SM : SS) : Prop := ∃ q e N : Nat, SC 19 9 = 0 ∧ SM 130 11 = 0 ∧ SC 19 6 = q ∧ SM 130 6 = q ∧ SC 19 4 = e ∧ SM 130 7 = e ∧ tokRel (SC 19 5) (SM 130 9) ∧ (SM 130 9 = 23 → SC 19 7 = SM 130 10 ∧ 0 ≤ SM 130 10 ∧ SM 130 10 ≤ 999) ∧ q ≤ n ∧ (SM 130 9 = 24 ∨ (q < e ∧ e ≤ n)) ∧ SC 21 9 = N ∧ SM 134 200 = N ∧ N + s ≤ q ∧ ∀ k : Nat, k < N → codeRel (SC 25 k) (SM 134 (201 + k))
def JB (n s : Nat) (SC SM : SS) : Prop := ∃ q N : Nat, SC 19 9 = 1 ∧ SC 19 10 = q ∧ SC 19 5 = 1 ∧ SM 130 11 = 0 ∧ SM 130 9 = 25 ∧ SM 130 6 = q ∧ q ≤ n ∧ SM 134 200 = N ∧ N + s ≤ q
def JF (SC SM : SS) : Prop := SC 19 9 = SM 130 11 ∧ SM 130 11 ≠ 0 ∧ SC 19 5 = 1 ∧ SC 19 10 = SM 130 12
def JX (T U : Nat → Int) (n s : Nat) (SC SM : SS) : Prop := JS T U n SC SM ∧ (JO n s SC SM ∨ JB n s SC SM ∨ JF SC SM)
theorem JO_ok {n s : Nat} {SC SM : SS} (h : JO n s SC SM) : Ok SM := by
  obtain ⟨q, e, N, a1, a2, a3, a4, a5, a6, a7, _⟩ := h
  exact ⟨a2, (tok_b a7).2.2.2⟩
theorem JX_O {T U : Nat → Int} {n s : Nat} {SC SM : SS} (h : JX T U n s SC SM) (o : Ok SM) : JO n s SC SM := by
  obtain ⟨_, h | h | h⟩ := h
  · exact h
  · obtain ⟨q, N, a1, a2, a3, a4, a5, _⟩ := h
    exact absurd a5 o.2
  · exact absurd o.1 h.2.1
theorem JX_w {T U : Nat → Int} {n s s' : Nat} {SC SM : SS} (hs : s' ≤ s) (h : JX T U n s SC SM) : JX T U n s' SC SM := by
  obtain ⟨hS, h | h | h⟩ := h
  · obtain ⟨q, e, N, a1, a2, a3, a4, a5, a6, a7, a8, a9, a10, a11, a12, a13, a14⟩ := h
    exact ⟨hS, Or.inl ⟨q, e, N, a1, a2, a3, a4, a5, a6, a7, a8, a9, a10, a11, a12, by omega, a14⟩⟩
  · obtain ⟨q, N, a1, a2, a3, a4, a5, a6, a7, a8, a9⟩ := h
    exact ⟨hS, Or.inr (Or.inl ⟨q, N, a1, a2, a3, a4, a5, a6, a7, a8, by omega⟩)⟩
  · exact ⟨hS, Or.inr (Or.inr h)⟩
theorem JX_tok {T U : Nat → Int} {n s : Nat} {SC SM : SS} {c k : Int} (hp : pairT c k) (h : JX T U n s SC SM) : SC 19 5 = c ↔ (SM 130 11 = 0 ∧ SM 130 9 = k) := by
  obtain ⟨_, h | h | h⟩ := h
  · obtain ⟨q, e, N, a1, a2, a3, a4, a5, a6, a7, _⟩ := h
    rw [hp.1 _ _ a7]
    exact ⟨fun z => ⟨a2, z⟩, fun z => z.2⟩
  · obtain ⟨q, N, a1, a2, a3, a4, a5, _⟩ := h
    rw [a3, a5]
    exact ⟨fun z => absurd z.symm hp.2.1, fun z => absurd z.2.symm hp.2.2⟩
  · rw [h.2.2.1]
    exact ⟨fun z => absurd z.symm hp.2.1, fun z => absurd z.1 h.2.1⟩
theorem Ok_k {SM : SS} {k : Int} (h : SM 130 11 = 0 ∧ SM 130 9 = k) (hk : k ≠ 25) : Ok SM := ⟨h.1, by rw [h.2]; exact hk⟩
theorem is_ok {S : SS} {k : Int} : fX12_is k S = some (decide (S 130 11 = 0 ∧ S 130 9 = k)) := by
  unfold fX12_is
  by_cases a : S 130 11 = 0
  · rw [if_pos a]
    by_cases b : S 130 9 = k
    · rw [if_pos b, decide_eq_true ⟨a, b⟩]
    · rw [if_neg b, decide_eq_false (fun z => b z.2)]
  · rw [if_neg a, decide_eq_false (fun z => a z.1)]
/-- what a reading of sums and truths leaves as it is -/
def FX (SC SM SC' SM' : SS) : Prop := (∀ a, a ∉ [19, 21, 25] → SC' a = SC a) ∧ (∀ j, j ∉ [4, 5, 6, 7, 9, 10] → SC' 19 j = SC 19 j) ∧ (∀ j, j ≠ 9 → SC' 21 j = SC 21 j)
  ∧ (∀ a, a ∉ [130, 134] → SM' a = SM a) ∧ (∀ j, j ∉ [6, 7, 9, 10, 11, 12] → SM' 130 j = SM 130 j) ∧ (∀ k, k < 200 → SM' 134 k = SM 134 k)
theorem FX_r {SC SM : SS} : FX SC SM SC SM := ⟨fun _ _ => rfl, fun _ _ => rfl, fun _ _ => rfl, fun _ _ => rfl, fun _ _ => rfl, fun _ _ => rfl⟩
theorem FX_t {A B C D E F : SS} (h : FX A B C D) (g : FX C D E F) : FX A B E F := ⟨fun a ha => (g.1 a ha).trans (h.1 a ha), fun a ha => (g.2.1 a ha).trans (h.2.1 a ha), fun a ha => (g.2.2.1 a ha).trans (h.2.2.1 a ha), fun a ha => (g.2.2.2.1 a ha).trans (h.2.2.2.1 a ha), fun a ha => (g.2.2.2.2.1 a ha).trans (h.2.2.2.2.1 a ha), fun a ha => (g.2.2.2.2.2 a ha).trans (h.2.2.2.2.2 a ha)⟩
theorem FX_o {SC SM SC' SM' : SS} (h : only 19 [4, 5, 6, 7, 9, 10] SC SC') (g : only 130 [6, 7, 9, 10, 11, 12] SM SM') : FX SC SM SC' SM' := ⟨fun a ha => h.1 a (fun e => ha (by rw [e]; decide)), h.2, fun j _ => by rw [h.1 21 (by decide)], fun a ha => g.1 a (fun e => ha (by rw [e]; decide)), g.2, fun k _ => by rw [g.1 134 (by decide)]⟩
def Rd (SC SM : SS) : Prop := SC 19 8 = SM 130 15 ∧ (SC 19 8 = 0 ∨ SC 19 8 = 1)
theorem Rd_f {SC SM SC' SM' : SS} (h : FX SC SM SC' SM') (r : Rd SC SM) : Rd SC' SM' := by
  have e1 := h.2.1 8 (by decide)
  have e2 := h.2.2.2.2.1 15 (by decide)
  unfold Rd
  rw [e1, e2]
  exact r
theorem adv_j {T U : Nat → Int} {n s : Nat} {SC SM : SS} (ht : tp T U n) (h : JX T U n s SC SM) (o : Ok SM) (hk : SM 130 9 ≠ 24) : ∃ SC' SM', fX3_advance SC = some SC' ∧ fX12_next SM = some SM' ∧ JX T U n (s + 1) SC' SM' ∧ FX SC SM SC' SM' ∧ SM' 134 = SM 134 ∧ SM' 130 11 = 0 ∧ SM 130 6 < SM' 130 6 := by
  obtain ⟨q, e, N, a1, a2, a3, a4, a5, a6, a7, a8, a9, a10, a11, a12, a13, a14⟩ := JX_O h o
  obtain ⟨b1, b2, b3, b4, b5, b6⟩ := h.1
  obtain ⟨r1, r2⟩ : q < e ∧ e ≤ n := by
    rcases a10 with z | z
    · exact absurd z hk
    · exact z
  obtain ⟨q', e', SC', SM', x1, x2, x3, x4, x5, x6, x7, x10, x8⟩ := lex_ok ht r2 a1 b1 b3 a5 b2 b4 a6
  have y11 : SM' 130 11 = 0 := on1 x4 (by decide) a2
  have y134 : SM' 134 = SM 134 := x4.1 134 (by decide)
  have z21 : SC' 21 = SC 21 := x3.1 21 (by decide)
  have z25 : SC' 25 = SC 25 := x3.1 25 (by decide)
  refine ⟨SC', SM', x1, x2, ⟨⟨(x3.1 20 (by decide)).trans b1, (x4.1 133 (by decide)).trans b2, on1 x3 (by decide) b3, on1 x4 (by decide) b4, by rw [z21]; exact b5, fun h => (x10 h).trans (b6 a1)⟩, ?_⟩, FX_o x3 (only_m x4 (by decide)), y134, y11, by rw [a4, x7]; omega⟩
  rcases x8 with ⟨p1, p2, p3, p4, p5, p6, p7⟩ | ⟨p1, p2, p3, p4⟩
  · refine Or.inl ⟨q', e', N, p1, y11, p2, x7, p3, p4, p5, p6, x6, p7, by rw [z21]; exact a11, by rw [y134]; exact a12, by omega, fun k hk => ?_⟩
    rw [z25, y134]; exact a14 k hk
  · exact Or.inr (Or.inl ⟨q', N, p1, p2, p3, y11, p4, x7, x6, by rw [y134]; exact a12, by omega⟩)
theorem fails_0 {S : SS} {f : Int} (h : S 130 11 = 0) : fX12_fails f S = some (up (up S 130 11 (if S 130 9 = 25 then 1 else f)) 130 12 (S 130 6)) := by
  unfold fX12_fails
  rw [if_pos h]
  by_cases c : S 130 9 = 25
  · rw [if_pos c, bnd_s, lt_ok, lt_ok, up_at, if_neg (show ¬ (6 : Nat) = 11 by decide), if_pos c]
  · rw [if_neg c, bnd_s, lt_ok, lt_ok, up_at, if_neg (show ¬ (6 : Nat) = 11 by decide), if_neg c]
theorem fails_n {S : SS} {f : Int} (h : S 130 11 ≠ 0) : fX12_fails f S = some S := by
  unfold fX12_fails
  rw [if_neg h]
theorem fail_j {T U : Nat → Int} {n s : Nat} {SC SM : SS} {f : Int} (hf : f ≠ 0) (h : JX T U n s SC SM) : ∃ SC' SM', fX3_fail f SC = some SC' ∧ fX12_fails f SM = some SM' ∧ JX T U n s SC' SM' ∧ FX SC SM SC' SM' ∧ SM' 134 = SM 134 ∧ SM' 130 11 ≠ 0 := by
  obtain ⟨⟨b1, b2, b3, b4, b5, b6⟩, h | h | h⟩ := h
  · obtain ⟨q, e, N, a1, a2, a3, a4, a5, a6, a7, _⟩ := h
    have a25 := (tok_b a7).2.2.2
    have o2 : only 130 [6, 7, 9, 10, 11, 12] SM (up (up SM 130 11 f) 130 12 (SM 130 6)) := only_t (only_u (by decide)) (only_u (by decide))
    have e11 : up (up SM 130 11 f) 130 12 (SM 130 6) 130 11 = f := by rw [up_at, if_neg (by decide), up_self]
    have fo := failC_o (S := SC) (f := f)
    refine ⟨failC f SC, up (up SM 130 11 f) 130 12 (SM 130 6), fail_0 a1, by rw [fails_0 a2, if_neg a25], ⟨⟨(fo.1 20 (by decide)).trans b1, (o2.1 133 (by decide)).trans b2, on1 fo (by decide) b3, on1 o2 (by decide) b4, by rw [fo.1 21 (by decide)]; exact b5, fun h => absurd (failC_9.symm.trans h) hf⟩, Or.inr (Or.inr ⟨?_, ?_, failC_5, ?_⟩)⟩, FX_o fo o2, o2.1 134 (by decide), by rw [e11]; exact hf⟩
    · rw [failC_9, e11]
    · rw [e11]; exact hf
    · rw [failC_10, up_self, a3, a4]
  · obtain ⟨q, N, a1, a2, a3, a4, a5, a6, a7, a8, a9⟩ := h
    have o2 : only 130 [6, 7, 9, 10, 11, 12] SM (up (up SM 130 11 1) 130 12 (SM 130 6)) := only_t (only_u (by decide)) (only_u (by decide))
    have e11 : up (up SM 130 11 1) 130 12 (SM 130 6) 130 11 = 1 := by rw [up_at, if_neg (by decide), up_self]
    refine ⟨SC, up (up SM 130 11 1) 130 12 (SM 130 6), fail_n (by omega), by rw [fails_0 a4, if_pos a5], ⟨⟨b1, (o2.1 133 (by decide)).trans b2, b3, on1 o2 (by decide) b4, b5, b6⟩, Or.inr (Or.inr ⟨?_, ?_, a3, ?_⟩)⟩, FX_o only_r o2, o2.1 134 (by decide), by rw [e11]; decide⟩
    · rw [a1, e11]
    · rw [e11]; decide
    · rw [up_self, a2, a6]
  · exact ⟨SC, SM, fail_n (by rw [h.1]; exact h.2.1), fails_n h.2.1, ⟨⟨b1, b2, b3, b4, b5, b6⟩, Or.inr (Or.inr h)⟩, FX_r, rfl, h.2.1⟩
theorem exp_j {T U : Nat → Int} {n s : Nat} {SC SM : SS} {c k : Int} (ht : tp T U n) (hp : pairT c k) (hk : k ≠ 24) (h : JX T U n s SC SM) : ∃ SC' SM' b SM1, fX3_expect c SC = some SC' ∧ fX12_eats k SM = some (b, SM1) ∧ (if b = true then some SM1 else Option.bind (fX12_fails 2 SM1) fun q => some q) = some SM' ∧ JX T U n s SC' SM' ∧ FX SC SM SC' SM' ∧ SM' 134 = SM 134 ∧ (Ok SM' → Ok SM ∧ SM 130 6 < SM' 130 6) := by
  unfold fX3_expect fX12_eats
  by_cases t : SM 130 11 = 0 ∧ SM 130 9 = k
  · have o := Ok_k t hp.2.2
    obtain ⟨SC', SM', x1, x2, x3, x4, x5, x6, x7⟩ := adv_j ht h o (by rw [t.2]; exact hk)
    exact ⟨SC', SM', true, SM', by rw [if_pos ((JX_tok hp h).mpr t), x1, bnd_s], by rw [is_ok, bnd_s, if_pos (decide_eq_true t), x2, bnd_s], by rw [if_pos rfl], JX_w (by omega) x3, x4, x5, fun _ => ⟨o, x7⟩⟩
  · obtain ⟨SC', SM', x1, x2, x3, x4, x5, x6⟩ := fail_j (f := 2) (by decide) h
    exact ⟨SC', SM', false, SM, by rw [if_neg (fun z => t ((JX_tok hp h).mp z)), x1, bnd_s], by rw [is_ok, bnd_s, if_neg (by rw [decide_eq_true_eq]; exact t)], by rw [if_neg (by decide), x2, bnd_s], x3, x4, x5, fun o => absurd o.1 x6⟩
def Cd (D E : SS) (m : Int) : Prop := ∃ N : Nat, D 134 200 = N ∧ E 134 200 = ((N + 1 : Nat) : Int) ∧ E 134 (201 + N) = m ∧ ∀ k, k < N → E 134 (201 + k) = D 134 (201 + k)
theorem code_j {T U : Nat → Int} {n s : Nat} {SC SM : SS} {c m : Int} (ht : tp T U n) (hr : codeRel c m) (h : JX T U n (s + 1) SC SM) : ∃ SC' SM', fX8_addCode 21 c SC = some SC' ∧ fX12_codes m SM = some SM' ∧ JX T U n s SC' SM' ∧ FX SC SM SC' SM' ∧ SM' 130 = SM 130 ∧ SC' 19 = SC 19 ∧ (Ok SM → Cd SM SM' m) := by
  have hn := ht.1
  obtain ⟨⟨b1, b2, b3, b4, b5, b6⟩, h⟩ := h
  have hC : ∃ SC', fX8_addCode 21 c SC = some SC' ∧ SC' 19 = SC 19 ∧ SC' 20 = SC 20 ∧ 0 ≤ SC' 21 9 ∧ (∀ a, a ∉ [19, 21, 25] → SC' a = SC a) ∧ (∀ j, j ≠ 9 → SC' 21 j = SC 21 j) ∧ (SC 21 9 < 900 → SC' 21 9 = SC 21 9 + 1 ∧ ∀ k, SC' 25 k = if k = (SC 21 9).toNat then c else SC 25 k) := by
    unfold fX8_addCode
    by_cases z : 900 ≤ SC 21 9
    · rw [if_pos z]
      exact ⟨SC, rfl, rfl, rfl, b5, fun _ _ => rfl, fun _ _ => rfl, fun z' => by omega⟩
    · rw [if_neg z, wrA_ok b5 (by omega), lt_ok]
      refine ⟨_, rfl, ?_, ?_, ?_, fun a ha => ?_, fun j hj => ?_, fun _ => ⟨?_, fun k => ?_⟩⟩
      · rw [up_row (by decide), up_row (by decide)]
      · rw [up_row (by decide), up_row (by decide)]
      · rw [up_self, up_row (by decide), w32_eq (by omega) (by omega)]; omega
      · rw [up_row (fun e => ha (by rw [e]; decide)), up_row (fun e => ha (by rw [e]; decide))]
      · rw [up_at, if_neg hj, up_row (by decide)]
      · rw [up_self, up_row (by decide), w32_eq (by omega) (by omega)]
      · rw [up_row (by decide), up_at]
  obtain ⟨SC', c1, c2, c3, c4, c5, c6, c7⟩ := hC
  have hM : ∀ N : Nat, SM 130 11 = 0 → SM 134 200 = N → N < 900 → ∃ SM', fX12_codes m SM = some SM' ∧ SM' 130 = SM 130 ∧ (∀ a, a ≠ 134 → SM' a = SM a) ∧ SM' 134 200 = ((N + 1 : Nat) : Int) ∧ ∀ k, k ≠ 200 → SM' 134 k = if k = 201 + N then m else SM 134 k := by
    intro N w hN hl
    unfold fX12_codes
    rw [if_pos w, rdA_ok (by decide) (by decide), show SM 134 (200 : Int).toNat = SM 134 200 from rfl, hN, show w32 (201 + (N : Int)) = ((201 + N : Nat) : Int) by rw [w32_eq (by omega) (by omega)]; omega, wrA_ok (by omega) (by omega), Int.toNat_natCast, rdA_ok (by decide) (by decide), wrA_ok (by decide) (by decide)]
    refine ⟨_, rfl, ?_, fun a ha => ?_, ?_, fun k hk => ?_⟩
    · rw [up_row (by decide), up_row (by decide)]
    · rw [up_row ha, up_row ha]
    · show up (up SM 134 (201 + N) m) 134 200 _ 134 200 = _
      rw [up_self]
      show w32 (up SM 134 (201 + N) m 134 200 + 1) = _
      rw [up_at, if_neg (by omega), hN, w32_k (by omega)]
    · show up (up SM 134 (201 + N) m) 134 200 _ 134 k = _
      rw [up_at, if_neg hk, up_at]
  rcases h with h | h | h
  · obtain ⟨q, e, N, a1, a2, a3, a4, a5, a6, a7, a8, a9, a10, a11, a12, a13, a14⟩ := h
    obtain ⟨SM', m1, m2, m3, m4, m5⟩ := hM N a2 a12 (by omega)
    obtain ⟨d1, d2⟩ := c7 (by omega)
    refine ⟨SC', SM', c1, m1, ⟨⟨c3.trans b1, (m3 133 (by decide)).trans b2, by rw [c2]; exact b3, by rw [m2]; exact b4, c4, by rw [c2]; exact b6⟩, Or.inl ⟨q, e, N + 1, by rw [c2]; exact a1, by rw [m2]; exact a2, by rw [c2]; exact a3, by rw [m2]; exact a4, by rw [c2]; exact a5, by rw [m2]; exact a6, by rw [c2, m2]; exact a7, by rw [c2, m2]; exact a8, a9, by rw [m2]; exact a10, by rw [d1]; omega, m4, by omega, fun k hk => ?_⟩⟩, ⟨c5, fun j _ => by rw [c2], c6, fun a ha => m3 a (fun e => ha (by rw [e]; decide)), fun j _ => by rw [m2], fun k hk => by rw [m5 k (by omega), if_neg (by omega)]⟩, m2, c2, fun _ => ⟨N, a12, m4, by rw [m5 _ (by omega), if_pos rfl], fun k hk => by rw [m5 _ (by omega), if_neg (by omega)]⟩⟩
    rw [d2, m5 _ (by omega), a11, Int.toNat_natCast]
    by_cases z : k = N
    · rw [if_pos z, if_pos (by omega)]; exact hr
    · rw [if_neg z, if_neg (by omega)]; exact a14 k (by omega)
  · obtain ⟨q, N, a1, a2, a3, a4, a5, a6, a7, a8, a9⟩ := h
    obtain ⟨SM', m1, m2, m3, m4, m5⟩ := hM N a4 a8 (by omega)
    exact ⟨SC', SM', c1, m1, ⟨⟨c3.trans b1, (m3 133 (by decide)).trans b2, by rw [c2]; exact b3, by rw [m2]; exact b4, c4, by rw [c2]; exact b6⟩, Or.inr (Or.inl ⟨q, N + 1, by rw [c2]; exact a1, by rw [c2]; exact a2, by rw [c2]; exact a3, by rw [m2]; exact a4, by rw [m2]; exact a5, by rw [m2]; exact a6, a7, m4, by omega⟩)⟩, ⟨c5, fun j _ => by rw [c2], c6, fun a ha => m3 a (fun e => ha (by rw [e]; decide)), fun j _ => by rw [m2], fun k hk => by rw [m5 k (by omega), if_neg (by omega)]⟩, m2, c2, fun o => absurd a5 o.2⟩
  · refine ⟨SC', SM, c1, ?_, ⟨⟨c3.trans b1, b2, by rw [c2]; exact b3, b4, c4, by rw [c2]; exact b6⟩, Or.inr (Or.inr (by unfold JF; rw [c2]; exact h))⟩, ⟨c5, fun j _ => by rw [c2], c6, fun _ _ => rfl, fun _ _ => rfl, fun _ _ => rfl⟩, rfl, c2, fun o => absurd o.1 h.2.1⟩
    unfold fX12_codes
    rw [if_neg h.2.1]
theorem goes_j {T U : Nat → Int} {n s d : Nat} {SC SM : SS} (ht : tp T U n) (hd : d ≤ 6) (h : JX T U n s SC SM) (o : Ok SM) (hk : SM 130 9 ≠ 24) :
    (∃ SC' SM', fX3_goesDeeper d SC = some (false, SC') ∧ fX12_goesIn d SM = some (false, SM') ∧ JX T U n s SC' SM' ∧ FX SC SM SC' SM' ∧ SM' 130 11 ≠ 0) ∨
    (d < 6 ∧ ∃ SC' SM', fX3_goesDeeper d SC = some (true, SC') ∧ fX12_goesIn d SM = some (true, SM') ∧ JX T U n (s + 1) SC' SM' ∧ FX SC SM SC' SM' ∧ SM' 134 = SM 134 ∧ SM 130 6 < SM' 130 6) := by
  unfold fX3_goesDeeper fX12_goesIn
  by_cases z : d = 6
  · subst z
    obtain ⟨SC', SM', x1, x2, x3, x4, x5, x6⟩ := fail_j (f := 4) (by decide) h
    refine Or.inl ⟨SC', SM', ?_, ?_, x3, x4, x6⟩
    · rw [if_neg (by decide), x1, bnd_s]
    · rw [if_pos (show ((6 : Nat) : Int) = 6 from rfl), x2, bnd_s, bnd_s, if_neg x6, bnd_s, if_neg x6]
  · obtain ⟨SC', SM', x1, x2, x3, x4, x5, x6, x7⟩ := adv_j ht h o hk
    refine Or.inr ⟨by omega, SC', SM', ?_, ?_, x3, x4, x5, x7⟩
    · rw [if_pos (by omega), x1, bnd_s]
    · rw [if_neg (by omega), bnd_s, if_pos o.1, x2, bnd_s, bnd_s, if_pos x6]
/-! segments of code, their types -/
def runS (code : Nat → Int) (a : Nat) : Nat → Nat × (Nat → Bool) → Option (Nat × (Nat → Bool))
  | 0, q => some q
  | m + 1, q => (runS code a m q).bind (tyS (code (a + m)))
theorem runS_s {code : Nat → Int} {a m : Nat} {q : Nat × (Nat → Bool)} : runS code a (m + 1) q = (runS code a m q).bind (tyS (code (a + m))) := rfl
theorem runS_add {code : Nat → Int} {a m1 : Nat} {q : Nat × (Nat → Bool)} : ∀ m2, runS code a (m1 + m2) q = (runS code a m1 q).bind (runS code (a + m1) m2) := by
  intro m2
  induction m2 with
  | zero => cases h : runS code a m1 q <;> simp [runS, h]
  | succ m2 ih =>
    rw [← Nat.add_assoc, runS_s, ih]
    cases h : runS code a m1 q with
    | none => rfl
    | some x => show (runS code (a + m1) m2 x).bind _ = (runS code (a + m1) m2 x).bind _; rw [Nat.add_assoc]
theorem runS_e {c d : Nat → Int} {a : Nat} {q : Nat × (Nat → Bool)} : ∀ m, (∀ k, a ≤ k → k < a + m → c k = d k) → runS c a m q = runS d a m q := by
  intro m
  induction m with
  | zero => intro _; rfl
  | succ m ih => intro h; rw [runS_s, runS_s, ih (fun k h0 h1 => h k h0 (by omega)), h (a + m) (by omega) (by omega)]
theorem tyR_run {code : Nat → Int} {a : Nat} : ∀ m, tyR (fun k => code (a + k)) m = runS code a m (0, fun _ => false) := by
  intro m
  induction m with
  | zero => rfl
  | succ m ih => rw [runS_s, ← ih]; rfl
def Seg (code : Nat → Int) (a b need : Nat) (t : Bool) : Prop := a ≤ b ∧ ∀ h ty, h + need ≤ 40 → ∃ ty', runS code a (b - a) (h, ty) = some (h + 1, ty') ∧ ty' h = t ∧ ∀ i, i < h → ty' i = ty i
theorem Seg_w {code : Nat → Int} {a b need need' : Nat} {t : Bool} (hn : need ≤ need') (h : Seg code a b need t) : Seg code a b need' t := ⟨h.1, fun x ty hx => h.2 x ty (by omega)⟩
theorem Seg_e {c d : Nat → Int} {a b need : Nat} {t : Bool} (he : ∀ k, k < b → d k = c k) (h : Seg c a b need t) : Seg d a b need t := by
  have h0 := h.1
  refine ⟨h.1, fun x ty hx => ?_⟩
  rw [runS_e (d := c) (b - a) (fun k _ h1 => he k (by omega))]
  exact h.2 x ty hx
theorem pt_o {α : Type} {f : Nat → α} {h i : Nat} {v : α} (hi : i ≠ h) : pt f h v i = f i := by unfold pt; rw [if_neg hi]
theorem pt_h {α : Type} {f : Nat → α} {h : Nat} {v : α} : pt f h v h = v := by unfold pt; rw [if_pos rfl]
theorem seg_1 {code : Nat → Int} {a need : Nat} (hn : 1 ≤ need) (h0 : 0 ≤ code a) (h1 : code a < 1006) : Seg code a (a + 1) need false := by
  refine ⟨by omega, fun h ty hh => ⟨pt ty h false, ?_, pt_h, fun i hi => pt_o (by omega)⟩⟩
  rw [show a + 1 - a = 0 + 1 by omega, runS_s]
  show tyS (code a) (h, ty) = _
  unfold tyS
  rw [if_pos (by omega), if_pos ⟨h0, h1, by show h < 40; omega⟩]
theorem seg_two {code : Nat → Int} {a b c n1 n2 n : Nat} {t1 t2 : Bool} (s1 : Seg code a b n1 t1) (s2 : Seg code b c n2 t2) (h1 : n1 ≤ n) (h2 : n2 + 1 ≤ n) : a ≤ c ∧ ∀ h ty, h + n ≤ 40 → ∃ ty', runS code a (c - a) (h, ty) = some (h + 2, ty') ∧ ty' h = t1 ∧ ty' (h + 1) = t2 ∧ ∀ i, i < h → ty' i = ty i := by
  have l1 := s1.1
  have l2 := s2.1
  refine ⟨by omega, fun h ty hh => ?_⟩
  obtain ⟨ty1, r1, r2, r3⟩ := s1.2 h ty (by omega)
  obtain ⟨ty2, q1, q2, q3⟩ := s2.2 (h + 1) ty1 (by omega)
  refine ⟨ty2, ?_, (q3 h (by omega)).trans r2, q2, fun i hi => (q3 i (by omega)).trans (r3 i hi)⟩
  rw [show c - a = (b - a) + (c - b) by omega, runS_add, r1]
  show runS code (a + (b - a)) (c - b) (h + 1, ty1) = _
  rw [show a + (b - a) = b by omega]
  exact q1
theorem run_1 {code : Nat → Int} {a c : Nat} {q : Nat × (Nat → Bool)} (h : a ≤ c) : runS code a (c + 1 - a) q = (runS code a (c - a) q).bind (tyS (code c)) := by
  rw [show c + 1 - a = (c - a) + 1 by omega, runS_s, show a + (c - a) = c by omega]
theorem seg_bin {code : Nat → Int} {a b c n1 n2 n : Nat} (s1 : Seg code a b n1 false) (s2 : Seg code b c n2 false) (h1 : n1 ≤ n) (h2 : n2 + 1 ≤ n) (hc : 3000 ≤ code c ∧ code c < 3003) : Seg code a (c + 1) n false := by
  obtain ⟨l, s⟩ := seg_two s1 s2 h1 h2
  refine ⟨by omega, fun h ty hh => ?_⟩
  obtain ⟨ty2, r1, r2, r3, r4⟩ := s h ty hh
  refine ⟨pt ty2 h false, ?_, pt_h, fun i hi => (pt_o (by omega)).trans (r4 i hi)⟩
  rw [run_1 l, r1]
  show tyS (code c) (h + 2, ty2) = _
  unfold tyS
  rw [if_neg (by omega), if_pos hc.2, if_pos ⟨by show 2 ≤ h + 2; omega, r3, r2⟩]
  rfl
theorem seg_cmp {code : Nat → Int} {a b c n1 n2 n : Nat} (s1 : Seg code a b n1 false) (s2 : Seg code b c n2 false) (h1 : n1 ≤ n) (h2 : n2 + 1 ≤ n) (hc : 3003 ≤ code c ∧ code c < 3006) : Seg code a (c + 1) n true := by
  obtain ⟨l, s⟩ := seg_two s1 s2 h1 h2
  refine ⟨by omega, fun h ty hh => ?_⟩
  obtain ⟨ty2, r1, r2, r3, r4⟩ := s h ty hh
  refine ⟨pt ty2 h true, ?_, pt_h, fun i hi => (pt_o (by omega)).trans (r4 i hi)⟩
  rw [run_1 l, r1]
  show tyS (code c) (h + 2, ty2) = _
  unfold tyS
  rw [if_neg (by omega), if_neg (by omega), if_pos hc.2, if_pos ⟨by show 2 ≤ h + 2; omega, r3, r2⟩]
  rfl
theorem seg_log {code : Nat → Int} {a b c n1 n2 n : Nat} (s1 : Seg code a b n1 true) (s2 : Seg code b c n2 true) (h1 : n1 ≤ n) (h2 : n2 + 1 ≤ n) (hc : 3007 ≤ code c ∧ code c < 3009) : Seg code a (c + 1) n true := by
  obtain ⟨l, s⟩ := seg_two s1 s2 h1 h2
  refine ⟨by omega, fun h ty hh => ?_⟩
  obtain ⟨ty2, r1, r2, r3, r4⟩ := s h ty hh
  refine ⟨ty2, ?_, r2, r4⟩
  rw [run_1 l, r1]
  show tyS (code c) (h + 2, ty2) = _
  unfold tyS
  rw [if_neg (by omega), if_neg (by omega), if_neg (by omega), if_neg (by omega), if_pos hc.2, if_pos ⟨by show 2 ≤ h + 2; omega, r3, r2⟩]
  rfl
theorem seg_not {code : Nat → Int} {a b n : Nat} (s1 : Seg code a b n true) (hc : code b = 3006) : Seg code a (b + 1) n true := by
  have l := s1.1
  refine ⟨by omega, fun h ty hh => ?_⟩
  obtain ⟨ty1, r1, r2, r3⟩ := s1.2 h ty hh
  refine ⟨ty1, ?_, r2, r3⟩
  rw [run_1 l, r1]
  show tyS (code b) (h + 1, ty1) = _
  unfold tyS
  rw [if_neg (by omega), if_neg (by omega), if_neg (by omega), if_pos hc, if_pos ⟨by show 1 ≤ h + 1; omega, r2⟩]
theorem seg_if {code : Nat → Int} {a b c d n1 n2 n3 n : Nat} (s1 : Seg code a b n1 true) (s2 : Seg code b c n2 false) (s3 : Seg code c d n3 false) (h1 : n1 ≤ n) (h2 : n2 + 1 ≤ n) (h3 : n3 + 2 ≤ n) (hc : code d = 3009) : Seg code a (d + 1) n false := by
  obtain ⟨l, s⟩ := seg_two s1 s2 h1 h2
  have l3 := s3.1
  refine ⟨by omega, fun h ty hh => ?_⟩
  obtain ⟨ty2, r1, r2, r3, r4⟩ := s h ty hh
  obtain ⟨ty3, q1, q2, q3⟩ := s3.2 (h + 2) ty2 (by omega)
  refine ⟨pt ty3 h false, ?_, pt_h, fun i hi => (pt_o (by omega)).trans ((q3 i (by omega)).trans (r4 i hi))⟩
  rw [run_1 (by omega), show d - a = (c - a) + (d - c) by omega, runS_add, r1]
  show (runS code (a + (c - a)) (d - c) (h + 2, ty2)).bind _ = _
  rw [show a + (c - a) = c by omega, q1]
  show tyS (code d) (h + 3, ty3) = _
  unfold tyS
  rw [if_neg (by omega), if_neg (by omega), if_neg (by omega), if_neg (by omega), if_neg (by omega), if_pos hc, if_pos ⟨by show 3 ≤ h + 3; omega, q2, (q3 (h + 1) (by omega)).trans r3, (q3 h (by omega)).trans r2⟩]
  rfl
def cdS (SM : SS) : Nat → Int := fun k => SM 134 (201 + k)
def Sg (A B : SS) (need : Nat) (t : Bool) : Prop := ∃ N N' : Nat, A 134 200 = N ∧ B 134 200 = N' ∧ (∀ k, k < N → B 134 (201 + k) = A 134 (201 + k)) ∧ Seg (cdS B) N N' need t
theorem Sg_w {A B : SS} {n n' : Nat} {t : Bool} (h : n ≤ n') (g : Sg A B n t) : Sg A B n' t := by
  obtain ⟨N, N', a, b, c, d⟩ := g
  exact ⟨N, N', a, b, c, Seg_w h d⟩
theorem Sg_m {A B A' B' : SS} {n : Nat} {t : Bool} (ha : A' 134 = A 134) (hb : B' 134 = B 134) (g : Sg A B n t) : Sg A' B' n t := by
  unfold Sg cdS
  rw [ha, hb]
  exact g
theorem Sg_c {A B : SS} {m : Int} (g : Cd A B m) (h0 : 0 ≤ m) (h1 : m < 1006) : Sg A B 1 false := by
  obtain ⟨N, a, b, c, d⟩ := g
  refine ⟨N, N + 1, a, b, d, seg_1 (by omega) ?_ ?_⟩
  · show 0 ≤ B 134 (201 + N); rw [c]; exact h0
  · show B 134 (201 + N) < 1006; rw [c]; exact h1
/-- two pieces and a joint behind them -/
theorem Sg_2 {A B C D E : SS} {n1 n2 n : Nat} {t1 t2 t : Bool} {m : Int} (g1 : Sg A B n1 t1) (e : C 134 = B 134) (g2 : Sg C D n2 t2) (g3 : Cd D E m)
    (hj : ∀ (code : Nat → Int) (a b c : Nat), Seg code a b n1 t1 → Seg code b c n2 t2 → code c = m → Seg code a (c + 1) n t) : Sg A E n t := by
  obtain ⟨N1, N2, a1, a2, a3, a4⟩ := g1
  obtain ⟨N3, N4, b1, b2, b3, b4⟩ := g2
  obtain ⟨N5, c1, c2, c3, c4⟩ := g3
  rw [e] at b1 b3
  have x : N3 = N2 := by omega
  have y : N5 = N4 := by omega
  subst x y
  have l4 := a4.1
  have m4 := b4.1
  refine ⟨N1, N5 + 1, a1, c2, fun k hk => (c4 k (by omega)).trans ((b3 k (by omega)).trans (a3 k hk)), hj _ _ _ _ (Seg_e (fun k hk => ?_) a4) (Seg_e (fun k hk => ?_) b4) c3⟩
  · show E 134 (201 + k) = B 134 (201 + k)
    exact (c4 k (by omega)).trans (b3 k hk)
  · exact c4 k hk
theorem Sg_n {A B C : SS} {n : Nat} (g1 : Sg A B n true) (g3 : Cd B C 3006) : Sg A C n true := by
  obtain ⟨N1, N2, a1, a2, a3, a4⟩ := g1
  obtain ⟨N5, c1, c2, c3, c4⟩ := g3
  have y : N5 = N2 := by omega
  subst y
  have l4 := a4.1
  exact ⟨N1, N5 + 1, a1, c2, fun k hk => (c4 k (by omega)).trans (a3 k hk), seg_not (Seg_e (fun k hk => c4 k hk) a4) c3⟩
theorem Sg_i {A B C D E F G : SS} {n1 n2 n3 n : Nat} (g1 : Sg A B n1 true) (e1 : C 134 = B 134) (g2 : Sg C D n2 false) (e2 : E 134 = D 134) (g3 : Sg E F n3 false) (g4 : Cd F G 3009) (h1 : n1 ≤ n) (h2 : n2 + 1 ≤ n) (h3 : n3 + 2 ≤ n) : Sg A G n false := by
  obtain ⟨N1, N2, a1, a2, a3, a4⟩ := g1
  obtain ⟨N3, N4, b1, b2, b3, b4⟩ := g2
  obtain ⟨N5, N6, c1, c2, c3, c4⟩ := g3
  obtain ⟨N7, d1, d2, d3, d4⟩ := g4
  rw [e1] at b1 b3
  rw [e2] at c1 c3
  have x : N3 = N2 := by omega
  have y : N5 = N4 := by omega
  have z : N7 = N6 := by omega
  subst x y z
  have l1 := a4.1
  have l2 := b4.1
  have l3 := c4.1
  refine ⟨N1, N7 + 1, a1, d2, fun k hk => (d4 k (by omega)).trans ((c3 k (by omega)).trans ((b3 k (by omega)).trans (a3 k hk))), seg_if (Seg_e (fun k hk => ?_) a4) (Seg_e (fun k hk => ?_) b4) (Seg_e (fun k hk => d4 k hk) c4) h1 h2 h3 d3⟩
  · exact (d4 k (by omega)).trans ((c3 k (by omega)).trans (b3 k hk))
  · exact (d4 k (by omega)).trans (c3 k hk)
