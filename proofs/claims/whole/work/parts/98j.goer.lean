/-! goers -/
theorem setG_ok {S : SS} {l : Nat} {c y : Int} (hl : l < 3) : fX6_setGoer 26 l c y S = some (up (up S 28 l c) 29 l y) := by
  unfold fX6_setGoer
  rw [if_neg (by omega), if_neg (by omega), if_neg (by omega), wrA_ok (by omega) (by omega), wrA_ok (by omega) (by omega), Int.toNat_natCast]
theorem dr_goer {SC SC' : SS} {Q Q' : Nat → Int} {p c y : Int} {l : Nat} (hl : l < 3) (h3 : Q 3 = l) (hc : 0 ≤ c ∧ c < Q 1) (hy : 0 ≤ y ∧ y ≤ 19) (z : ∀ k, k ≠ 34 + l → k ≠ 37 + l → k ≠ 3 → Q' k = Q k) (z3 : Q' 3 = ((l + 1 : Nat) : Int)) (zc : Q' (34 + l) = c) (zy : Q' (37 + l) = y)
    (f : ∀ a, a ∉ [21, 28, 29] → SC' a = SC a) (f21 : ∀ j, j ≠ 7 → SC' 21 j = SC 21 j) (f7 : SC' 21 7 = ((l + 1 : Nat) : Int)) (f28 : ∀ j, SC' 28 j = if j = l then c else SC 28 j) (f29 : ∀ j, SC' 29 j = if j = l then y else SC 29 j) (h : DrQ 0 SC Q p) : DrQ 0 SC' Q' p := by
  obtain ⟨⟨a1, a2, a3, a4⟩, ⟨b1, b2, b3, b4⟩, cc, d, ⟨e1, e2⟩, gg, i, j⟩ := h
  refine ⟨⟨?_, ?_, ?_, ?_⟩, ⟨?_, ?_, ?_, ?_⟩, fun s hs => ?_, fun s h8 hs => ?_, ⟨⟨fun x hx => ?_, fun x hx => ?_, fun x hx => ?_, ?_⟩, ⟨fun x hx => ?_, fun x hx => ?_, fun x hx => ?_, ?_⟩⟩, lawS_z (fun k h0 h1 => z k (by omega) (by omega) (by omega)) (fun j _ => f21 j (by omega)) gg, ⟨lawB_z (by omega) (fun k hk => z k (by omega) (by omega) (by omega)) i.1, lawB_z (by omega) (fun k hk => z k (by omega) (by omega) (by omega)) i.2⟩, by rw [z 49 (by omega) (by omega) (by omega)]; exact j⟩
  · rw [f21 5 (by decide), z 1 (by omega) (by omega) (by omega)]; exact a1
  · rw [f21 6 (by decide), z 2 (by omega) (by omega) (by omega)]; exact a2
  · rw [f7, z3]
  · rw [f21 8 (by decide), z 0 (by omega) (by omega) (by omega)]; exact a4
  · rw [z 1 (by omega) (by omega) (by omega)]; exact b1
  · rw [z 2 (by omega) (by omega) (by omega)]; exact b2
  · rw [z3]; omega
  · rw [z 0 (by omega) (by omega) (by omega)]; exact b4
  · rw [z 2 (by omega) (by omega) (by omega)] at hs
    have h8 : s < 8 := by omega
    unfold strE strB
    rw [f 22 (by decide), f 23 (by decide), f 24 (by decide), z 1 (by omega) (by omega) (by omega), z (10 + s) (by omega) (by omega) (by omega), z (18 + s) (by omega) (by omega) (by omega), z (26 + s) (by omega) (by omega) (by omega)]
    exact cc s hs
  · rw [z 2 (by omega) (by omega) (by omega)] at hs
    rw [z (26 + s) (by omega) (by omega) (by omega), z (40 + s) (by omega) (by omega) (by omega)]; exact d s h8 hs
  · show SC' 28 x = Q' (34 + x)
    rw [f28]
    by_cases e : x = l
    · subst e; rw [if_pos rfl, zc]
    · rw [if_neg e, z _ (by omega) (by omega) (by omega)]; exact e1.1 x hx
  · show SC' 29 x = Q' (37 + x)
    rw [f29]
    by_cases e : x = l
    · subst e; rw [if_pos rfl, zy]
    · rw [if_neg e, z _ (by omega) (by omega) (by omega)]; exact e1.2.1 x hx
  · rw [z _ (by omega) (by omega) (by omega), f (26 + 1) (by decide)]; exact e1.2.2.1 x hx
  · rw [z _ (by omega) (by omega) (by omega), f 26 (by decide)]; exact e1.2.2.2
  · rw [z 1 (by omega) (by omega) (by omega)]
    by_cases e : x = l
    · subst e; rw [zc]; exact hc
    · rw [z _ (by omega) (by omega) (by omega)]; exact e2.1 x hx
  · by_cases e : x = l
    · subst e; show 0 ≤ Q' (37 + x) ∧ Q' (37 + x) ≤ 19; rw [zy]; exact hy
    · rw [z _ (by omega) (by omega) (by omega)]; exact e2.2.1 x hx
  · rw [z _ (by omega) (by omega) (by omega)]; exact e2.2.2.1 x hx
  · rw [z _ (by omega) (by omega) (by omega)]; exact e2.2.2.2
theorem goer_j {T U : Nat → Int} {n : Nat} {SC SM : SS} (ht : tp T U n) (hJ : JX T U n 1 SC SM) (o : Ok SM) (hk : SM 130 9 ≠ 24) (hD : DrQ 0 SC (SM 134) (SM 130 6)) :
    ∃ SC' SM', fX3_goerLine SC = some SC' ∧ fX12_readGoer SM = some SM' ∧ JX T U n 1 SC' SM' ∧ FM SM SM' ∧ (Ok SM' → SM 130 6 < SM' 130 6 ∧ DrQ 0 SC' (SM' 134) (SM' 130 6)) := by
  obtain ⟨d1, d2, d3, d4⟩ := hD.1
  obtain ⟨g1, g2, g3, g4⟩ := hD.2.1
  obtain ⟨a, ha⟩ : ∃ a, a = fX3_goerLine SC := ⟨_, rfl⟩
  obtain ⟨b, hb⟩ : ∃ b, b = fX12_readGoer SM := ⟨_, rfl⟩
  rw [← ha, ← hb]
  unfold fX3_goerLine at ha
  unfold fX12_readGoer at hb
  rw [rd_3] at hb
  by_cases e8 : SM 134 3 = 3
  · obtain ⟨SC1, SM1, x1, x2, x3, x4, x5, x6⟩ := fail_j (f := 4) (by decide) hJ
    rw [if_neg (by omega), x1, bnd_s] at ha
    rw [if_pos e8, x2, bnd_s, bnd_s, if_neg x6] at hb
    exact ⟨SC1, SM1, ha, hb, x3, FM_f x4, fun o1 => absurd o1.1 x6⟩
  · obtain ⟨l, hl⟩ : ∃ l : Nat, SM 134 3 = l := ⟨(SM 134 3).toNat, by omega⟩
    have hl8 : l < 3 := by omega
    obtain ⟨SC1, SM1, x1, x2, x3, x4, x5, x6, x7⟩ := adv_j ht hJ o hk
    have c1 : SC1 21 5 = SM 134 1 := (x4.2.2.1 5 (by decide)).trans d1
    obtain ⟨v, v', SC2, SM2, y1, y2, y3, y4, y5, y6⟩ := tk_j (lo := 0) (hi := SM 134 1 - 1) ht (by omega) x3
    have y3' : JX T U n 2 SC2 (up SM2 134 (34 + l) v') := JX_m (by omega) y3
    obtain ⟨SC3, SM3, b3, M3, e1, e2, e3, e4, e5, e6, e7⟩ := exp_j ht pr_6 (by decide) y3'
    obtain ⟨w, w', SC4, SM4, z1, z2, z3, z4, z5, z6⟩ := tk_j (lo := 0) (hi := 19) ht (by omega) e4
    have c47 : SC4 21 7 = (l : Int) := by rw [z4.2.2.1 7 (by decide), e5.2.2.1 7 (by decide), y4.2.2.1 7 (by decide), x4.2.2.1 7 (by decide), d3, hl]
    rw [if_pos (by omega), x1, bnd_s, c1, w32_eq (by omega) (by omega), y1, bnd_s] at ha
    simp only at ha
    rw [e1, bnd_s, z1, bnd_s] at ha
    simp only at ha
    rw [c47, setG_ok hl8, bnd_s, lt_ok, show up (up SC4 28 l v) 29 l w 21 7 = (l : Int) by rw [up_row (by decide), up_row (by decide)]; exact c47, w32_k (by omega)] at ha
    have m1 : SM1 134 1 = SM 134 1 := by rw [x5]
    rw [if_neg e8, bnd_s, if_pos o.1, x2, bnd_s, rd_1, m1, w32_eq (by omega) (by omega), y2, bnd_s] at hb
    simp only at hb
    rw [hl, show w32 (34 + (l : Int)) = ((34 + l : Nat) : Int) by rw [w32_eq (by omega) (by omega)]; omega, wrA_ok (by omega) (by omega), Int.toNat_natCast, e2, bnd_s] at hb
    simp only at hb
    rw [ex_if e3, z2, bnd_s] at hb
    simp only at hb
    rw [show w32 (37 + (l : Int)) = ((37 + l : Nat) : Int) by rw [w32_eq (by omega) (by omega)]; omega, wrA_ok (by omega) (by omega), Int.toNat_natCast] at hb
    have J5 : JX T U n 1 (up (up (up SC4 28 l v) 29 l w) 21 7 ((l + 1 : Nat) : Int)) (up SM4 134 (37 + l) w') := JX_w (by omega) (JX_c21 (by omega) (JX_c (by omega) (JX_c (by omega) (JX_m (by omega) z3))))
    have F5 : FM SM (up SM4 134 (37 + l) w') := FM_t (FM_f x4) (FM_t (FM_f y4) (FM_t FM_u (FM_t (FM_f e5) (FM_t (FM_f z4) FM_u))))
    have e3' : up SM4 134 (37 + l) w' 134 3 = (l : Int) := by rw [up_k (by omega), z5, e6, up_k (by omega), y5, x5]; exact hl
    by_cases w6 : up SM4 134 (37 + l) w' 130 11 = 0
    · rw [if_pos w6, rd_3, e3', wr_3, w32_k (by omega)] at hb
      refine ⟨_, _, ha, hb, JX_m (by omega) J5, FM_t F5 FM_u, fun o7 => ?_⟩
      have o4 := Ok_m.mp (Ok_m.mp o7)
      obtain ⟨o3, r1, r2, r3, r4⟩ := z6 o4
      obtain ⟨o2, s1⟩ := e7 o3
      obtain ⟨o1, t1, t2, t3, t4⟩ := y6 (Ok_m.mp o2)
      rw [up_row (a := 130) (by decide)] at s1
      rw [up_row (a := 130) (by decide), up_row (a := 130) (by decide)]
      have D4 : DrQ 0 SC4 (SM 134) (SM4 130 6) := DrQ_c (fun a ha => (((z4.1 a (by simp; omega)).trans (e5.1 a (by simp; omega))).trans (y4.1 a (by simp; omega))).trans (x4.1 a (by simp; omega))) (fun j hj => (((z4.2.2.1 j hj).trans (e5.2.2.1 j hj)).trans (y4.2.2.1 j hj)).trans (x4.2.2.1 j hj)) (by omega) hD
      refine ⟨by omega, dr_goer (c := v) (y := w) hl8 hl (by omega) (by omega) (fun k h1 h2 h3 => ?_) up_self ?_ ?_ (fun a ha => ?_) (fun j hj => ?_) up_self (fun j => ?_) (fun j => ?_) D4⟩
      · rw [up_k h3, up_k h2, z5, e6, up_k h1, y5, x5]
      · rw [up_k (by omega), up_k (by omega), z5, e6, up_self, t1]
      · rw [up_k (by omega), up_self, r1]
      · rw [up_row (fun z => ha (by rw [z]; decide)), up_row (fun z => ha (by rw [z]; decide)), up_row (fun z => ha (by rw [z]; decide))]
      · rw [up_k hj, up_row (by decide), up_row (by decide)]
      · rw [up_row (by decide), up_row (by decide), up_at]
      · rw [up_row (by decide), up_at, up_row (by decide)]
    · rw [if_neg w6] at hb
      exact ⟨_, _, ha, hb, J5, F5, fun o7 => absurd o7.1 w6⟩
/-! laws -/
theorem dr_law {SC SC' : SS} {Q Q' : Nat → Int} {p p' : Int} {l N N' : Nat} {b : Bool} (hl : l < 2) (hb : b = (if l = 0 then false else true)) (z : ∀ k, k < 200 → k ≠ 4 + l → k ≠ 6 + l → k ≠ 8 + l → Q' k = Q k) (z4 : Q' (4 + l) = 1) (z6 : Q' (6 + l) = N) (z8 : Q' (8 + l) = (N' : Int) - N) (q0 : Q 200 = N) (q1 : Q' 200 = N') (hp : ∀ k, k < N → Q' (201 + k) = Q (201 + k)) (sg : Seg (fun k => Q' (201 + k)) N N' 40 b)
    (f : ∀ a, (22 ≤ a ∧ a ≤ 24) ∨ (26 ≤ a ∧ a ≤ 29) → SC' a = SC a) (f21 : ∀ j, j < 9 ∨ j = 12 - 2 * l ∨ j = 13 - 2 * l → SC' 21 j = SC 21 j) (f10 : SC' 21 (10 + 2 * l) = N) (f11 : SC' 21 (11 + 2 * l) = N') (hpp : p ≤ p') (h : DrQ 0 SC Q p) : DrQ 0 SC' Q' p' := by
  obtain ⟨⟨a1, a2, a3, a4⟩, ⟨b1, b2, b3, b4⟩, c, d, ⟨e1, e2⟩, gg, i, j⟩ := h
  have hN := sg.1
  have hN' : N < N' := by
    obtain ⟨ty, r1, _⟩ := sg.2 0 (fun _ => false) (by omega)
    by_cases e : N = N'
    · subst e
      rw [Nat.sub_self] at r1
      have := congrArg (fun o => o.map Prod.fst) r1
      simp [runS] at this
    · omega
  have mine : lawB Q' l b := by
    obtain ⟨ty, r1, r2, _⟩ := sg.2 0 (fun _ => false) (by omega)
    unfold lawB
    refine Or.inr ⟨z4, by omega, by omega, by omega, ty, ?_, r2⟩
    have e := @tyR_run (fun k => Q' (201 + k)) N (N' - N)
    rw [r1] at e
    rw [show (Q' (8 + l)).toNat = N' - N by omega, ← e]
    congr 1
    funext k
    show Q' (201 + (Q' (6 + l)).toNat + k) = Q' (201 + (N + k))
    exact congrArg Q' (by omega)
  have other : ∀ l' b', l' < 2 → l' ≠ l → lawB Q l' b' → lawB Q' l' b' := by
    intro l' b' h2 hne hB
    unfold lawB at hB ⊢
    rw [z (4 + l') (by omega) (by omega) (by omega) (by omega), z (6 + l') (by omega) (by omega) (by omega) (by omega), z (8 + l') (by omega) (by omega) (by omega) (by omega)]
    rcases hB with h | ⟨h1, h3, h4, h5, ty, h6, h7⟩
    · exact Or.inl h
    · refine Or.inr ⟨h1, h3, h4, by omega, ty, ?_, h7⟩
      rw [← h6]
      have x1 := @tyR_run (codeP Q' l') 0 (Q (8 + l')).toNat
      have x2 := @tyR_run (codeP Q l') 0 (Q (8 + l')).toNat
      simp only [Nat.zero_add] at x1 x2
      rw [show tyR (codeP Q' l') (Q (8 + l')).toNat = _ from x1, show tyR (codeP Q l') (Q (8 + l')).toNat = _ from x2]
      refine runS_e _ (fun k _ hk => ?_)
      unfold codeP
      rw [z (6 + l') (by omega) (by omega) (by omega) (by omega), Nat.add_assoc, hp _ (by omega)]
  refine ⟨⟨?_, ?_, ?_, ?_⟩, ⟨?_, ?_, ?_, ?_⟩, fun s hs => ?_, fun s h8 hs => ?_, ⟨⟨fun x hx => ?_, fun x hx => ?_, fun x hx => ?_, ?_⟩, ⟨fun x hx => ?_, fun x hx => ?_, fun x hx => ?_, ?_⟩⟩, ?_, ?_, ?_⟩
  · rw [f21 5 (by omega), z 1 (by omega) (by omega) (by omega) (by omega)]; exact a1
  · rw [f21 6 (by omega), z 2 (by omega) (by omega) (by omega) (by omega)]; exact a2
  · rw [f21 7 (by omega), z 3 (by omega) (by omega) (by omega) (by omega)]; exact a3
  · rw [f21 8 (by omega), z 0 (by omega) (by omega) (by omega) (by omega)]; exact a4
  · rw [z 1 (by omega) (by omega) (by omega) (by omega)]; exact b1
  · rw [z 2 (by omega) (by omega) (by omega) (by omega)]; exact b2
  · rw [z 3 (by omega) (by omega) (by omega) (by omega)]; exact b3
  · rw [z 0 (by omega) (by omega) (by omega) (by omega)]; exact ⟨b4.1, by omega⟩
  · rw [z 2 (by omega) (by omega) (by omega) (by omega)] at hs
    have h8 : s < 8 := by omega
    unfold strE strB
    rw [f 22 (by omega), f 23 (by omega), f 24 (by omega), z 1 (by omega) (by omega) (by omega) (by omega), z (10 + s) (by omega) (by omega) (by omega) (by omega), z (18 + s) (by omega) (by omega) (by omega) (by omega), z (26 + s) (by omega) (by omega) (by omega) (by omega)]
    exact c s hs
  · rw [z 2 (by omega) (by omega) (by omega) (by omega)] at hs
    rw [z (26 + s) (by omega) (by omega) (by omega) (by omega), z (40 + s) (by omega) (by omega) (by omega) (by omega)]; exact d s h8 hs
  · rw [z _ (by omega) (by omega) (by omega) (by omega), f _ (by omega)]; exact e1.1 x hx
  · rw [z _ (by omega) (by omega) (by omega) (by omega), f _ (by omega)]; exact e1.2.1 x hx
  · rw [z _ (by omega) (by omega) (by omega) (by omega), f _ (by omega)]; exact e1.2.2.1 x hx
  · rw [z _ (by omega) (by omega) (by omega) (by omega), f _ (by omega)]; exact e1.2.2.2
  · rw [z _ (by omega) (by omega) (by omega) (by omega), z 1 (by omega) (by omega) (by omega) (by omega)]; exact e2.1 x hx
  · rw [z _ (by omega) (by omega) (by omega) (by omega)]; exact e2.2.1 x hx
  · rw [z _ (by omega) (by omega) (by omega) (by omega)]; exact e2.2.2.1 x hx
  · rw [z _ (by omega) (by omega) (by omega) (by omega)]; exact e2.2.2.2
  · obtain rfl | rfl : l = 0 ∨ l = 1 := by omega
    · unfold lawS at gg ⊢
      refine ⟨Or.inr ⟨z4, f10.trans z6.symm, ?_⟩, ?_⟩
      · show SC' 21 11 = Q' 6 + Q' 8
        rw [show SC' 21 11 = (N' : Int) from f11, show Q' 6 = (N : Int) from z6, show Q' 8 = (N' : Int) - N from z8]; omega
      · rw [z 5 (by omega) (by omega) (by omega) (by omega), z 7 (by omega) (by omega) (by omega) (by omega), z 9 (by omega) (by omega) (by omega) (by omega), f21 12 (by omega), f21 13 (by omega)]
        exact gg.2
    · unfold lawS at gg ⊢
      refine ⟨?_, Or.inr ⟨z4, f10.trans z6.symm, ?_⟩⟩
      · rw [z 4 (by omega) (by omega) (by omega) (by omega), z 6 (by omega) (by omega) (by omega) (by omega), z 8 (by omega) (by omega) (by omega) (by omega), f21 10 (by omega), f21 11 (by omega)]
        exact gg.1
      · show SC' 21 13 = Q' 7 + Q' 9
        rw [show SC' 21 13 = (N' : Int) from f11, show Q' 7 = (N : Int) from z6, show Q' 9 = (N' : Int) - N from z8]; omega
  · obtain rfl | rfl : l = 0 ∨ l = 1 := by omega
    · rw [hb] at mine
      exact ⟨mine, other 1 true (by omega) (by omega) i.2⟩
    · rw [hb] at mine
      exact ⟨other 0 false (by omega) (by omega) i.1, mine⟩
  · rw [z 49 (by omega) (by omega) (by omega) (by omega)]; exact j
