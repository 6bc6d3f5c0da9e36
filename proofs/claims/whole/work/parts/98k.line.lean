theorem bnd_id {α : Type} {x : Option α} : (Option.bind x fun q => some q) = x := by cases x <;> rfl
theorem law_j {T U : Nat → Int} {n l : Nat} {b : Bool} {gc gm : SS → Option SS} {SC SM : SS} (ht : tp T U n) (hl : l < 2) (hb : b = (if l = 0 then false else true)) (hs : Sp T U n 40 b gc gm)
    (hm : ∀ S, (if (l : Int) = 0 then (Option.bind (gX12_readSum 0 S) fun q10 => some q10) else (Option.bind (gX12_readTruth 0 S) fun q11 => some q11)) = gm S)
    (hJ : JX T U n 1 SC SM) (o : Ok SM) (hk : SM 130 9 ≠ 24) (hD : DrQ 0 SC (SM 134) (SM 130 6)) :
    ∃ SC1 SC2 SC5 SM', fX3_advance SC = some SC1 ∧ fX3_expect 58 SC1 = some SC2 ∧ gc (up (up SC2 19 8 l) 21 (10 + 2 * l) (SC2 21 9)) = some SC5 ∧ fX12_readLaw l SM = some SM'
      ∧ JX T U n 1 (up SC5 21 (11 + 2 * l) (SC5 21 9)) SM' ∧ FM SM SM' ∧ (Ok SM' → SM 130 6 < SM' 130 6 ∧ DrQ 0 (up SC5 21 (11 + 2 * l) (SC5 21 9)) (SM' 134) (SM' 130 6)) := by
  obtain ⟨SC1, SM1, x1, x2, x3, x4, x5, x6, x7⟩ := adv_j ht hJ o hk
  obtain ⟨SC2, SM2, b3, M3, e1, e2, e3, e4, e5, e6, e7⟩ := exp_j ht pr_31 (by decide) x3
  obtain ⟨SC4, h4⟩ : ∃ S, S = up (up SC2 19 8 (l : Int)) 21 (10 + 2 * l) (SC2 21 9) := ⟨_, rfl⟩
  obtain ⟨SM4, g4⟩ : ∃ S, S = up SM2 130 15 (l : Int) := ⟨_, rfl⟩
  have c19 : ∀ j, j ≠ 8 → SC4 19 j = SC2 19 j := fun j hj => by rw [h4, up_row (by decide), up_k hj]
  have c21 : ∀ j, j ≠ 10 + 2 * l → SC4 21 j = SC2 21 j := fun j hj => by rw [h4, up_k hj, up_row (by decide)]
  have cc : ∀ a, a ≠ 19 → a ≠ 21 → SC4 a = SC2 a := fun a h h' => by rw [h4, up_row h', up_row h]
  have m130 : ∀ j, j ≠ 15 → SM4 130 j = SM2 130 j := fun j hj => by rw [g4, up_k hj]
  have mm' : ∀ a, a ≠ 130 → SM4 a = SM2 a := fun a h => by rw [g4, up_row h]
  have J4 : JX T U n 2 SC4 SM4 := JX_wr c19 (cc 20 (by decide) (by decide)) (c21 9 (by omega)) (cc 25 (by decide) (by decide)) m130 (mm' 133 (by decide)) (fun k _ => by rw [mm' 134 (by decide)]) e4
  have R4 : Rd SC4 SM4 := by
    have y1 : SC4 19 8 = l := by rw [h4, up_row (by decide), up_self]
    have y2 : SM4 130 15 = l := by rw [g4, up_self]
    unfold Rd
    rw [y1, y2]
    exact ⟨rfl, by omega⟩
  obtain ⟨SC5, SM5, y1, y2, y3, y4, y5⟩ := hs 2 SC4 SM4 (by omega) J4 R4
  have J5 : JX T U n 1 (up SC5 21 (11 + 2 * l) (SC5 21 9)) SM5 := JX_w (by omega) (JX_c21 (by omega) y3)
  have F5 : FM SM SM5 := FM_t (FM_f x4) (FM_t (FM_f e5) (FM_t ⟨m130 0 (by decide), m130 5 (by decide)⟩ (FM_f y4)))
  obtain ⟨r, hr⟩ : ∃ r, r = fX12_readLaw l SM := ⟨_, rfl⟩
  rw [← hr]
  unfold fX12_readLaw at hr
  rw [x2, bnd_s, e2, bnd_s] at hr
  simp only at hr
  rw [ex_if e3, rd_200, lt_ok, ← g4, hm, y2, bnd_s] at hr
  by_cases w : SM5 130 11 = 0
  · rw [if_pos w, show w32 (4 + (l : Int)) = ((4 + l : Nat) : Int) by rw [w32_eq (by omega) (by omega)]; omega, wrA_ok (by omega) (by omega), Int.toNat_natCast, show w32 (6 + (l : Int)) = ((6 + l : Nat) : Int) by rw [w32_eq (by omega) (by omega)]; omega, wrA_ok (by omega) (by omega), Int.toNat_natCast, rd_200, up_k (by omega), up_k (by omega), show w32 (8 + (l : Int)) = ((8 + l : Nat) : Int) by rw [w32_eq (by omega) (by omega)]; omega, wrA_ok (by omega) (by omega), Int.toNat_natCast] at hr
    refine ⟨SC1, SC2, SC5, _, x1, e1, by rw [← h4]; exact y1, hr, JX_m (by omega) (JX_m (by omega) (JX_m (by omega) J5)), FM_t F5 (FM_t FM_u (FM_t FM_u FM_u)), fun o' => ?_⟩
    have o5 := Ok_m.mp (Ok_m.mp (Ok_m.mp o'))
    obtain ⟨o4, p1, N, N', s1, s2, s3, s4⟩ := y5 o5
    have o2 : Ok SM2 := (Ok_wr m130).mp o4
    obtain ⟨o1, p2⟩ := e7 o2
    have q4 : SM4 134 = SM 134 := (mm' 134 (by decide)).trans (e6.trans x5)
    have q2 : SM2 134 = SM 134 := e6.trans x5
    have n2 : SC2 21 9 = N := by
      obtain ⟨q, e, N2, a1, a2, a3, a4, a5, a6, a7, a8, a9, a10, a11, a12, _⟩ := JX_O e4 o2
      rw [mm' 134 (by decide)] at s1
      omega
    have n5 : SC5 21 9 = N' := by
      obtain ⟨q, e, N2, a1, a2, a3, a4, a5, a6, a7, a8, a9, a10, a11, a12, _⟩ := JX_O y3 o5
      omega
    have hn5 : N' ≤ 900 := by
      obtain ⟨q, e, N2, a1, a2, a3, a4, a5, a6, a7, a8, a9, a10, a11, a12, a13, _⟩ := JX_O y3 o5
      have := ht.1
      omega
    have hNN := s4.1
    rw [m130 6 (by decide)] at p1
    rw [up_row (a := 130) (by decide), up_row (a := 130) (by decide), up_row (a := 130) (by decide)]
    refine ⟨by omega, dr_law (SC := SC) (Q := SM 134) (p := SM 130 6) (N := N) (N' := N') (l := l) (b := b) hl hb (fun k k0 k1 k2 k3 => ?_) ?_ ?_ ?_ ?_ ?_ (fun k hk => ?_) ?_ (fun a ha => ?_) (fun j hj => ?_) ?_ ?_ (by omega) hD⟩
    · rw [up_k k3, up_k k2, up_k k1, y4.2.2.2.2.2 k k0, q4]
    · rw [up_k (by omega), up_k (by omega), up_self]
    · rw [up_k (by omega), up_self, q2, ← q4]; exact s1
    · rw [up_self, s2, q2, ← q4, s1, w32_eq (by omega) (by omega)]
    · rw [← q4]; exact s1
    · rw [up_k (by omega), up_k (by omega), up_k (by omega)]; exact s2
    · rw [up_k (by omega), up_k (by omega), up_k (by omega), s3 k hk, q4]
    · refine Seg_e (fun k hk => ?_) s4
      show up (up (up SM5 134 (4 + l) 1) 134 (6 + l) _) 134 (8 + l) _ 134 (201 + k) = SM5 134 (201 + k)
      rw [up_k (by omega), up_k (by omega), up_k (by omega)]
    · rw [up_row (by omega), y4.1 a (by simp; omega), cc a (by omega) (by omega), e5.1 a (by simp; omega), x4.1 a (by simp; omega)]
    · rw [up_k (by omega), y4.2.2.1 j (by omega), c21 j (by omega), e5.2.2.1 j (by omega), x4.2.2.1 j (by omega)]
    · rw [up_k (by omega), y4.2.2.1 _ (by omega), h4, up_self]; exact n2
    · rw [up_self]; exact n5
  · rw [if_neg w] at hr
    exact ⟨SC1, SC2, SC5, SM5, x1, e1, by rw [← h4]; exact y1, hr, J5, F5, fun o' => absurd o'.1 w⟩
theorem dr_lines {SC SC' : SS} {Q Q' : Nat → Int} {p p' v : Int} (hv : 0 ≤ v ∧ v ≤ p') (z : ∀ k, k ≠ 0 → Q' k = Q k) (z0 : Q' 0 = v) (f : ∀ a, a ≠ 21 → SC' a = SC a) (f21 : ∀ j, j ≠ 8 → SC' 21 j = SC 21 j) (f8 : SC' 21 8 = v) (h : DrQ 0 SC Q p) : DrQ 0 SC' Q' p' := by
  obtain ⟨⟨a1, a2, a3, a4⟩, ⟨b1, b2, b3, b4⟩, c, d, ⟨e1, e2⟩, gg, i, j⟩ := h
  refine ⟨⟨?_, ?_, ?_, ?_⟩, ⟨?_, ?_, ?_, ?_⟩, fun s hs => ?_, fun s h8 hs => ?_, ⟨⟨fun x hx => ?_, fun x hx => ?_, fun x hx => ?_, ?_⟩, ⟨fun x hx => ?_, fun x hx => ?_, fun x hx => ?_, ?_⟩⟩, lawS_z (fun k h0 h1 => z k (by omega)) (fun j _ => f21 j (by omega)) gg, ⟨lawB_z (by omega) (fun k hk => z k (by omega)) i.1, lawB_z (by omega) (fun k hk => z k (by omega)) i.2⟩, by rw [z 49 (by omega)]; exact j⟩
  · rw [f21 5 (by decide), z 1 (by omega)]; exact a1
  · rw [f21 6 (by decide), z 2 (by omega)]; exact a2
  · rw [f21 7 (by decide), z 3 (by omega)]; exact a3
  · rw [f8, z0]
  · rw [z 1 (by omega)]; exact b1
  · rw [z 2 (by omega)]; exact b2
  · rw [z 3 (by omega)]; exact b3
  · rw [z0]; exact hv
  · rw [z 2 (by omega)] at hs
    unfold strE strB
    rw [f 22 (by decide), f 23 (by decide), f 24 (by decide), z 1 (by omega), z (10 + s) (by omega), z (18 + s) (by omega), z (26 + s) (by omega)]
    exact c s hs
  · rw [z 2 (by omega)] at hs
    rw [z (26 + s) (by omega), z (40 + s) (by omega)]; exact d s h8 hs
  · rw [z _ (by omega), f _ (by omega)]; exact e1.1 x hx
  · rw [z _ (by omega), f _ (by omega)]; exact e1.2.1 x hx
  · rw [z _ (by omega), f _ (by omega)]; exact e1.2.2.1 x hx
  · rw [z _ (by omega), f _ (by omega)]; exact e1.2.2.2
  · rw [z _ (by omega), z 1 (by omega)]; exact e2.1 x hx
  · rw [z _ (by omega)]; exact e2.2.1 x hx
  · rw [z _ (by omega)]; exact e2.2.2.1 x hx
  · rw [z _ (by omega)]; exact e2.2.2.2
theorem ends_j {T U : Nat → Int} {n : Nat} {SC SM : SS} (ht : tp T U n) (hJ : JX T U n 1 SC SM) (hD : Ok SM → DrQ 0 SC (SM 134) (SM 130 6)) :
    ∃ SC1 SM', fX3_expect 59 SC = some SC1 ∧ fX12_ends SM = some SM' ∧ (∀ v, JX T U n 1 (up SC1 21 8 v) SM') ∧ FM SM SM' ∧ (Ok SM → SC1 21 8 = SC 21 8) ∧ (Ok SM' → Ok SM ∧ SM 130 6 < SM' 130 6 ∧ SM' 134 0 = SM 134 0 + 1 ∧ DrQ 0 (up SC1 21 8 (SM 134 0 + 1)) (SM' 134) (SM' 130 6)) := by
  obtain ⟨SC1, SM1, b3, M3, e1, e2, e3, e4, e5, e6, e7⟩ := exp_j ht pr_30 (by decide) hJ
  obtain ⟨r, hr⟩ : ∃ r, r = fX12_ends SM := ⟨_, rfl⟩
  rw [← hr]
  unfold fX12_ends at hr
  rw [e2, bnd_s] at hr
  simp only at hr
  rw [ex_if e3, rd_0, wr_0] at hr
  refine ⟨SC1, _, e1, hr, fun v => JX_c21 (by omega) (JX_m (by omega) e4), FM_t (FM_f e5) FM_u, fun _ => e5.2.2.1 8 (by decide), fun o' => ?_⟩
  obtain ⟨o, p1⟩ := e7 (Ok_m.mp o')
  have D := hD o
  have n0 := D.2.1.2.2.2
  have hat : SM 130 6 ≤ n := by
    obtain ⟨q, e, N, a1, a2, a3, a4, a5, a6, a7, a8, a9, _⟩ := JX_O hJ o
    omega
  have hn := ht.1
  have ev : w32 (SM1 134 0 + 1) = SM 134 0 + 1 := by rw [e6, w32_eq (by omega) (by omega)]
  rw [ev, up_row (a := 130) (by decide)]
  refine ⟨o, p1, up_self, dr_lines (by omega) (fun k hk => by rw [up_k hk, e6]) up_self (fun a ha => up_row ha) (fun j hj => up_k hj) up_self (DrQ_c (fun a ha => e5.1 a (by simp; omega)) e5.2.2.1 (Int.le_refl _) D)⟩
theorem line_j {T U : Nat → Int} {n : Nat} {SC SM : SS} (ht : tp T U n) (hJ : JX T U n 1 SC SM) (o : Ok SM) (hk : SM 130 9 ≠ 24) (hD : DrQ 0 SC (SM 134) (SM 130 6)) :
    ∃ SC' SM1 SM', fX3_line SC = some SC' ∧ fX12_readLine SM = some SM1 ∧ fX12_ends SM1 = some SM' ∧ JX T U n 1 SC' SM' ∧ FM SM SM' ∧ (Ok SM' → SM 130 6 < SM' 130 6 ∧ DrQ 0 SC' (SM' 134) (SM' 130 6)) := by
  obtain ⟨a, ha⟩ : ∃ a, a = fX3_line SC := ⟨_, rfl⟩
  obtain ⟨b, hb⟩ : ∃ b, b = fX12_readLine SM := ⟨_, rfl⟩
  rw [← ha, ← hb]
  unfold fX3_line at ha
  unfold fX12_readLine at hb
  have fin : ∀ SC1 SM1, a = (Option.bind (fX3_expect 59 SC1) fun q15 => lt (up q15 21 8 (w32 ((q15 21 8) + 1))) fun S16 => some S16) → b = some SM1 → JX T U n 1 SC1 SM1 → FM SM SM1 → (Ok SM1 → SM 130 6 < SM1 130 6 ∧ DrQ 0 SC1 (SM1 134) (SM1 130 6)) →
      ∃ SC' SM1 SM', a = some SC' ∧ b = some SM1 ∧ fX12_ends SM1 = some SM' ∧ JX T U n 1 SC' SM' ∧ FM SM SM' ∧ (Ok SM' → SM 130 6 < SM' 130 6 ∧ DrQ 0 SC' (SM' 134) (SM' 130 6)) := by
    intro SC1 SM1 h1 h2 h3 h4 h5
    obtain ⟨SC2, SM2, x1, x2, x3, x4, x5, x6⟩ := ends_j ht h3 (fun o1 => (h5 o1).2)
    rw [x1, bnd_s, lt_ok] at h1
    refine ⟨_, SM1, SM2, h1, h2, x2, x3 _, FM_t h4 x4, fun o2 => ?_⟩
    obtain ⟨o1, p1, p2, p3⟩ := x6 o2
    obtain ⟨p4, p5⟩ := h5 o1
    have e8 : SC2 21 8 = SM1 134 0 := (x5 o1).trans p5.1.2.2.2
    have b8 := p5.2.1.2.2.2
    have hat : SM1 130 6 ≤ n := by
      obtain ⟨q, e, N, a1, a2, a3, a4, a5, a6, a7, a8, a9, _⟩ := JX_O h3 o1
      omega
    have hn := ht.1
    rw [e8, w32_eq (by omega) (by omega)]
    exact ⟨by omega, p3⟩
  rw [if_pos o.1, is_ok, bnd_s] at hb
  by_cases k1 : SM 130 9 = 1
  · obtain ⟨SC1, SM1, x1, x2, x3, x4, x5⟩ := street_j ht hJ o hk hD
    rw [if_pos ((JX_tok pr_1 hJ).mpr ⟨o.1, k1⟩), x1, bnd_s, bnd_s] at ha
    rw [if_pos (decide_eq_true ⟨o.1, k1⟩), x2, bnd_s] at hb
    exact fin SC1 SM1 ha hb x3 x4 x5
  rw [if_neg (fun z => k1 ((JX_tok pr_1 hJ).mp z).2)] at ha
  rw [if_neg (by rw [decide_eq_true_eq]; exact fun z => k1 z.2), is_ok, bnd_s] at hb
  by_cases k5 : SM 130 9 = 5
  · obtain ⟨SC1, SM1, x1, x2, x3, x4, x5⟩ := goer_j ht hJ o hk hD
    rw [if_pos ((JX_tok pr_5 hJ).mpr ⟨o.1, k5⟩), x1, bnd_s, bnd_s] at ha
    rw [if_pos (decide_eq_true ⟨o.1, k5⟩), x2, bnd_s] at hb
    exact fin SC1 SM1 ha hb x3 x4 x5
  rw [if_neg (fun z => k5 ((JX_tok pr_5 hJ).mp z).2)] at ha
  rw [if_neg (by rw [decide_eq_true_eq]; exact fun z => k5 z.2)] at hb
  by_cases k7 : SM 130 9 = 7
  · obtain ⟨SC1, SM1, v, v', SC2, SM2, x1, x2, y1, y2, x3, x4, x5⟩ := boll_j ht hJ o hk hD
    rw [if_pos ((JX_tok pr_7 hJ).mpr ⟨o.1, k7⟩), x1, bnd_s, y1, bnd_s, lt_ok, bnd_s] at ha
    rw [eats_y ⟨o.1, k7⟩ x2, bnd_s] at hb
    simp only [if_true] at hb
    rw [y2, bnd_s, wr_48] at hb
    exact fin _ _ ha hb x3 x4 x5
  rw [if_neg (fun z => k7 ((JX_tok pr_7 hJ).mp z).2)] at ha
  rw [eats_n (fun z => k7 z.2), bnd_s] at hb
  simp only [Bool.false_eq_true, if_false] at hb
  rw [is_ok, bnd_s] at hb
  by_cases k8 : SM 130 9 = 8
  · obtain ⟨SC1, SC2, SC5, SM1, x1, e1, y1, y2, x3, x4, x5⟩ := law_j (l := 0) (b := false) (gc := gX3_sum 0) (gm := gX12_readSum 0) ht (by omega) rfl (law_sum ht) (fun S => by rw [if_pos (show ((0 : Nat) : Int) = 0 from rfl), bnd_id]) hJ o hk hD
    have y1' : gX3_sum 0 (up (up SC2 19 8 0) 21 10 (SC2 21 9)) = some SC5 := y1
    have y2' : fX12_readLaw 0 SM = some SM1 := y2
    rw [if_pos ((JX_tok pr_8 hJ).mpr ⟨o.1, k8⟩)] at ha
    unfold fX3_shiftsLine at ha
    rw [x1, bnd_s, e1, bnd_s, lt_ok, lt_ok, up_row (a := 21) (by decide), y1', bnd_s, lt_ok, bnd_s, bnd_s] at ha
    rw [if_pos (decide_eq_true ⟨o.1, k8⟩), k8, show w32 (8 - 8) = 0 from rfl, y2', bnd_s] at hb
    exact fin _ _ ha hb x3 x4 x5
  rw [if_neg (fun z => k8 ((JX_tok pr_8 hJ).mp z).2)] at ha
  rw [if_neg (by rw [decide_eq_true_eq]; exact fun z => k8 z.2), is_ok, bnd_s] at hb
  by_cases k9 : SM 130 9 = 9
  · obtain ⟨SC1, SC2, SC5, SM1, x1, e1, y1, y2, x3, x4, x5⟩ := law_j (l := 1) (b := true) (gc := gX3_truth 0) (gm := gX12_readTruth 0) ht (by omega) rfl (law_truth ht) (fun S => by rw [if_neg (show ¬ ((1 : Nat) : Int) = 0 by decide), bnd_id]) hJ o hk hD
    have y1' : gX3_truth 0 (up (up SC2 19 8 1) 21 12 (SC2 21 9)) = some SC5 := y1
    have y2' : fX12_readLaw 1 SM = some SM1 := y2
    rw [if_pos ((JX_tok pr_9 hJ).mpr ⟨o.1, k9⟩)] at ha
    unfold fX3_mayLine at ha
    rw [x1, bnd_s, e1, bnd_s, lt_ok, lt_ok, up_row (a := 21) (by decide), y1', bnd_s, lt_ok, bnd_s, bnd_s] at ha
    rw [if_pos (decide_eq_true ⟨o.1, k9⟩), k9, show w32 (9 - 8) = 1 from rfl, y2', bnd_s] at hb
    exact fin _ _ ha hb x3 x4 x5
  · obtain ⟨SC1, SM1, x1, x2, x3, x4, x5, x6⟩ := fail_j (f := 2) (by decide) hJ
    rw [if_neg (fun z => k9 ((JX_tok pr_9 hJ).mp z).2), x1, bnd_s, bnd_s] at ha
    rw [if_neg (by rw [decide_eq_true_eq]; exact fun z => k9 z.2), x2, bnd_s] at hb
    exact fin _ _ ha hb x3 (FM_f x4) (fun o1 => absurd o1.1 x6)
