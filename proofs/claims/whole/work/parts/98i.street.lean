/-! streets -/
theorem addS_ok {S : SS} {l : Nat} {b e : Int} (hl : l < 8) (h : S 21 6 = l) : ∃ S', fX8_addStreet 21 b e S = some S' ∧ (∀ a, a ∉ [21, 22, 23, 24, 27] → S' a = S a) ∧ (∀ j, j ≠ 6 → S' 21 j = S 21 j) ∧ S' 21 6 = ((l + 1 : Nat) : Int) ∧ (∀ j, S' 22 j = if j = l then b else S 22 j) ∧ (∀ j, S' 23 j = if j = l then e else S 23 j) ∧ (∀ j, S' 24 j = if j = l then 0 else S 24 j) ∧ (∀ j, S' 27 j = if j = l then 0 else S 27 j) := by
  unfold fX8_addStreet
  rw [h, if_neg (by omega), wrA_ok (by omega) (by omega), Int.toNat_natCast]
  rw [show (up S (21 + 1) l b) 21 6 = (l : Int) by rw [up_row (by decide)]; exact h, wrA_ok (by omega) (by omega), Int.toNat_natCast]
  rw [show (up (up S (21 + 1) l b) (21 + 2) l e) 21 6 = (l : Int) by rw [up_row (by decide), up_row (by decide)]; exact h, wrA_ok (by omega) (by omega), Int.toNat_natCast]
  rw [show (up (up (up S (21 + 1) l b) (21 + 2) l e) (21 + 3) l 0) 21 6 = (l : Int) by rw [up_row (by decide), up_row (by decide), up_row (by decide)]; exact h, setS_ok hl, bnd_s, lt_ok]
  refine ⟨_, rfl, fun a ha => ?_, fun j hj => ?_, ?_, fun j => ?_, fun j => ?_, fun j => ?_, fun j => ?_⟩
  · rw [up_row (fun z => ha (by rw [z]; decide)), up_row (fun z => ha (by rw [z]; decide)), up_row (fun z => ha (by rw [z]; decide)), up_row (fun z => ha (by rw [z]; decide)), up_row (fun z => ha (by rw [z]; decide))]
  · rw [up_k hj, up_row (by decide), up_row (by decide), up_row (by decide), up_row (by decide)]
  · rw [up_self, up_row (by decide), up_row (by decide), up_row (by decide), up_row (by decide), h, w32_k (by omega)]
  · rw [up_row (by decide), up_row (by decide), up_row (by decide), up_row (by decide), up_at]
  · rw [up_row (by decide), up_row (by decide), up_row (by decide), up_at, up_row (by decide)]
  · rw [up_row (by decide), up_row (by decide), up_at, up_row (by decide), up_row (by decide)]
  · rw [up_row (by decide), up_at, up_row (by decide), up_row (by decide), up_row (by decide)]
theorem dr_new {SC SC' : SS} {Q Q' : Nat → Int} {p b e : Int} {l : Nat} (hl : l < 8) (h2 : Q 2 = l) (z : ∀ k, k ≠ 10 + l → k ≠ 18 + l → Q' k = Q k) (zb : Q' (10 + l) = b) (ze : Q' (18 + l) = e) (hb : 0 ≤ b ∧ b < Q 1) (he : 0 ≤ e ∧ e < Q 1) (hbe : b ≠ e)
    (f : ∀ a, a ∉ [21, 22, 23, 24, 27] → SC' a = SC a) (f21 : ∀ j, j ≠ 6 → SC' 21 j = SC 21 j) (f6 : SC' 21 6 = ((l + 1 : Nat) : Int)) (f22 : ∀ j, SC' 22 j = if j = l then b else SC 22 j) (f23 : ∀ j, SC' 23 j = if j = l then e else SC 23 j) (f24 : ∀ j, SC' 24 j = if j = l then 0 else SC 24 j) (f27 : ∀ j, SC' 27 j = if j = l then 0 else SC 27 j) (h : DrQ 0 SC Q p) : DrQ 1 SC' Q' p := by
  obtain ⟨⟨a1, a2, a3, a4⟩, ⟨b1, b2, b3, b4⟩, c, d, ⟨e1, e2⟩, gg, i, j⟩ := h
  have dl := d l hl (by omega)
  refine ⟨⟨?_, ?_, ?_, ?_⟩, ⟨?_, ?_, ?_, ?_⟩, fun s hs => ?_, fun s h8 hs => ?_, ⟨⟨fun x hx => ?_, fun x hx => ?_, fun x hx => ?_, ?_⟩, ⟨fun x hx => ?_, fun x hx => ?_, fun x hx => ?_, ?_⟩⟩, lawS_z (fun k h0 h1 => z k (by omega) (by omega)) (fun j _ => f21 j (by omega)) gg, ⟨lawB_z (by omega) (fun k hk => z k (by omega) (by omega)) i.1, lawB_z (by omega) (fun k hk => z k (by omega) (by omega)) i.2⟩, by rw [z 49 (by omega) (by omega)]; exact j⟩
  · rw [f21 5 (by decide), z 1 (by omega) (by omega)]; exact a1
  · rw [f6, z 2 (by omega) (by omega)]; omega
  · rw [f21 7 (by decide), z 3 (by omega) (by omega)]; exact a3
  · rw [f21 8 (by decide), z 0 (by omega) (by omega)]; exact a4
  · rw [z 1 (by omega) (by omega)]; exact b1
  · rw [z 2 (by omega) (by omega)]; omega
  · rw [z 3 (by omega) (by omega)]; exact b3
  · rw [z 0 (by omega) (by omega)]; exact b4
  · rw [z 2 (by omega) (by omega)] at hs
    unfold strE strB
    rw [f22, f23, f24, z 1 (by omega) (by omega), z (26 + s) (by omega) (by omega)]
    by_cases y : s = l
    · subst y
      rw [if_pos rfl, if_pos rfl, if_pos rfl, zb, ze, dl.1]
      exact ⟨⟨rfl, rfl, rfl⟩, hb, he, hbe, by omega, by omega⟩
    · rw [if_neg y, if_neg y, if_neg y, z (10 + s) (by omega) (by omega), z (18 + s) (by omega) (by omega)]
      exact c s (by omega)
  · rw [z 2 (by omega) (by omega)] at hs
    rw [z (26 + s) (by omega) (by omega), z (40 + s) (by omega) (by omega)]
    exact d s h8 (by omega)
  · rw [z _ (by omega) (by omega), f (26 + 2) (by decide)]; exact e1.1 x hx
  · rw [z _ (by omega) (by omega), f (26 + 3) (by decide)]; exact e1.2.1 x hx
  · show SC' 27 x = Q' (40 + x)
    rw [f27, z _ (by omega) (by omega)]
    by_cases y : x = l
    · subst y
      rw [if_pos rfl, dl.2]
    · rw [if_neg y]; exact e1.2.2.1 x hx
  · rw [z _ (by omega) (by omega), f 26 (by decide)]; exact e1.2.2.2
  · rw [z _ (by omega) (by omega), z 1 (by omega) (by omega)]; exact e2.1 x hx
  · rw [z _ (by omega) (by omega)]; exact e2.2.1 x hx
  · rw [z _ (by omega) (by omega)]; exact e2.2.2.1 x hx
  · rw [z _ (by omega) (by omega)]; exact e2.2.2.2
theorem dr_end {SC : SS} {Q Q' : Nat → Int} {p : Int} {l : Nat} (hl : l < 8) (h2 : Q 2 = l) (z : ∀ k, k ≠ 2 → Q' k = Q k) (z2 : Q' 2 = ((l + 1 : Nat) : Int)) (h : DrQ 1 SC Q p) : DrQ 0 SC Q' p := by
  obtain ⟨⟨a1, a2, a3, a4⟩, ⟨b1, b2, b3, b4⟩, c, d, ⟨e1, e2⟩, gg, i, j⟩ := h
  refine ⟨⟨?_, ?_, ?_, ?_⟩, ⟨?_, ?_, ?_, ?_⟩, fun s hs => ?_, fun s h8 hs => ?_, ⟨⟨fun x hx => ?_, fun x hx => ?_, fun x hx => ?_, ?_⟩, ⟨fun x hx => ?_, fun x hx => ?_, fun x hx => ?_, ?_⟩⟩, lawS_z (fun k h0 h1 => z k (by omega)) (fun j _ => rfl) gg, ⟨lawB_z (by omega) (fun k hk => z k (by omega)) i.1, lawB_z (by omega) (fun k hk => z k (by omega)) i.2⟩, by rw [z 49 (by omega)]; exact j⟩
  · rw [z 1 (by omega)]; exact a1
  · rw [z2]; omega
  · rw [z 3 (by omega)]; exact a3
  · rw [z 0 (by omega)]; exact a4
  · rw [z 1 (by omega)]; exact b1
  · rw [z2]; omega
  · rw [z 3 (by omega)]; exact b3
  · rw [z 0 (by omega)]; exact b4
  · unfold strE strB
    rw [z 1 (by omega), z (10 + s) (by omega), z (18 + s) (by omega), z (26 + s) (by omega)]
    exact c s (by omega)
  · rw [z (26 + s) (by omega), z (40 + s) (by omega)]; exact d s h8 (by omega)
  · rw [z _ (by omega)]; exact e1.1 x hx
  · rw [z _ (by omega)]; exact e1.2.1 x hx
  · rw [z _ (by omega)]; exact e1.2.2.1 x hx
  · rw [z _ (by omega)]; exact e1.2.2.2
  · rw [z _ (by omega), z 1 (by omega)]; exact e2.1 x hx
  · rw [z _ (by omega)]; exact e2.2.1 x hx
  · rw [z _ (by omega)]; exact e2.2.2.1 x hx
  · rw [z _ (by omega)]; exact e2.2.2.2
theorem FM_u {A : SS} {k : Nat} {v : Int} : FM A (up A 134 k v) := FM_m (up_row (by decide))
theorem street_j {T U : Nat → Int} {n : Nat} {SC SM : SS} (ht : tp T U n) (hJ : JX T U n 1 SC SM) (o : Ok SM) (hk : SM 130 9 ≠ 24) (hD : DrQ 0 SC (SM 134) (SM 130 6)) :
    ∃ SC' SM', fX3_streetLine SC = some SC' ∧ fX12_readStreet SM = some SM' ∧ JX T U n 1 SC' SM' ∧ FM SM SM' ∧ (Ok SM' → SM 130 6 < SM' 130 6 ∧ DrQ 0 SC' (SM' 134) (SM' 130 6)) := by
  have hn := ht.1
  obtain ⟨d1, d2, d3, d4⟩ := hD.1
  obtain ⟨g1, g2, g3, g4⟩ := hD.2.1
  obtain ⟨a, ha⟩ : ∃ a, a = fX3_streetLine SC := ⟨_, rfl⟩
  obtain ⟨b, hb⟩ : ∃ b, b = fX12_readStreet SM := ⟨_, rfl⟩
  rw [← ha, ← hb]
  unfold fX3_streetLine at ha
  unfold fX12_readStreet at hb
  rw [rd_2] at hb
  by_cases e8 : SM 134 2 = 8
  · obtain ⟨SC1, SM1, x1, x2, x3, x4, x5, x6⟩ := fail_j (f := 4) (by decide) hJ
    rw [if_neg (by omega), x1, bnd_s] at ha
    rw [if_pos e8, x2, bnd_s, bnd_s, if_neg x6] at hb
    exact ⟨SC1, SM1, ha, hb, x3, FM_f x4, fun o1 => absurd o1.1 x6⟩
  · obtain ⟨l, hl⟩ : ∃ l : Nat, SM 134 2 = l := ⟨(SM 134 2).toNat, by omega⟩
    have hl8 : l < 8 := by omega
    obtain ⟨SC1, SM1, x1, x2, x3, x4, x5, x6, x7⟩ := adv_j ht hJ o hk
    have c1 : SC1 21 5 = SM 134 1 := (x4.2.2.1 5 (by decide)).trans d1
    obtain ⟨v, v', SC2, SM2, y1, y2, y3, y4, y5, y6⟩ := tk_j (lo := 0) (hi := SM 134 1 - 1) ht (by omega) x3
    have c2 : SC2 21 5 = SM 134 1 := (y4.2.2.1 5 (by decide)).trans c1
    have c26 : SC2 21 6 = (l : Int) := by rw [y4.2.2.1 6 (by decide), x4.2.2.1 6 (by decide), d2, hl]; omega
    have y3' : JX T U n 2 SC2 (up SM2 134 (10 + l) v') := JX_m (by omega) y3
    obtain ⟨w, w', SC3, SM4, SM3, z1, z2, z3, z4, z5, z6, z7, z8⟩ := tk2_j (lo := 0) (hi := SM 134 1 - 1) (v := v) (v1 := l) ht (by omega) hl8 y3' (fun o2 => by
      rw [up_self]
      exact (y6 (Ok_m.mp o2)).2.1)
    have c36 : SC3 21 6 = (l : Int) := (z6.2.2.1 6 (by decide)).trans c26
    obtain ⟨SC5, k1, k2, k3, k4, k5, k6, k7, k8⟩ := addS_ok (b := v) (e := w) hl8 c36
    have z5' : JX T U n 2 SC5 (up SM4 134 (18 + l) w') := JX_wr (fun j _ => by rw [k2 19 (by decide)]) (k2 20 (by decide)) (k3 9 (by decide)) (k2 25 (by decide)) (fun _ _ => rfl) rfl (fun _ _ => rfl) (JX_m (by omega) z5)
    have e4 : up SM4 134 (18 + l) w' 134 2 = (l : Int) := by rw [up_k (by omega), z7, up_k (by omega), y5, x5]; exact hl
    obtain ⟨SC6, SM6, q1, q2, q3, q4, q5, q6⟩ := part_loop ht hl8 n FU FU 0 SC5 (up SM4 134 (18 + l) w') (JX_w (by omega) z5') k4 (fun o5 => by
      have o4 := Ok_m.mp o5
      obtain ⟨o3, r1, r2, r3, r4, r5⟩ := z8 o4
      obtain ⟨o1, s1, s2, s3, s4⟩ := y6 (Ok_m.mp o3)
      rw [up_row (a := 130) (by decide)] at r5
      refine ⟨by have := at_0 (JX_O z5' o5); omega, ?_, e4⟩
      rw [up_row (a := 130) (by decide)]
      have D3 : DrQ 0 SC3 (SM 134) (SM4 130 6) := DrQ_c (fun a ha => ((z6.1 a (by simp; omega)).trans (y4.1 a (by simp; omega))).trans (x4.1 a (by simp; omega))) (fun j hj => ((z6.2.2.1 j hj).trans (y4.2.2.1 j hj)).trans (x4.2.2.1 j hj)) (by omega) hD
      refine dr_new (b := v) (e := w) hl8 hl (fun k h1 h2 => ?_) ?_ ?_ (by omega) (by omega) (fun z => r4 z.symm) k2 k3 k4 k5 k6 k7 k8 D3
      · rw [up_k h2, z7, up_k h1, y5, x5]
      · rw [up_k (by omega), z7, up_self, s1]
      · rw [up_self, r1]) (by unfold FU; omega) (by unfold FU; omega) (by omega)
    have q1' : fX3_streetLine_L65 FU 0 SC5 = some SC6 := q1
    rw [if_pos (by omega), x1, bnd_s, c1, w32_eq (by omega) (by omega), y1, bnd_s] at ha
    simp only at ha
    rw [c2, w32_eq (by omega) (by omega), z1, bnd_s] at ha
    simp only at ha
    rw [k1, bnd_s, q1', bnd_s] at ha
    have m1 : SM1 134 1 = SM 134 1 := by rw [x5]
    have m3 : SM3 134 1 = SM 134 1 := by rw [z4, up_k (by omega), y5, x5]
    rw [if_neg e8, bnd_s, if_pos o.1, x2, bnd_s, rd_1, m1, w32_eq (by omega) (by omega), y2, bnd_s] at hb
    simp only at hb
    rw [hl, show w32 (10 + (l : Int)) = ((10 + l : Nat) : Int) by rw [w32_eq (by omega) (by omega)]; omega, wrA_ok (by omega) (by omega), Int.toNat_natCast, is_ok, bnd_s] at hb
    rw [show w32 (10 + (l : Int)) = ((10 + l : Nat) : Int) by rw [w32_eq (by omega) (by omega)]; omega] at z2
    rw [z2, bnd_s, rd_1, m3, w32_eq (by omega) (by omega), z3, bnd_s] at hb
    simp only at hb
    rw [show w32 (18 + (l : Int)) = ((18 + l : Nat) : Int) by rw [w32_eq (by omega) (by omega)]; omega, wrA_ok (by omega) (by omega), Int.toNat_natCast, q2, bnd_s] at hb
    have F6 : FM SM SM6 := FM_t (FM_f x4) (FM_t (FM_f y4) (FM_t FM_u (FM_t (FM_f z6) (FM_t FM_u q4))))
    by_cases w6 : SM6 130 11 = 0
    · rw [if_pos w6, rd_2, wr_2] at hb
      refine ⟨SC6, _, ha, hb, JX_m (by omega) q3, FM_t F6 FM_u, fun o7 => ?_⟩
      obtain ⟨o5, r1, r2, r3⟩ := q6 (Ok_m.mp o7)
      have o4 := Ok_m.mp o5
      obtain ⟨o3, _, _, _, _, r5⟩ := z8 o4
      obtain ⟨o1, _, _, _, s4⟩ := y6 (Ok_m.mp o3)
      rw [up_row (a := 130) (by decide)] at r1 r5 ⊢
      refine ⟨by omega, dr_end hl8 r3 (fun k hk => up_k hk) ?_ r2⟩
      rw [up_self, r3, w32_k (by omega)]
    · rw [if_neg w6] at hb
      exact ⟨SC6, SM6, ha, hb, q3, F6, fun o7 => absurd o7.1 w6⟩
