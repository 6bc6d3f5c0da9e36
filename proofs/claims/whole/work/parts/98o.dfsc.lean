theorem up_pt {S : SS} {a j : Nat} {v : Int} : up S a j v a = pt (S a) j v := by
  funext i
  rw [up_at]
  rfl
theorem orb_b : ∀ (p : Nat → Bool) (n : Nat), n < 9 → ∃ W : Nat, orb p n = W ∧ W < 2 ^ n := by
  intro p n
  induction n with
  | zero => intro _; exact ⟨0, rfl, by decide⟩
  | succ n ih =>
    intro hn
    obtain ⟨W, w1, w2⟩ := ih (by omega)
    show ∃ W : Nat, (if p n = true then jor (orb p n) (jshl 1 n) else orb p n) = W ∧ _
    by_cases c : p n = true
    · rw [if_pos c, w1]
      have : ∀ n, n < 8 → ∀ W, W < 2 ^ n → jor ((W : Nat) : Int) (jshl 1 (n : Nat)) = ((W + 2 ^ n : Nat) : Int) := by decide +kernel
      refine ⟨W + 2 ^ n, this n (by omega) W w2, ?_⟩
      rw [Nat.pow_succ]; omega
    · rw [if_neg c]
      exact ⟨W, w1, by rw [Nat.pow_succ]; omega⟩
theorem lv_b {R v : Nat → Int} {c : Int} (h8 : R 2 ≤ 8) : ∃ L : Nat, lvP R v c = L ∧ L < 256 := by
  obtain ⟨W, w1, w2⟩ := orb_b (fun s => decide (sideP R s c (v (6 + s)) ≠ -1)) (R 2).toNat (by omega)
  have t := Nat.pow_le_pow_right (show 2 > 0 by decide) (show (R 2).toNat ≤ 8 by omega)
  exact ⟨W, w1, Nat.lt_of_lt_of_le w2 t⟩
theorem open_neg {S : SS} {p : Int} (h : p < 0) : fX10_open 35 p S = some S := by
  unfold fX10_open
  rw [spot_n h, bnd_s, if_neg (by decide)]
theorem open_old {S : SS} {w : Nat} (h : w < 120) (hz : S 41 w ≠ 0) : fX10_open 35 w S = some S := by
  unfold fX10_open
  rw [spot_y (by omega) (by omega), bnd_s, if_pos rfl, rdA_ok (by omega) (by omega), Int.toNat_natCast, if_neg hz]
theorem open_new {S : SS} {w f : Nat} (h : w < 120) (hz : S 41 w = 0) (hf : f < 120) (h8 : S 35 8 = f) : ∃ S', fX10_open 35 w S = some S' ∧ S' 41 = pt (S 41) w 1 ∧ S' 42 = pt (S 42) w (S 40 (w / 20)) ∧ S' 36 = pt (S 36) f w ∧ S' 35 8 = ((f + 1 : Nat) : Int) ∧ ∀ a, a ≠ 35 → a ≠ 36 → a ≠ 41 → a ≠ 42 → S' a = S a := by
  unfold fX10_open
  rw [spot_y (by omega) (by omega), bnd_s, if_pos rfl, rdA_ok (by omega) (by omega), Int.toNat_natCast, if_pos hz, h8, if_neg (by omega), wrA_ok (by omega) (by omega), Int.toNat_natCast, strFrom_ok h, bnd_s, wrA_ok (by omega) (by omega), Int.toNat_natCast]
  rw [show up (up S (35 + 6) w 1) (35 + 7) w (up S (35 + 6) w 1 (35 + 5) (w / 20)) 35 8 = (f : Int) by rw [up_row (by decide), up_row (by decide)]; exact h8, wrA_ok (by omega) (by omega), Int.toNat_natCast, lt_ok]
  refine ⟨_, rfl, ?_, ?_, ?_, ?_, fun a h1 h2 h3 h4 => ?_⟩
  · rw [up_row (by decide), up_row (by decide), up_row (by decide), up_pt]
  · rw [up_row (by decide), up_row (by decide), up_pt, up_row (by decide), up_row (by decide)]
  · rw [up_row (by decide), up_pt, up_row (by decide), up_row (by decide)]
  · rw [up_self, up_row (by decide), up_row (by decide), up_row (by decide), h8, w32_k (by omega)]
  · rw [up_row h1, up_row h2, up_row h4, up_row h3]
theorem dfs_loop {R v : Nat → Int} {g : Int} {st M : Nat} {nx : Nat → Nat → Int} (hG : nx = gr R g (fun s => v (6 + s)) (v 14)) (hM' : M = (20 * R 1).toNat) (hst : st < M) : ∀ (m n i : Nat) (S : SS) (f : Nat) (o : Nat → Nat) (rk : Nat → Nat) (K : Nat), m + i = 1080 → m < n → Core S → S 131 = R → stV S 15 v → bdV v (R 1) → (0 ≤ g ∧ g < R 3) → (∀ c : Nat, c < 6 → S 40 c = lvP R v c) → S 35 8 = f → (∀ j, j < f → S 36 j = o j) → DI nx st M (R 2).toNat f o (S 41) (S 42) rk K → ysum (phi (S 41) (S 42)) 120 + i ≤ 1080 →
    ∃ r S', fX10_hasRing_L26 35 g 15 n i S = some (r, S') ∧ lanes S' ∧ ((r = 0 ∧ RingP nx st) ∨ (r = 1 ∧ ¬ RingP nx st)) := by
  intro m
  induction m with
  | zero =>
    intro n i S f o rk K hk hn hC hR hv hb hg h40 h8 h36 hD hm
    obtain ⟨n, rfl⟩ := suc_of hn
    have hB : townB R := by rw [← hR]; exact hC.2.1
    have r1 := hB.1
    have hM : M ≤ 120 := by omega
    have hnx : ∀ a s, nx a s < M := by rw [hG, hM']; exact gr_lt hB
    have f0 : f = 0 := by
      by_cases z : f = 0
      · exact z
      · obtain ⟨a, b⟩ := hD.1 0 (by omega)
        have := meas_pos (un := S 42) (show o 0 < 120 by omega) b
        omega
    subst f0
    unfold fX10_hasRing_L26
    rw [if_pos (by omega)]
    exact ⟨1, S, rfl, hC.2.2, Or.inr ⟨rfl, DI_false hM hnx hst hD⟩⟩
  | succ m ih =>
    intro n i S f o rk K hk hn hC hR hv hb hg h40 h8 h36 hD hm
    obtain ⟨n, rfl⟩ := suc_of hn
    have hB : townB R := by rw [← hR]; exact hC.2.1
    have r1 := hB.1
    have r2 := hB.2.1
    have hM : M ≤ 120 := by omega
    have hnx : ∀ a s, nx a s < M := by rw [hG, hM']; exact gr_lt hB
    cases f with
    | zero =>
      unfold fX10_hasRing_L26
      rw [if_neg (by omega), if_pos (show S 35 8 ≤ 0 by rw [h8]; decide)]
      exact ⟨1, S, rfl, hC.2.2, Or.inr ⟨rfl, DI_false hM hnx hst hD⟩⟩
    | succ f =>
      have hf := DI_size hD
      obtain ⟨o1, o2⟩ := hD.1 f (by omega)
      obtain ⟨⟨W, hW, hW2⟩, hq, htr⟩ := hD.2.2.2.2.1 f (by omega)
      have ho : o f < 120 := by omega
      obtain ⟨a, ha⟩ : ∃ a, a = fX10_hasRing_L26 35 g 15 (n + 1) i S := ⟨_, rfl⟩
      rw [← ha]
      unfold fX10_hasRing_L26 at ha
      rw [if_neg (by omega), h8, if_neg (by omega), if_neg (by omega), show w32 (((f + 1 : Nat) : Int) - 1) = (f : Int) by rw [w32_eq (by omega) (by omega)]; omega, rdA_ok (by omega) (by omega), Int.toNat_natCast, h36 f (by omega), spot_y (p := ((o f : Nat) : Int)) (by omega) (by omega), bnd_s, if_pos rfl, rdA_ok (by omega) (by omega), Int.toNat_natCast, hW] at ha
      by_cases w0 : W = 0
      · have e35 : up S (35 + 6) (o f) 2 35 8 = ((f + 1 : Nat) : Int) := by rw [up_row (by decide)]; exact h8
        rw [if_pos (by omega), wrA_ok (by omega) (by omega), Int.toNat_natCast, e35, lt_ok, show w32 (((f + 1 : Nat) : Int) - 1) = (f : Int) by rw [w32_eq (by omega) (by omega)]; omega, lt_ok, w32_k (by omega)] at ha
        obtain ⟨S7, h7⟩ : ∃ X, X = up (up S (35 + 6) (o f) 2) 35 8 (f : Int) := ⟨_, rfl⟩
        rw [← h7] at ha
        have fr : ∀ b, b ≠ 35 → b ≠ 41 → S7 b = S b := fun b b1 b2 => by rw [h7, up_row b1, up_row b2]
        have e41 : S7 41 = pt (S 41) (o f) 2 := by rw [h7, up_row (by decide), up_pt]
        have e42 : S7 42 = S 42 := fr 42 (by decide) (by decide)
        have C7 : Core S7 := core_fr (fun b hb => fr b (by omega) (by omega)) (lanes_fr (fr _ (by decide) (by decide)) (fr _ (by decide) (by decide)) (fr _ (by decide) (by decide)) hC.2.2) hC
        obtain ⟨r, S', x1, x2, x3⟩ := ih n (i + 1) S7 f o (pt rk (o f) K) (K + 1) (by omega) (by omega) C7 ((fr 131 (by decide) (by decide)).trans hR) (stV_fr (fr _ (by decide) (by decide)) (fr _ (by decide) (by decide)) (fr _ (by decide) (by decide)) (fr _ (by decide) (by decide)) hv) hb hg (fun c hc => by rw [fr 40 (by decide) (by decide)]; exact h40 c hc) (by rw [h7, up_self]) (fun j hj => by rw [fr 36 (by decide) (by decide)]; exact h36 j (by omega))
          (by rw [e41, e42]; exact DI_close hM hnx hD (by rw [hW, w0]; rfl)) (by
            rw [e41, e42]
            have := meas_close (Z := S 41) (un := S 42) ho o2 (by rw [hW, w0]; rfl)
            omega)
        exact ⟨r, S', by rw [ha]; exact x1, x2, x3⟩
      · obtain ⟨s, W', k1, k2, k3, k4, k5, k6, k7⟩ := low_ok hW2 w0
        have hs : s < (R 2).toNat := hq s k2 (by rw [hW]; exact k3)
        rw [if_neg (by omega), wrA_ok (by omega) (by omega), Int.toNat_natCast, k4, k1, bnd_s] at ha
        obtain ⟨S9, h9⟩ : ∃ X, X = up S (35 + 7) (o f) (W' : Int) := ⟨_, rfl⟩
        rw [← h9] at ha
        have fr : ∀ b, b ≠ 42 → S9 b = S b := fun b b1 => by rw [h9, up_row b1]
        have e42 : S9 42 = pt (S 42) (o f) (W' : Int) := by rw [h9, up_pt]
        have C9 : Core S9 := core_fr (fun b hb => fr b (by omega)) (lanes_fr (fr _ (by decide)) (fr _ (by decide)) (fr _ (by decide)) hC.2.2) hC
        have R9 : S9 131 = R := (fr 131 (by decide)).trans hR
        have v9 : stV S9 15 v := stV_fr (fr _ (by decide)) (fr _ (by decide)) (fr _ (by decide)) (fr _ (by decide)) hv
        obtain ⟨S10, q1, q2⟩ := after_ok (S := S9) (g := g) (s := (s : Int)) (spot := (o f : Int)) (p := 15) (sg := v (6 + s)) (bol := v 14) C9 (by rw [R9]; exact hg) (by rw [R9]; omega) (by omega) (by rw [Int.toNat_natCast]; exact v9.2.2.1 s (by omega)) v9.2.2.2 hb.2.2.2
        rw [R9] at q1
        have f10 : ∀ b, (b < 31 ∨ 33 < b) → S10 b = S9 b := fun b hb => w_fX5_after q1 hb
        have fz : ∀ b, (b < 31 ∨ 33 < b) → b ≠ 42 → S10 b = S b := fun b b1 b2 => (f10 b b1).trans (fr b b2)
        have hx : (nx (o f) s = -1 ∧ ¬ 0 ≤ aftP R g s (o f) (v (6 + s)) (v 14)) ∨ (0 ≤ aftP R g s (o f) (v (6 + s)) (v 14) ∧ nx (o f) s = aftP R g s (o f) (v (6 + s)) (v 14)) := by
          rw [hG]
          unfold gr
          by_cases c2 : 0 ≤ aftP R g s (o f) (v (6 + s)) (v 14)
          · right; rw [if_pos ⟨by omega, c2⟩]; exact ⟨c2, rfl⟩
          · left; rw [if_neg (fun x => c2 x.2)]; exact ⟨rfl, c2⟩
        generalize aftP R g s (o f) (v (6 + s)) (v 14) = to at q1 hx
        rw [q1, bnd_s] at ha
        simp only at ha
        have C10 : Core S10 := core_fr (fun b hb => f10 b (by omega)) q2 C9
        have e41' : S10 41 = S 41 := fz 41 (by omega) (by omega)
        have e42' : S10 42 = pt (S 42) (o f) (W' : Int) := (f10 42 (by omega)).trans e42
        have v10 : stV S10 15 v := stV_fr (f10 _ (by omega)) (f10 _ (by omega)) (f10 _ (by omega)) (f10 _ (by omega)) v9
        have hb6 : ∀ k, k < 8 → bit (W' : Int) k = (bit (S 42 (o f)) k && decide (k ≠ s)) := by rw [hW]; exact k6
        have k7' : c8 (W' : Int) + 1 = c8 (S 42 (o f)) := by rw [hW]; exact k7
        have mt := meas_try (Z := S 41) (un := S 42) ho o2 k7'
        clear k7 k7' k6
        have again : (nx (o f) s = -1 ∨ ∃ w : Nat, nx (o f) s = w ∧ S 41 w = 2) → a = fX10_hasRing_L26 35 g 15 n ((i + 1 : Nat) : Int) S10 → ∃ r S', a = some (r, S') ∧ lanes S' ∧ ((r = 0 ∧ RingP nx st) ∨ (r = 1 ∧ ¬ RingP nx st)) := by
          intro hx' ea
          obtain ⟨r, S', x1, x2, x3⟩ := ih n (i + 1) S10 (f + 1) o rk K (by omega) (by omega) C10 ((fz 131 (by omega) (by omega)).trans hR) v10 hb hg (fun c hc => by rw [fz 40 (by omega) (by omega)]; exact h40 c hc) (by rw [fz 35 (by omega) (by omega)]; exact h8) (fun j hj => by rw [fz 36 (by omega) (by omega)]; exact h36 j hj) (by rw [e41', e42']; exact DI_try hD k5 hb6 hx') (by rw [e41', e42']; omega)
          exact ⟨r, S', by rw [ea]; exact x1, x2, x3⟩
        by_cases t0 : to < 0
        · rw [spot_n t0, bnd_s, if_neg (by decide), open_neg t0, bnd_s, lt_ok, w32_k (by omega)] at ha
          refine again (Or.inl ?_) ha
          rcases hx with z | z
          · exact z.1
          · omega
        · obtain ⟨x1, x2⟩ : 0 ≤ to ∧ nx (o f) s = to := by
            rcases hx with z | z
            · exact absurd z.2 (by omega)
            · exact z
          have x3 := hnx (o f) s
          obtain ⟨w, rfl⟩ : ∃ w : Nat, to = w := ⟨to.toNat, by omega⟩
          have hw : w < M := by omega
          rw [spot_y (p := (w : Int)) (by omega) (by omega), bnd_s, if_pos rfl, rdA_ok (by omega) (by omega), Int.toNat_natCast, show S10 (35 + 6) w = S 41 w by rw [e41']] at ha
          by_cases z1 : S 41 w = 1
          · rw [if_pos z1] at ha
            exact ⟨0, S10, ha, q2, Or.inl ⟨rfl, DI_true hD (by omega) k2 x2 z1⟩⟩
          · rw [if_neg z1] at ha
            by_cases z0 : S 41 w = 0
            · have hf2 : f + 2 ≤ M := by
                refine pigeon M (f + 2) (pt o (f + 1) w) (fun j hj => ?_) (fun j1 j2 h1 h2 e => ?_)
                · by_cases c : j = f + 1
                  · rw [c, pt_h]; exact hw
                  · rw [pt_o c]; exact (hD.1 j (by omega)).1
                · have nt : ∀ j, j < f + 1 → o j ≠ w := fun j hj e => by have := (hD.1 j hj).2; rw [e, z0] at this; exact absurd this (by decide)
                  by_cases c1 : j1 = f + 1
                  · by_cases c2 : j2 = f + 1
                    · omega
                    · rw [c1, pt_h, pt_o c2] at e
                      exact absurd e.symm (nt j2 (by omega))
                  · by_cases c2 : j2 = f + 1
                    · rw [c2, pt_h, pt_o c1] at e
                      exact absurd e (nt j1 (by omega))
                    · rw [pt_o c1, pt_o c2] at e
                      exact hD.2.1 j1 j2 (by omega) (by omega) e
              obtain ⟨S11, y1, y2, y3, y4, y5, y6⟩ := open_new (S := S10) (w := w) (f := f + 1) (by omega) (by rw [e41']; exact z0) (by omega) (by rw [fz 35 (by omega) (by omega)]; exact h8)
              rw [y1, bnd_s, lt_ok, w32_k (by omega)] at ha
              obtain ⟨L, l1, l2⟩ := lv_b (R := R) (v := v) (c := ((w / 20 : Nat) : Int)) r2.2
              have el : S10 40 (w / 20) = (L : Int) := by rw [fz 40 (by omega) (by omega), h40 _ (by omega)]; exact l1
              have hbit : ∀ k, bit (L : Int) k = (decide (k < (R 2).toNat) && decide (sideP R k ((w / 20 : Nat) : Int) (v (6 + k)) ≠ -1)) := fun k => by
                rw [← l1]; unfold lvP; rw [bit_orb _ (by omega)]
              rw [el, e42'] at y3
              rw [e41'] at y2
              have ed : ((w / 20 : Nat) : Int) = (w : Int) / 20 := by omega
              have D11 := DI_open hM hnx hD k5 k2 hb6 hw x2 z0 l2 (fun k hk e => by
                rw [hbit k, Bool.and_eq_true] at e
                exact of_decide_eq_true e.1) (fun k hk e => by
                rw [hG]
                refine gr_none (fun h => ?_)
                rw [hbit k, decide_eq_true (show k < (R 2).toNat by omega), Bool.true_and, ed] at e
                exact (of_decide_eq_false e) h.2)
              have mo := meas_open (Z := S 41) (un := pt (S 42) (o f) (W' : Int)) (x := (L : Int)) (show w < 120 by omega) z0
              have C11 : Core S11 := core_fr (fun b hb => y6 b (by omega) (by omega) (by omega) (by omega)) (lanes_fr (y6 _ (by decide) (by decide) (by decide) (by decide)) (y6 _ (by decide) (by decide) (by decide) (by decide)) (y6 _ (by decide) (by decide) (by decide) (by decide)) q2) C10
              obtain ⟨r, S', p1, p2, p3⟩ := ih n (i + 1) S11 (f + 2) (pt o (f + 1) w) rk K (by omega) (by omega) C11 ((y6 131 (by decide) (by decide) (by decide) (by decide)).trans ((fz 131 (by omega) (by omega)).trans hR)) (stV_fr (y6 _ (by decide) (by decide) (by decide) (by decide)) (y6 _ (by decide) (by decide) (by decide) (by decide)) (y6 _ (by decide) (by decide) (by decide) (by decide)) (y6 _ (by decide) (by decide) (by decide) (by decide)) v10) hb hg (fun c hc => by rw [y6 40 (by decide) (by decide) (by decide) (by decide), fz 40 (by omega) (by omega)]; exact h40 c hc) y5 (fun j hj => by
                rw [y4]
                by_cases c : j = f + 1
                · rw [c, pt_h, pt_h]
                · rw [pt_o c, pt_o c, fz 36 (by omega) (by omega)]; exact h36 j (by omega)) (by rw [y2, y3]; exact D11) (by rw [y2, y3]; omega)
              exact ⟨r, S', by rw [ha]; exact p1, p2, p3⟩
            · have z2 : S 41 w = 2 := by
                rcases hD.2.2.2.2.2.2.2.2 w (by omega) with z | z | z
                · exact absurd z z0
                · exact absurd z z1
                · exact z
              rw [open_old (by omega) (by rw [e41']; exact z0), bnd_s, lt_ok, w32_k (by omega)] at ha
              exact again (Or.inr ⟨w, x2, z2⟩) ha
