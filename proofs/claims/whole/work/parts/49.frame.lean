/-! what holds between calls, carried over changes of other cells -/
def keepA (a : Nat) : Prop := a ≤ 10 ∨ a = 19 ∨ a = 20 ∨ (59 ≤ a ∧ a ≤ 102) ∨ (104 ≤ a ∧ a ≤ 129) ∨ (131 ≤ a ∧ a ≤ 133) ∨ 147 ≤ a
theorem stEq_fr {S S' : SS} {Q : Nat → Int} {r o : Nat} (h0 : S' r = S r) (h1 : S' (r + 1) = S (r + 1)) (h2 : S' (r + 2) = S (r + 2)) (h3 : S' (r + 3) = S (r + 3)) (h : stEq S r Q o) : stEq S' r Q o := by
  unfold stEq; rw [h0, h1, h2, h3]; exact h
theorem hist_fr {S S' : SS} (h59 : S' 59 = S 59) (h131 : S' 131 = S 131) (hk : ∀ a, 61 ≤ a → a ≤ 100 → S' a = S a) (h : hist S) : hist S' := by
  unfold hist
  have ek : ∀ i, kAt S' i = kAt S i := fun i => by unfold kAt; rw [h59]
  have hb : ∀ i : Nat, 61 ≤ kAt S i ∧ kAt S i + 3 ≤ 100 := fun i => by unfold kAt; omega
  rw [h59, h131]
  refine ⟨h.1, fun i hi => ?_⟩
  rw [ek]
  obtain ⟨h1, h2⟩ := h.2 i hi
  have hb := hb i
  exact ⟨stEq_fr (hk _ (by omega) (by omega)) (hk _ (by omega) (by omega)) (hk _ (by omega) (by omega)) (hk _ (by omega) (by omega)) h1, h2⟩
theorem tape_fr {S S' : SS} (h19 : S' 19 = S 19) (h20 : S' 20 = S 20) (h133 : S' 133 = S 133) (a5 : S' 130 5 = S 130 5) (a13 : S' 130 13 = S 130 13) (a14 : S' 130 14 = S 130 14) (h : tape S) : tape S' := by
  unfold tape; rw [h19, h20, h133, a5, a13, a14]; exact h
theorem tray_fr {S S' : SS} {i : Nat} (h1 : S' (104 + 2 * i) = S (104 + 2 * i)) (h2 : S' (105 + 2 * i) = S (105 + 2 * i)) (h147 : S' 147 = S 147) (h148 : S' 148 = S 148) (h149 : S' 149 = S 149) (h : tray S i) : tray S' i := by
  unfold tray; rw [h1, h2, h147, h148, h149]; exact h
theorem trays_fr {S S' : SS} (hq : ∀ a, 104 ≤ a → a ≤ 111 → S' a = S a) (h147 : S' 147 = S 147) (h148 : S' 148 = S 148) (h149 : S' 149 = S 149) (h : Trays S) : Trays S' :=
  ⟨tray_fr (hq _ (by omega) (by omega)) (hq _ (by omega) (by omega)) h147 h148 h149 h.1, tray_fr (hq _ (by omega) (by omega)) (hq _ (by omega) (by omega)) h147 h148 h149 h.2.1,
   tray_fr (hq _ (by omega) (by omega)) (hq _ (by omega) (by omega)) h147 h148 h149 h.2.2.1, tray_fr (hq _ (by omega) (by omega)) (hq _ (by omega) (by omega)) h147 h148 h149 h.2.2.2⟩
theorem imag_fr {S S' : SS} {i : Nat} {b : Bool} (hi : i < 2) (hq : ∀ a, 112 ≤ a → a ≤ 129 → S' a = S a) (h132 : S' 132 = S 132) (h131 : ∀ k, 1101 ≤ k → S' 131 k = S 131 k) (h : imag S i b) : imag S' i b := by
  have e : sft (S' 131) (1101 * (i + 1)) = sft (S 131) (1101 * (i + 1)) := by
    funext k; unfold sft; exact h131 _ (by omega)
  unfold imag; rw [h132, e]
  obtain h | ⟨h1, h2, h3, h4, h5, h6⟩ := h
  · exact Or.inl h
  · refine Or.inr ⟨h1, h2, townR_fr (hq _ (by omega) (by omega)) (hq _ (by omega) (by omega)) (hq _ (by omega) (by omega)) (hq _ (by omega) (by omega)) (hq _ (by omega) (by omega)) h3, h4, ?_, ?_⟩
    · exact stEq_fr (hq _ (by omega) (by omega)) (hq _ (by omega) (by omega)) (hq _ (by omega) (by omega)) (hq _ (by omega) (by omega)) h5
    · rw [h131 _ (by omega)]; exact h6
theorem imgs_fr {S S' : SS} (h1 : S' 1 = S 1) (hq : ∀ a, 112 ≤ a → a ≤ 129 → S' a = S a) (h132 : S' 132 = S 132) (h131 : ∀ k, 1101 ≤ k → S' 131 k = S 131 k) (h : Imgs S) : Imgs S' := by
  obtain ⟨b0, b1, h0, i0, i1⟩ := h
  exact ⟨b0, b1, by rw [h1]; exact h0, imag_fr (by omega) hq h132 h131 i0, imag_fr (by omega) hq h132 h131 i1⟩
theorem stand_fr {S S' : SS} (h7 : S' 7 = S 7) (h8 : S' 8 = S 8) (h9 : S' 9 = S 9) (h10 : S' 10 = S 10) (h131 : S' 131 = S 131) (h : Stand S) : Stand S' := by
  unfold Stand; rw [h131]; exact ⟨stEq_fr h7 h8 h9 h10 h.1, h.2⟩
theorem core_fr {S S' : SS} (hq : ∀ a, a ≤ 10 ∨ a = 131 → S' a = S a) (hl : lanes S') (h : Core S) : Core S' := by
  refine ⟨?_, ?_, hl⟩
  · rw [hq 131 (by omega)]; exact townR_fr (hq _ (by omega)) (hq _ (by omega)) (hq _ (by omega)) (hq _ (by omega)) (hq _ (by omega)) h.1
  · rw [hq 131 (by omega)]; exact h.2.1
theorem inv_fr {S S' : SS} (hq : ∀ a, keepA a → S' a = S a) (a0 : S' 130 0 = 0) (a5 : S' 130 5 = S 130 5) (a13 : S' 130 13 = S 130 13) (a14 : S' 130 14 = S 130 14) (hl : lanes S') (h : Inv S) : Inv S' := by
  have k : ∀ a, keepA a → S' a = S a := hq
  unfold keepA at k
  obtain ⟨_, h2, h3, h4, h5, h6, h7⟩ := h
  refine ⟨a0, core_fr (fun a ha => k a (by omega)) hl h2, stand_fr (k _ (by omega)) (k _ (by omega)) (k _ (by omega)) (k _ (by omega)) (k _ (by omega)) h3, hist_fr (k _ (by omega)) (k _ (by omega)) (fun a x y => k a (by omega)) h4,
    tape_fr (k _ (by omega)) (k _ (by omega)) (k _ (by omega)) a5 a13 a14 h5, trays_fr (fun a x y => k a (by omega)) (k _ (by omega)) (k _ (by omega)) (k _ (by omega)) h6, imgs_fr (k _ (by omega)) (fun a x y => k a (by omega)) (k _ (by omega)) (fun j _ => by rw [k 131 (by omega)]) h7⟩
/-- a call that asks only -/
theorem inv_q {S S1 S2 : SS} (h : Inv S) (hl : lanes S1) (f1 : ∀ a, keepA a ∨ a = 130 → S1 a = S a) (f2 : ∀ a, keepA a ∨ a = 130 ∨ a = 30 ∨ a = 33 → S2 a = S1 a) : Inv S2 := by
  have e : ∀ a, keepA a ∨ a = 130 → S2 a = S a := fun a ha => (f2 a (ha.elim Or.inl (fun h => Or.inr (Or.inl h)))).trans (f1 a ha)
  have e130 : S2 130 = S 130 := e 130 (Or.inr rfl)
  exact inv_fr (fun a ha => e a (Or.inl ha)) (by rw [e130]; exact h.1) (by rw [e130]) (by rw [e130]) (by rw [e130])
    (lanes_fr (f2 30 (by omega)) (f2 33 (by omega)) (f2 131 (by unfold keepA; omega)) hl) h
/-! the standing -/
theorem now_c {S : SS} (h : Stand S) {g : Int} (h0 : 0 ≤ g) (h1 : g < 3) : S 9 g.toNat = S 131 (34 + g).toNat ∧ S 10 g.toNat = S 131 (37 + g).toNat ∧ (0 ≤ S 131 (34 + g).toNat ∧ S 131 (34 + g).toNat < S 131 1) ∧ (0 ≤ S 131 (37 + g).toNat ∧ S 131 (37 + g).toNat ≤ 19) := by
  have e1 : (34 + g).toNat = 34 + g.toNat := by omega
  have e2 : (37 + g).toNat = 34 + 3 + g.toNat := by omega
  rw [e1, e2]
  exact ⟨h.1.1 _ (by omega), h.1.2.1 _ (by omega), h.2.1 _ (by omega), h.2.2.1 _ (by omega)⟩
theorem now_s {S : SS} (h : Stand S) {s : Int} (h0 : 0 ≤ s) (h1 : s < 8) : S 8 s.toNat = S 131 (40 + s).toNat ∧ (0 ≤ S 131 (40 + s).toNat ∧ S 131 (40 + s).toNat ≤ 3) := by
  have e1 : (40 + s).toNat = 34 + 6 + s.toNat := by omega
  rw [e1]
  exact ⟨h.1.2.2.1 _ (by omega), h.2.2.2.1 _ (by omega)⟩
theorem now_b {S : SS} (h : Stand S) : S 7 3 = S 131 48 ∧ (0 ≤ S 131 48 ∧ S 131 48 ≤ 9) := ⟨h.1.2.2.2, h.2.2.2.2⟩
def spotP (R : Nat → Int) (g : Int) : Int := R (34 + g).toNat * 20 + R (37 + g).toNat
theorem spotOf_ok {S : SS} {p : Nat} {g c y : Int} (h0 : 0 ≤ g) (h1 : g < 3) (hc : S (p + 2) g.toNat = c) (hy : S (p + 3) g.toNat = y) (c0 : 0 ≤ c) (c1 : c < 6) (y0 : 0 ≤ y) (y1 : y ≤ 19) : fX6_spotOf p g S = some (c * 20 + y) := by
  unfold fX6_spotOf fX6_cornerOf fX6_yearOf
  rw [if_neg (by omega), if_neg (by omega), rdA_ok h0 (by omega), hc, bnd_s, rdA_ok h0 (by omega), if_neg (by omega), if_neg (by omega), hy, bnd_s, w32_eq (x := c * 20) (by omega) (by omega), w32_eq (by omega) (by omega)]
theorem spotOf_no {S : SS} {p : Nat} {g : Int} (h : ¬ (0 ≤ g ∧ g < 3)) : fX6_spotOf p g S = some 0 := by
  unfold fX6_spotOf fX6_cornerOf fX6_yearOf
  by_cases c : g < 0
  · rw [if_pos c, if_pos c]; rfl
  · rw [if_neg c, if_pos (by omega), bnd_s, if_neg c, if_pos (by omega)]; rfl
theorem spot_now {S : SS} (hS : Stand S) (hB : townB (S 131)) {g : Int} (h0 : 0 ≤ g) (h1 : g < 3) : fX6_spotOf 7 g S = some (spotP (S 131) g) ∧ 0 ≤ spotP (S 131) g ∧ spotP (S 131) g < 20 * S 131 1 := by
  obtain ⟨a, b, c, d⟩ := now_c hS h0 h1
  have := hB.1
  refine ⟨spotOf_ok h0 h1 a b c.1 (by omega) d.1 d.2, ?_⟩
  unfold spotP
  omega
theorem bd_c {Q : Nat → Int} {C : Int} (h : stBd Q 34 C) {g : Int} (h0 : 0 ≤ g) (h1 : g < 3) : (0 ≤ Q (34 + g).toNat ∧ Q (34 + g).toNat < C) ∧ (0 ≤ Q (37 + g).toNat ∧ Q (37 + g).toNat ≤ 19) := by
  have e1 : (34 + g).toNat = 34 + g.toNat := by omega
  have e2 : (37 + g).toNat = 34 + 3 + g.toNat := by omega
  rw [e1, e2]
  exact ⟨h.1 _ (by omega), h.2.1 _ (by omega)⟩
theorem spotP_b {Q : Nat → Int} (h : stBd Q 34 (Q 1)) {g : Int} (h0 : 0 ≤ g) (h1 : g < 3) : 0 ≤ spotP Q g ∧ spotP Q g < 20 * Q 1 := by
  obtain ⟨c, d⟩ := bd_c h h0 h1
  unfold spotP
  omega
theorem standOf_ok {S : SS} (hS : stBd (S 131) 34 (S 131 1)) (hB : townB (S 131)) {g : Int} (h0 : 0 ≤ g) (h1 : g < 3) : fX12_standOf g S = some (spotP (S 131) g) := by
  obtain ⟨c, d⟩ := bd_c hS h0 h1
  have := hB.1
  unfold fX12_standOf spotP
  rw [w32_eq (x := 34 + g) (by omega) (by omega), w32_eq (x := 37 + g) (by omega) (by omega), rdA_ok (by omega) (by omega), rdA_ok (by omega) (by omega), w32_eq (x := 20 * S 131 (34 + g).toNat) (by omega) (by omega), w32_eq (by omega) (by omega), Int.mul_comm 20]
/-! a goer's going now -/
def goP (R : Nat → Int) (g s : Int) : Int := if (0 ≤ g ∧ g < R 3) ∧ (0 ≤ s ∧ s < R 2) then aftP R g s (spotP R g) (R (40 + s).toNat) (R 48) else -1
theorem goP_b {S : SS} (hB : townB (S 131)) {g s : Int} : (-4 ≤ goP (S 131) g s ∧ goP (S 131) g s ≤ -1) ∨ (0 ≤ goP (S 131) g s ∧ goP (S 131) g s < 20 * S 131 1) := by
  unfold goP
  split
  · rename_i h
    have := @aftP_b (S 131) g s (spotP (S 131) g) (S 131 (40 + s).toNat) (S 131 48) hB h.2
    omega
  · omega
theorem go_ok {S : SS} (hC : Core S) (hS : Stand S) {g s : Int} : ∃ x S', fX6_spotOf 7 g S = some x ∧ fX5_after g s x 7 S = some (goP (S 131) g s, S') ∧ lanes S' := by
  obtain ⟨hR, hB, hL⟩ := id hC
  have h2 := hB.2.1
  have h3 := hB.2.2.1
  have h1 := hB.1
  unfold goP
  by_cases c : (0 ≤ g ∧ g < S 131 3) ∧ (0 ≤ s ∧ s < S 131 2)
  · rw [if_pos c]
    obtain ⟨a1, a2, a3⟩ := spot_now hS hB c.1.1 (show g < 3 by omega)
    obtain ⟨b1, b2⟩ := now_b hS
    obtain ⟨S', e1, e2⟩ := after_ok (spot := spotP (S 131) g) (p := 7) hC c.1 c.2 ⟨a2, by omega⟩ (now_s hS c.2.1 (by omega)).1 b1 b2
    exact ⟨_, S', a1, e1, e2⟩
  · rw [if_neg c]
    by_cases c3 : 0 ≤ g ∧ g < 3
    · exact ⟨_, S, (spot_now hS hB c3.1 c3.2).1, after_no hR hB (by omega), hL⟩
    · exact ⟨_, S, spotOf_no c3, after_no hR hB (by omega), hL⟩
theorem whyGo_ok {S : SS} (hB : townB (S 131)) (hS : stBd (S 131) 34 (S 131 1)) {g s : Int} (cg : cI g) (cs : cI s) : ∃ S', fX12_whyGo g s S = some (if goP (S 131) g s < 0 then - goP (S 131) g s else 0, S') := by
  have h2 := hB.2.1
  have h3 := hB.2.2.1
  have h1 := hB.1
  have eg : ∀ b : Prop, (b ↔ (0 ≤ g ∧ g < S 131 3) ∧ (0 ≤ s ∧ s < S 131 2)) → (b → goP (S 131) g s = aftP (S 131) g s (spotP (S 131) g) (S 131 (40 + s).toNat) (S 131 48)) ∧ (¬ b → goP (S 131) g s = -1) := by
    intro b hb
    unfold goP
    exact ⟨fun h => by rw [if_pos (hb.mp h)], fun h => by rw [if_neg (fun x => h (hb.mpr x))]⟩
  unfold fX12_whyGo
  rw [isGoer_ok h3.1 h3.2, bnd_s]
  by_cases c : 0 ≤ g ∧ g < S 131 3
  · rw [if_pos (decide_eq_true c), isStreet_ok h2.1 h2.2, bnd_s]
    by_cases d : 0 ≤ s ∧ s < S 131 2
    · rw [if_pos (decide_eq_true d), (eg _ Iff.rfl).1 ⟨c, d⟩, w32_id cg, w32_id cs, standOf_ok hS hB c.1 (by omega), bnd_s, w32_eq (x := 40 + s) (by omega) (by omega), rdA_ok (by omega) (by omega)]
      obtain ⟨a2, a3⟩ := spotP_b hS c.1 (show g < 3 by omega)
      obtain ⟨S', e⟩ := whyBy_ok (at1 := spotP (S 131) g) (sg := S 131 (40 + s).toNat) hB (show 0 ≤ g ∧ g < 3 by omega) d ⟨a2, by omega⟩ hS.2.2.2
      rw [e, bnd_s]
      exact ⟨S', rfl⟩
    · rw [if_neg (by rw [decide_eq_true_eq]; exact d), (eg _ Iff.rfl).2 (fun h => d h.2)]
      exact ⟨S, rfl⟩
  · rw [if_neg (by rw [decide_eq_true_eq]; exact c), (eg _ Iff.rfl).2 (fun h => c h.1)]
    exact ⟨S, rfl⟩
