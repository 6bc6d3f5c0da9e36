/-! the game, and the class's -/
def anN (p : Nat → Bool) : Nat → Nat → Bool
  | 0, _ => false
  | m + 1, k => p k || anN p m (k + 1)
def alN (p : Nat → Bool) : Nat → Nat → Bool
  | 0, _ => true
  | m + 1, k => p k && alN p m (k + 1)
theorem anN_s {p : Nat → Bool} {m k : Nat} : anN p (m + 1) k = (p k || anN p m (k + 1)) := rfl
theorem alN_s {p : Nat → Bool} {m k : Nat} : alN p (m + 1) k = (p k && alN p m (k + 1)) := rfl
def afB (R : Nat → Int) (g x : Int) (s : Nat) (spot : Int) : Int := aftP R g s spot (sgB R x s) (R 48)
def vF (R : Nat → Int) (c : Int) (w : Int → Int → Bool) (t : Nat) (x spot : Int) : Bool :=
  if spot / 20 = c then true else if t = 0 then false else (w x spot && alN (fun s => if sgB R x s = 3 then true else w (jor x (jshl 1 (s : Nat))) spot) (R 2).toNat 0)
def byF (R : Nat → Int) (g c : Int) (w : Int → Int → Bool) (t : Nat) (x : Int) (s : Nat) (spot : Int) : Bool :=
  if 0 ≤ afB R g x s spot then vF R c w t x (afB R g x s spot) else false
def wP (R : Nat → Int) (g c : Int) : Nat → Int → Int → Bool
  | 0, _, spot => decide (spot / 20 = c)
  | t + 1, x, spot => if spot / 20 = c then true else anN (fun s => byF R g c (wP R g c t) t x s spot) (R 2).toNat 0 || vF R c (wP R g c t) t x spot
theorem sgB_or {R : Nat → Int} {x : Int} {k s : Nat} (hk : k < 8) (hs : s < 8) : sgB R (jor x (jshl 1 (k : Nat))) s = if s = k then 3 else sgB R x s := by
  unfold sgB
  rw [bit_or, bit_shl k (by omega) s (by omega)]
  by_cases e : s = k
  · rw [if_pos e, decide_eq_true e, Bool.or_true, if_pos rfl]
  · rw [if_neg e, decide_eq_false e, Bool.or_false]
def gmS (R : Nat → Int) (g c x : Int) (S : SS) : Prop := Core S ∧ S 131 = R ∧ S 54 2 = g ∧ S 54 3 = c ∧ S 55 3 = R 48 ∧ ∀ s, s < 8 → S 56 s = sgB R x s
def kp (S S' : SS) : Prop := lanes S' ∧ ∀ a, a < 31 ∨ 33 < a → S' a = S a
theorem gm_kp {R : Nat → Int} {g c x : Int} {S S' : SS} (h : gmS R g c x S) (hk : kp S S') : gmS R g c x S' := by
  obtain ⟨a, b, d, e, f, i⟩ := h
  refine ⟨core_fr (fun z hz => hk.2 z (by omega)) hk.1 a, (hk.2 131 (by omega)).trans b, by rw [hk.2 54 (by omega)]; exact d, by rw [hk.2 54 (by omega)]; exact e, by rw [hk.2 55 (by omega)]; exact f, fun s hs => by rw [hk.2 56 (by omega)]; exact i s hs⟩
theorem kp_t {S S1 S2 : SS} (h : kp S S1) (h2 : kp S1 S2) : kp S S2 := ⟨h2.1, fun a ha => (h2.2 a ha).trans (h.2 a ha)⟩
theorem kp_s {R : Nat → Int} {g c x : Int} {S : SS} (h : gmS R g c x S) : kp S S := ⟨h.1.2.2, fun _ _ => rfl⟩
def WC (R : Nat → Int) (g c : Int) (rc : Nat → Int → Int → Int → SS → Option (Bool × SS)) (t : Nat) : Prop := ∀ (x spot : Int) (S : SS), gmS R g c x S → 0 ≤ spot → spot < 120 → ∃ S', rc 0 spot (t : Int) 0 S = some (wP R g c t x spot, S') ∧ kp S S'
def VC (R : Nat → Int) (g c : Int) (rc : Nat → Int → Int → Int → SS → Option (Bool × SS)) (t : Nat) : Prop := ∀ (x spot : Int) (S : SS), gmS R g c x S → 0 ≤ spot → spot < 120 → spot / 20 ≠ c → ∃ S', rc 2 spot (t : Int) 0 S = some (vF R c (wP R g c t) t x spot, S') ∧ kp S S'
def BC (R : Nat → Int) (g c : Int) (rc : Nat → Int → Int → Int → SS → Option (Bool × SS)) (t : Nat) : Prop := ∀ (x spot : Int) (S : SS), gmS R g c x S → 0 ≤ spot → spot < 120 → (∀ s : Nat, s < (R 2).toNat → ∃ S', rc 1 (s : Int) spot ((t + 1 : Nat) : Int) S = some (byF R g c (wP R g c t) t x s spot, S') ∧ kp S S') ∧ ∃ S', rc 1 99 spot ((t + 1 : Nat) : Int) S = some (vF R c (wP R g c t) t x spot, S') ∧ kp S S'
theorem what_c {R : Nat → Int} {g c x spot : Int} {t : Nat} {rc : Nat → Int → Int → Int → SS → Option (Bool × SS)} (hB : townB R) (hW : WC R g c rc t) (h0 : 0 ≤ spot) (h1 : spot < 120) : ∀ (m n k : Nat) (S : SS), m + k = (R 2).toNat → m < n → gmS R g c x S → ∃ S', fX1_winsWhateverIsShut_L2 rc spot t n k S = some ((if alN (fun s => if sgB R x s = 3 then true else wP R g c t (jor x (jshl 1 (s : Nat))) spot) m k = true then 1 else 0), S') ∧ kp S S' := by
  have h2 := hB.2.1
  intro m
  induction m with
  | zero =>
    intro n k S hk hn hG
    obtain ⟨n, rfl⟩ := suc_of hn
    have e2 : S 2 6 = R 2 := by rw [hG.1.1.1.2.1, hG.2.1]
    unfold fX1_winsWhateverIsShut_L2
    rw [e2, if_pos (by omega)]
    exact ⟨S, rfl, kp_s hG⟩
  | succ m ih =>
    intro n k S hk hn hG
    obtain ⟨n, rfl⟩ := suc_of hn
    have e2 : S 2 6 = R 2 := by rw [hG.1.1.1.2.1, hG.2.1]
    have es : fX6_signOf 55 k S = some (sgB R x k) := by
      unfold fX6_signOf
      rw [if_neg (by omega), if_neg (by omega), rdA_ok (by omega) (by omega), Int.toNat_natCast]
      exact congrArg some (hG.2.2.2.2.2 k (by omega))
    have ss : ∀ (T : SS) (v : Int), fX6_setSign 55 k v T = some (up T 56 k v) := by
      intro T v
      unfold fX6_setSign
      rw [if_neg (by omega), if_neg (by omega), wrA_ok (by omega) (by omega), Int.toNat_natCast]
    unfold fX1_winsWhateverIsShut_L2
    rw [e2, if_neg (by omega), es, bnd_s]
    by_cases c3 : sgB R x k = 3
    · rw [if_pos c3, lt_ok, w32_k (by omega)]
      obtain ⟨S', a1, a2⟩ := ih n (k + 1) S (by omega) (by omega) hG
      refine ⟨S', ?_, a2⟩
      rw [a1, alN_s, if_pos c3, Bool.true_and]
    · rw [if_neg c3, ss, bnd_s]
      have f0 : ∀ a, a ≠ 56 → (up S 56 k 3) a = S a := fun a ha => up_row ha
      have hG1 : gmS R g c (jor x (jshl 1 (k : Nat))) (up S 56 k 3) := by
        obtain ⟨a, b, d, e, f, i⟩ := hG
        refine ⟨core_fr (fun z hz => f0 z (by omega)) (lanes_fr (f0 _ (by omega)) (f0 _ (by omega)) (f0 _ (by omega)) a.2.2) a, (f0 131 (by omega)).trans b, by rw [f0 54 (by omega)]; exact d, by rw [f0 54 (by omega)]; exact e, by rw [f0 55 (by omega)]; exact f, fun s hs => ?_⟩
        rw [up_at, sgB_or (by omega) hs, i s hs]
      obtain ⟨S4, b1, b2⟩ := hW _ spot _ hG1 h0 h1
      rw [b1, bnd_s, ss, bnd_s]
      simp only
      have k5 : kp S (up S4 56 k (sgB R x k)) := by
        refine ⟨lanes_fr (up_row (by omega)) (up_row (by omega)) (up_row (by omega)) b2.1, fun a ha => ?_⟩
        by_cases e : a = 56
        · subst e
          funext i
          rw [up_at, b2.2 56 (by omega), up_at]
          by_cases z : i = k
          · rw [if_pos z, z]; exact (hG.2.2.2.2.2 k (by omega)).symm
          · rw [if_neg z, if_neg z]
        · rw [up_row e, b2.2 a ha, f0 a e]
      by_cases w : wP R g c t (jor x (jshl 1 (k : Nat))) spot = true
      · rw [if_pos w, lt_ok, w32_k (by omega)]
        obtain ⟨S', a1, a2⟩ := ih n (k + 1) _ (by omega) (by omega) (gm_kp hG k5)
        refine ⟨S', ?_, kp_t k5 a2⟩
        rw [a1, alN_s, if_neg c3, w, Bool.true_and]
      · rw [if_neg w]
        refine ⟨_, ?_, k5⟩
        rw [alN_s, if_neg c3, Bool.eq_false_iff.mpr w, Bool.false_and, if_neg (by decide)]
theorem v_c {R : Nat → Int} {g c x spot : Int} {t : Nat} {rc : Nat → Int → Int → Int → SS → Option (Bool × SS)} {S : SS} (hB : townB R) (hW : WC R g c rc t) (ht : t ≠ 0) (h0 : 0 ≤ spot) (h1 : spot < 120) (hc : spot / 20 ≠ c) (hG : gmS R g c x S) : ∃ S', fX1_winsWhateverIsShut rc spot t S = some (vF R c (wP R g c t) t x spot, S') ∧ kp S S' := by
  have h2 := hB.2.1
  obtain ⟨S1, a1, a2⟩ := what_c (x := x) hB hW h0 h1 (R 2).toNat FU 0 S (by omega) (by unfold FU; omega) hG
  have a1' : fX1_winsWhateverIsShut_L2 rc spot t FU 0 S = _ := a1
  unfold fX1_winsWhateverIsShut vF
  rw [a1', bnd_s, if_neg hc, if_neg ht]
  simp only
  by_cases z : alN (fun s => if sgB R x s = 3 then true else wP R g c t (jor x (jshl 1 (s : Nat))) spot) (R 2).toNat 0 = true
  · rw [if_pos z, if_neg (by decide), z, Bool.and_true]
    obtain ⟨S2, b1, b2⟩ := hW x spot S1 (gm_kp hG a2) h0 h1
    exact ⟨S2, by rw [b1, bnd_s], kp_t a2 b2⟩
  · rw [if_neg z, if_pos rfl, Bool.eq_false_iff.mpr z, Bool.and_false]
    exact ⟨S1, rfl, a2⟩
theorem b_c {R : Nat → Int} {g c : Int} {t : Nat} {rc : Nat → Int → Int → Int → SS → Option (Bool × SS)} {n : Nat} (hB : townB R) (hb : 0 ≤ R 48 ∧ R 48 ≤ 9) (hg : 0 ≤ g ∧ g < R 3) (ht : t < 5) (hV : t ≠ 0 → VC R g c rc t) (hn : ∀ a b d S, fGX1_wins n 1 a b d S = fX1_winsBy rc a b d S) : BC R g c (fGX1_wins n) t := by
  have h1 := hB.1
  have h2 := hB.2.1
  intro x spot S hG p0 p1
  have fin : ∀ (q : Int) (T : SS), gmS R g c x T → 0 ≤ q → q < 120 → ∃ S', (if (w32 (Int.tdiv q 20)) = (T 54 3) then some (true, T) else (if ((t + 1 : Nat) : Int) ≤ 1 then some (false, T) else Option.bind (rc 2 q (w32 (((t + 1 : Nat) : Int) - 1)) 0 T) fun q4 => if q4.1 = true then some (true, q4.2) else some (false, q4.2))) = some (vF R c (wP R g c t) t x q, S') ∧ kp T S' := by
    intro q T hT q0 q1
    rw [tdiv20 q0, w32_eq (by omega) (by omega), hT.2.2.2.1]
    by_cases e : q / 20 = c
    · rw [if_pos e]
      refine ⟨T, ?_, kp_s hT⟩
      unfold vF
      rw [if_pos e]
    · rw [if_neg e]
      by_cases z : t = 0
      · rw [if_pos (by omega)]
        refine ⟨T, ?_, kp_s hT⟩
        unfold vF
        rw [if_neg e, if_pos z]
      · rw [if_neg (by omega), show w32 (((t + 1 : Nat) : Int) - 1) = (t : Int) by rw [w32_eq (by omega) (by omega)]; omega]
        obtain ⟨S2, b1, b2⟩ := hV z x q T hT q0 q1 e
        refine ⟨S2, ?_, b2⟩
        rw [b1, bnd_s]
        simp only
        cases vF R c (wP R g c t) t x q with
        | true => rfl
        | false => rfl
  refine ⟨fun s hs => ?_, ?_⟩
  · obtain ⟨hC, e131, e2, e3, e5, e6⟩ := id hG
    obtain ⟨S1, a1, a2⟩ := after_ok (s := s) (spot := spot) (p := 55) (sg := sgB R x s) (bol := R 48) hC (by rw [e131]; exact hg) (by rw [e131]; omega) ⟨p0, p1⟩ (by rw [Int.toNat_natCast]; exact e6 s (by omega)) e5 hb
    rw [e131] at a1
    have k1 : kp S S1 := ⟨a2, fun a ha => w_fX5_after a1 ha⟩
    rw [hn]
    unfold fX1_winsBy byF afB
    rw [if_neg (by omega), e2, a1, bnd_s, bnd_s]
    simp only
    by_cases z : 0 ≤ aftP R g s spot (sgB R x s) (R 48)
    · rw [if_pos z, if_pos z]
      have bb := @aftP_b R g s spot (sgB R x s) (R 48) hB ⟨by omega, by omega⟩
      obtain ⟨S', d1, d2⟩ := fin _ S1 (gm_kp hG k1) z (by omega)
      exact ⟨S', d1, kp_t k1 d2⟩
    · rw [if_neg z, if_neg z]
      exact ⟨S1, rfl, k1⟩
  · rw [hn]
    unfold fX1_winsBy
    rw [if_pos rfl, bnd_s]
    simp only
    rw [if_pos p0]
    exact fin spot S hG p0 p1
theorem wins_c {R : Nat → Int} {g c x spot : Int} {t : Nat} {rc : Nat → Int → Int → Int → SS → Option (Bool × SS)} (hB : townB R) (hW : BC R g c rc t) (h0 : 0 ≤ spot) (h1 : spot < 120) : ∀ (m n k : Nat) (S : SS), m + k = (R 2).toNat → m < n → gmS R g c x S → ∃ S', fX1_wins_L22 rc spot ((t + 1 : Nat) : Int) n k S = some ((if anN (fun s => byF R g c (wP R g c t) t x s spot) m k = true then 0 else 1), S') ∧ kp S S' := by
  have h2 := hB.2.1
  intro m
  induction m with
  | zero =>
    intro n k S hk hn hG
    obtain ⟨n, rfl⟩ := suc_of hn
    have e2 : S 2 6 = R 2 := by rw [hG.1.1.1.2.1, hG.2.1]
    unfold fX1_wins_L22
    rw [e2, if_pos (by omega)]
    exact ⟨S, rfl, kp_s hG⟩
  | succ m ih =>
    intro n k S hk hn hG
    obtain ⟨n, rfl⟩ := suc_of hn
    have e2 : S 2 6 = R 2 := by rw [hG.1.1.1.2.1, hG.2.1]
    obtain ⟨S1, a1, a2⟩ := (hW x spot S hG h0 h1).1 k (by omega)
    unfold fX1_wins_L22
    rw [e2, if_neg (by omega), a1, bnd_s]
    simp only
    by_cases z : byF R g c (wP R g c t) t x k spot = true
    · rw [if_pos z]
      refine ⟨S1, ?_, a2⟩
      rw [anN_s, z, Bool.true_or, if_pos rfl]
    · rw [if_neg z, lt_ok, w32_k (by omega)]
      obtain ⟨S', b1, b2⟩ := ih n (k + 1) S1 (by omega) (by omega) (gm_kp hG a2)
      refine ⟨S', ?_, kp_t a2 b2⟩
      rw [b1, anN_s, Bool.eq_false_iff.mpr z, Bool.false_or]
theorem w_c {R : Nat → Int} {g c : Int} {t : Nat} {rc : Nat → Int → Int → Int → SS → Option (Bool × SS)} {n : Nat} (hB : townB R) (ht : t < 5) (hW : BC R g c rc t) (hn : ∀ a b S, fGX1_wins n 0 a b 0 S = fX1_wins rc a b S) : WC R g c (fGX1_wins n) (t + 1) := by
  have h2 := hB.2.1
  intro x spot S hG h0 h1
  rw [hn]
  unfold fX1_wins wP
  rw [tdiv20 h0, w32_eq (by omega) (by omega), hG.2.2.2.1]
  by_cases e : spot / 20 = c
  · rw [if_pos e, if_pos e]
    exact ⟨S, rfl, kp_s hG⟩
  · rw [if_neg e, if_neg e, if_pos (by omega)]
    obtain ⟨S1, a1, a2⟩ := wins_c (x := x) hB hW h0 h1 (R 2).toNat FU 0 S (by omega) (by unfold FU; omega) hG
    have a1' : fX1_wins_L22 rc spot ((t + 1 : Nat) : Int) FU 0 S = _ := a1
    rw [a1', bnd_s]
    simp only
    by_cases z : anN (fun s => byF R g c (wP R g c t) t x s spot) (R 2).toNat 0 = true
    · rw [if_pos z, if_pos rfl, z, Bool.true_or]
      exact ⟨S1, rfl, a2⟩
    · rw [if_neg z, if_neg (by decide), Bool.eq_false_iff.mpr z, Bool.false_or]
      obtain ⟨S2, b1, b2⟩ := (hW x spot S1 (gm_kp hG a2) h0 h1).2
      exact ⟨S2, by rw [b1, bnd_s], kp_t a2 b2⟩
theorem game_b {R : Nat → Int} {g c : Int} {t n : Nat} (hB : townB R) (hb : 0 ≤ R 48 ∧ R 48 ≤ 9) (hg : 0 ≤ g ∧ g < R 3) (ht : t < 5) (hW : ∀ n, 3 * t + 1 ≤ n → WC R g c (fGX1_wins n) t) (hn : 3 * t + 3 ≤ n) : BC R g c (fGX1_wins n) t := by
  obtain ⟨n, rfl⟩ : ∃ m, n = m + 2 := ⟨n - 2, by omega⟩
  refine b_c (rc := fGX1_wins (n + 1)) hB hb hg ht (fun z => ?_) (fun a b d S => rfl)
  intro x spot S hG h0 h1 hc
  obtain ⟨S', e1, e2⟩ := v_c (x := x) hB (hW n (by omega)) z h0 h1 hc hG
  exact ⟨S', e1, e2⟩
theorem game_c {R : Nat → Int} {g c : Int} (hB : townB R) (hb : 0 ≤ R 48 ∧ R 48 ≤ 9) (hg : 0 ≤ g ∧ g < R 3) : ∀ t, t < 5 → ∀ n, 3 * t + 1 ≤ n → WC R g c (fGX1_wins n) t := by
  intro t
  induction t with
  | zero =>
    intro _ n hn x spot S hG h0 h1
    obtain ⟨n, rfl⟩ : ∃ m, n = m + 1 := ⟨n - 1, by omega⟩
    show ∃ S', fX1_wins (fGX1_wins n) spot _ S = _ ∧ _
    unfold fX1_wins wP
    rw [tdiv20 h0, w32_eq (by omega) (by omega), hG.2.2.2.1]
    by_cases e : spot / 20 = c
    · rw [if_pos e, decide_eq_true e]
      exact ⟨S, rfl, kp_s hG⟩
    · rw [if_neg e, decide_eq_false e, if_neg (by decide)]
      exact ⟨S, rfl, kp_s hG⟩
  | succ t ih =>
    intro ht n hn
    obtain ⟨n, rfl⟩ : ∃ m, n = m + 1 := ⟨n - 1, by omega⟩
    exact w_c (rc := fGX1_wins n) hB (by omega) (game_b hB hb hg (by omega) (ih (by omega)) (by omega)) (fun a b S => rfl)
