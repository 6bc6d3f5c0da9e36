/-! the class's search -/
def gr (R : Nat → Int) (g : Int) (sg : Nat → Int) (bol : Int) (a s : Nat) : Int := if (s : Int) < R 2 ∧ 0 ≤ aftP R g s a (sg s) bol then aftP R g s a (sg s) bol else -1
theorem gr_lt {R : Nat → Int} {g : Int} {sg : Nat → Int} {bol : Int} (hB : townB R) : ∀ a s, gr R g sg bol a s < ((20 * R 1).toNat : Nat) := by
  intro a s
  have h1 := hB.1
  unfold gr
  split
  · rename_i h
    have := @aftP_b R g s a (sg s) bol hB ⟨by omega, h.1⟩
    omega
  · omega
theorem gr_v {R : Nat → Int} {g : Int} {sg : Nat → Int} {bol : Int} {a s : Nat} : gr R g sg bol a s = -1 ∨ 0 ≤ gr R g sg bol a s := by
  unfold gr
  split
  · omega
  · omega
theorem settle_ok {S : SS} {b : Int} (h0 : 0 ≤ b) (h9 : b ≤ 9) (hB : townB (S 131)) (hl : lanes S) : ∃ S', fX5_settle b S = some S' ∧ lanes S' ∧ S' 30 3 = b ∧ ∀ a, a ≠ 30 → a ≠ 33 → S' a = S a := by
  have h2 := hB.2.1
  have h3 := hB.2.2.1
  unfold fX5_settle
  by_cases c : b = S 30 3
  · rw [if_pos c]; exact ⟨S, rfl, hl, c.symm, fun a _ _ => rfl⟩
  · rw [if_neg c]
    obtain ⟨S1, e1, e2, e3⟩ := @fill_53178_960 33 0 S
    rw [e1, bnd_s, lt_ok]
    refine ⟨_, rfl, Or.inr ⟨by rw [up_self]; omega, fun g s side year a1 a2 a3 a4 a5 a6 a7 a8 => Or.inl ?_⟩, up_self, fun a h h' => by rw [up_row h]; exact e3 a h'⟩
    rw [up_row (a := 131) (by decide), e3 131 (by decide)] at a2 a4
    rw [up_row (by decide)]
    exact e2 _ (by omega)
def lvP (R v : Nat → Int) (c : Int) : Int := orb (fun s => decide (sideP R s c (v (6 + s)) ≠ -1)) (R 2).toNat
theorem leaving_L {S : SS} {p : Nat} {v : Nat → Int} {c : Int} (hR : townR S 2 (S 131)) (hB : townB (S 131)) (hv : stV S p v) : ∀ (m n k : Nat), m + k = (S 131 2).toNat → m < n → fX5_leaving_L5 c p S n (orb (fun s => decide (sideP (S 131) s c (v (6 + s)) ≠ -1)) k) k = some (lvP (S 131) v c) := by
  have h2 := hB.2.1
  intro m
  induction m with
  | zero =>
    intro n k hk hn
    obtain ⟨n, rfl⟩ := suc_of hn
    have ek : k = (S 131 2).toNat := by omega
    unfold fX5_leaving_L5
    rw [hR.1.2.1, if_pos (by omega), ek]
    rfl
  | succ m ih =>
    intro n k hk hn
    obtain ⟨n, rfl⟩ := suc_of hn
    unfold fX5_leaving_L5
    rw [hR.1.2.1, if_neg (by omega), if_neg (by omega), signOf_V (by omega) (by omega) hv, bnd_s, Int.toNat_natCast, sideOf_ok hR h2.2 (by omega), bnd_s, w32_k (by omega)]
    have e : (if sideP (S 131) k c (v (6 + k)) = -1 then some (orb (fun s => decide (sideP (S 131) s c (v (6 + s)) ≠ -1)) k) else (lt (jor (orb (fun s => decide (sideP (S 131) s c (v (6 + s)) ≠ -1)) k) (jshl 1 k)) fun x4 => some x4) : Option Int) = some (orb (fun s => decide (sideP (S 131) s c (v (6 + s)) ≠ -1)) (k + 1)) := by
      show _ = some (if decide (sideP (S 131) k c (v (6 + k)) ≠ -1) = true then _ else _)
      by_cases cc : sideP (S 131) k c (v (6 + k)) = -1
      · rw [if_pos cc, if_neg (by rw [decide_eq_true_eq]; exact fun h => h cc)]
      · rw [if_neg cc, if_pos (decide_eq_true cc)]; rfl
    rw [e, bnd_s, lt_ok]
    exact ih n (k + 1) (by omega) (by omega)
theorem leaving_ok {S : SS} {p : Nat} {v : Nat → Int} {c : Int} (hR : townR S 2 (S 131)) (hB : townB (S 131)) (hv : stV S p v) : fX5_leaving c p S = some (lvP (S 131) v c) := by
  have e : fX5_leaving_L5 c p S FU 0 0 = some (lvP (S 131) v c) := @leaving_L S p v c hR hB hv (S 131 2).toNat FU 0 (by omega) (by unfold FU; have := hB.2.1; omega)
  unfold fX5_leaving
  rw [e, bnd_s]
theorem begin_L {p t : Nat} {v : Nat → Int} {R : Nat → Int} (ht : 35 ≤ t ∧ t ≤ 43) (hp : 7 ≤ p ∧ p + 3 < 19) (hB : townB R) : ∀ (m n k : Nat) (S : SS), m + k = 6 → m < n → S 131 = R → townR S 2 R → stV S p v → ∃ S', fX10_begin_L13 t p n k S = some S' ∧ ∀ c, c < 6 → S' (t + 5) c = if k ≤ c then lvP R v c else S (t + 5) c := by
  intro m
  induction m with
  | zero =>
    intro n k S hk hn e hR hv
    obtain ⟨n, rfl⟩ := suc_of hn
    unfold fX10_begin_L13
    rw [if_pos (by omega)]
    exact ⟨S, rfl, fun c hc => by rw [if_neg (by omega)]⟩
  | succ m ih =>
    intro n k S hk hn e hR hv
    obtain ⟨n, rfl⟩ := suc_of hn
    unfold fX10_begin_L13
    rw [if_neg (by omega), leaving_ok (by rw [e]; exact hR) (by rw [e]; exact hB) hv, bnd_s, wrA_ok (by omega) (by omega), Int.toNat_natCast, w32_k (by omega), lt_ok, e]
    obtain ⟨S', q1, q2⟩ := ih n (k + 1) (up S (t + 5) k (lvP R v k)) (by omega) (by omega) (by rw [up_row (by omega)]; exact e) (townR_fr (up_row (by omega)) (up_row (by omega)) (up_row (by omega)) (up_row (by omega)) (up_row (by omega)) hR) (stV_fr (up_row (by omega)) (up_row (by omega)) (up_row (by omega)) (up_row (by omega)) hv)
    refine ⟨S', q1, fun c hc => ?_⟩
    rw [q2 c hc, up_at]
    by_cases cc : c = k
    · rw [if_neg (by omega), if_pos cc, if_pos (by omega), cc]
    · by_cases c2 : k ≤ c
      · rw [if_pos (by omega), if_pos c2]
      · rw [if_neg (by omega), if_neg cc, if_neg c2]
theorem begin_ok {S : SS} {p t : Nat} {v : Nat → Int} (ht : 35 ≤ t ∧ t ≤ 43) (hp : 7 ≤ p ∧ p + 3 < 19) (hC : Core S) (hv : stV S p v) (hb : bdV v (S 131 1)) : ∃ S', fX10_begin t p S = some S' ∧ (∀ c, c < 6 → S' (t + 5) c = lvP (S 131) v c) ∧ lanes S' ∧ S' 30 3 = v 14 ∧ ∀ a, a ≠ 30 → a ≠ 33 → a ≠ t + 5 → S' a = S a := by
  obtain ⟨hR, hB, hL⟩ := id hC
  obtain ⟨S1, e1, e2, e3, e4⟩ := settle_ok (S := S) (b := v 14) hb.2.2.2.1 hb.2.2.2.2 hB hL
  obtain ⟨S2, q1, q2⟩ := begin_L (p := p) (t := t) (v := v) (R := S 131) ht hp hB 6 FU 0 S1 (by omega) (by decide) (e4 131 (by decide) (by decide)) (townR_fr (e4 _ (by decide) (by decide)) (e4 _ (by decide) (by decide)) (e4 _ (by decide) (by decide)) (e4 _ (by decide) (by decide)) (e4 _ (by decide) (by decide)) hR) (stV_fr (e4 _ (by omega) (by omega)) (e4 _ (by omega) (by omega)) (e4 _ (by omega) (by omega)) (e4 _ (by omega) (by omega)) hv)
  have q1' : fX10_begin_L13 t p FU 0 S1 = some S2 := q1
  have f2 : ∀ a, a ≠ t + 5 → S2 a = S1 a := fun a ha => w_fX10_begin_L13 ha _ _ _ _ q1
  refine ⟨S2, ?_, fun c hc => by rw [q2 c hc, if_pos (Nat.zero_le c)], lanes_fr (f2 _ (by omega)) (f2 _ (by omega)) (f2 _ (by omega)) e2, by rw [f2 30 (by omega)]; exact e3, fun a h h' h'' => (f2 a h'').trans (e4 a h h')⟩
  unfold fX10_begin
  rw [hv.2.2.2, e1, bnd_s, q1', bnd_s]
def BR (S : SS) (t found : Nat) (o L pr : Nat → Nat) : Prop :=
  S t 8 = (found : Int) ∧ (∀ p, p < found → S (t + 1) p = (o p : Int)) ∧ (∀ p, p < found → S (t + 2) (o p) = (L p : Int)) ∧ (∀ a, a < 120 → (∀ p, p < found → o p ≠ a) → S (t + 2) a = -1)
  ∧ (∀ p, 1 ≤ p → p < found → S (t + 3) (o p) = ((o (pr p / 8) : Nat) : Int) ∧ S (t + 4) (o p) = ((pr p % 8 : Nat) : Int))
def BK (nx : Nat → Nat → Int) (st T found : Nat) (o L : Nat → Nat) (b : Int) : Prop :=
  (b = -1 ∧ ∀ P, P < T → P / 8 < found → nx (o (P / 8)) (P % 8) ≠ (st : Int)) ∨ ∃ P, P < T ∧ P / 8 < found ∧ nx (o (P / 8)) (P % 8) = (st : Int) ∧ b = (L (P / 8) : Int) + 1 ∧ ∀ P', P' < P → P' / 8 < found → nx (o (P' / 8)) (P' % 8) ≠ (st : Int)
theorem BK_skip {nx : Nat → Nat → Int} {st T found : Nat} {o L : Nat → Nat} {b : Int} (h : BK nx st T found o L b) (hx : nx (o (T / 8)) (T % 8) ≠ (st : Int) ∨ b ≠ -1) : BK nx st (T + 1) found o L b := by
  obtain ⟨h1, h2⟩ | ⟨P, p1, p2, p3, p4, p5⟩ := h
  · refine Or.inl ⟨h1, fun P hP hf => ?_⟩
    by_cases c : P = T
    · subst c
      obtain hx | hx := hx
      · exact hx
      · exact absurd h1 hx
    · exact h2 P (by omega) hf
  · exact Or.inr ⟨P, by omega, p2, p3, p4, p5⟩
theorem BK_hit {nx : Nat → Nat → Int} {st T found : Nat} {o L : Nat → Nat} (h : BK nx st T found o L (-1)) (hT : T / 8 < found) (hx : nx (o (T / 8)) (T % 8) = (st : Int)) : BK nx st (T + 1) found o L ((L (T / 8) : Int) + 1) := by
  obtain ⟨_, h2⟩ | ⟨P, p1, p2, p3, p4, p5⟩ := h
  · exact Or.inr ⟨T, by omega, hT, hx, rfl, fun P' h h' => h2 P' h h'⟩
  · omega
theorem BK_grow {nx : Nat → Nat → Int} {st T found v l : Nat} {o L : Nat → Nat} {b : Int} (hT : T ≤ 8 * found) (h : BK nx st T found o L b) : BK nx st T (found + 1) (pt o found v) (pt L found l) b := by
  obtain ⟨h1, h2⟩ | ⟨P, p1, p2, p3, p4, p5⟩ := h
  · refine Or.inl ⟨h1, fun P hP hf => ?_⟩
    rw [pt_lt (by omega)]; exact h2 P hP (by omega)
  · refine Or.inr ⟨P, p1, by omega, by rw [pt_lt (by omega)]; exact p3, by rw [pt_lt (by omega)]; exact p4, fun P' h h' => ?_⟩
    rw [pt_lt (by omega)]; exact p5 P' h (by omega)
theorem BR_fr {S S' : SS} {t found : Nat} {o L pr : Nat → Nat} (h0 : S' t 8 = S t 8) (h1 : S' (t + 1) = S (t + 1)) (h2 : S' (t + 2) = S (t + 2)) (h3 : S' (t + 3) = S (t + 3)) (h4 : S' (t + 4) = S (t + 4)) (h : BR S t found o L pr) : BR S' t found o L pr := by
  unfold BR; rw [h0, h1, h2, h3, h4]; exact h
theorem come_ok {nx : Nat → Nat → Int} {st M T found t : Nat} {o L pr : Nat → Nat} {S : SS} {to : Int} (hM : M ≤ 120) (hnx : ∀ a s, nx a s < M) (h : BI nx st M T found o L pr) (hr : BR S t found o L pr) (hk : BK nx st T found o L (S t 9)) (hT : T / 8 < found)
    (hto : (to < 0 ∧ nx (o (T / 8)) (T % 8) < 0) ∨ (0 ≤ to ∧ to = nx (o (T / 8)) (T % 8))) :
    ∃ S', fX10_comeTo t to (o (T / 8) : Nat) (T % 8 : Nat) S = some S' ∧ ∃ found' o' L' pr', BI nx st M (T + 1) found' o' L' pr' ∧ BR S' t found' o' L' pr' ∧ BK nx st (T + 1) found' o' L' (S' t 9) ∧ found ≤ found' ∧ (∀ p, p < found → o' p = o p) := by
  obtain ⟨r1, r2, r3, r4, r5⟩ := id hr
  have hfM : found ≤ M := pigeon M found o h.2.1 h.2.2.1
  unfold fX10_comeTo
  obtain ⟨t1, t2⟩ | ⟨t1, t2⟩ := hto
  · rw [spot_n t1, bnd_s, if_neg (by decide)]
    exact ⟨S, rfl, found, o, L, pr, BI_old h hT (Or.inl t2), hr, BK_skip hk (Or.inl (by omega)), Nat.le_refl _, fun _ _ => rfl⟩
  · obtain ⟨w, rfl⟩ : ∃ w : Nat, to = w := ⟨to.toNat, by omega⟩
    have hw : w < M := by have := hnx (o (T / 8)) (T % 8); omega
    have st0 : S (t + 1) (0 : Int).toNat = (st : Int) := by
      have := r2 0 (by omega)
      rw [h.1.2.1] at this
      exact this
    have oi : o (T / 8) < M := h.2.1 _ hT
    have goi : S (t + 2) ((o (T / 8) : Nat) : Int).toNat = (L (T / 8) : Int) := by rw [Int.toNat_natCast]; exact r3 _ hT
    have Lb := (BI_reach h _ hT).2
    rw [spot_y (p := (w : Int)) (by omega) (by omega), bnd_s, if_pos rfl, spot_y (p := ((o (T / 8) : Nat) : Int)) (by omega) (by omega), bnd_s, if_pos rfl, rdA_ok (by decide) (by decide), st0]
    have back : ∃ Sb, (if (w : Int) = (st : Int) then (if S t 9 = -1 then (rdA S (t + 2) 120 (o (T / 8) : Nat) fun v4 => lt (up S t 9 (w32 (v4 + 1))) fun S6 => some S6) else some S) else some S : Option SS) = some Sb ∧ (∀ a, a ≠ t → Sb a = S a) ∧ Sb t 8 = S t 8 ∧ BK nx st (T + 1) found o L (Sb t 9) := by
      by_cases c1 : (w : Int) = (st : Int)
      · rw [if_pos c1]
        by_cases c2 : S t 9 = -1
        · rw [if_pos c2, rdA_ok (by omega) (by omega), goi, lt_ok, w32_eq (by omega) (by omega)]
          refine ⟨_, rfl, fun a ha => up_row ha, by rw [up_at, if_neg (by decide)], ?_⟩
          rw [up_self]
          rw [c2] at hk
          exact BK_hit hk hT (by rw [← t2, c1])
        · rw [if_neg c2]
          exact ⟨S, rfl, fun _ _ => rfl, rfl, BK_skip hk (Or.inr c2)⟩
      · rw [if_neg c1]
        exact ⟨S, rfl, fun _ _ => rfl, rfl, BK_skip hk (Or.inl (by omega))⟩
    obtain ⟨Sb, b1, b2, b3, b4⟩ := back
    have rb : BR Sb t found o L pr := BR_fr b3 (b2 _ (by omega)) (b2 _ (by omega)) (b2 _ (by omega)) (b2 _ (by omega)) hr
    rw [b1, bnd_s, rdA_ok (by omega) (by omega), Int.toNat_natCast]
    by_cases c : ∃ p, p < found ∧ o p = w
    · obtain ⟨p, p1, p2⟩ := c
      have : Sb (t + 2) w = (L p : Int) := by rw [← p2]; exact rb.2.2.1 p p1
      rw [this, if_neg (by omega)]
      exact ⟨Sb, rfl, found, o, L, pr, BI_old h hT (Or.inr ⟨p, p1, by rw [← t2, p2]⟩), rb, b4, Nat.le_refl _, fun _ _ => rfl⟩
    · have hn : ∀ p, p < found → o p ≠ w := fun p hp e => c ⟨p, hp, e⟩
      obtain ⟨n1, n2⟩ := BI_new h hT hw t2.symm hn
      have gob : Sb (t + 2) ((o (T / 8) : Nat) : Int).toNat = (L (T / 8) : Int) := by rw [b2 _ (by omega)]; exact goi
      have e8 : Sb t 8 = (found : Int) := by rw [b3, r1]
      rw [rb.2.2.2.1 w (by omega) hn, if_pos rfl, e8, if_neg (by omega), rdA_ok (by omega) (by omega), gob, w32_eq (by omega) (by omega), wrA_ok (by omega) (by omega), wrA_ok (by omega) (by omega), wrA_ok (by omega) (by omega), Int.toNat_natCast]
      have u8 : up (up (up Sb (t + 2) w ((L (T / 8) : Int) + 1)) (t + 3) w ((o (T / 8) : Nat) : Int)) (t + 4) w ((T % 8 : Nat) : Int) t 8 = (found : Int) := by
        rw [up_row (by omega), up_row (by omega), up_row (by omega), e8]
      rw [u8, wrA_ok (by omega) (by omega), Int.toNat_natCast, lt_ok, up_row (a := t) (by omega), u8, w32_k (by omega)]
      refine ⟨_, rfl, found + 1, _, _, _, n1, ⟨?_, fun p hp => ?_, fun p hp => ?_, fun a ha hna => ?_, fun p q1 q2 => ?_⟩, ?_, by omega, fun p hp => pt_lt (by omega)⟩
      · rw [up_self]
      · rw [up_row (by omega), up_at]
        by_cases cp : p = found
        · rw [if_pos cp, cp, pt_eq]
        · rw [if_neg cp, pt_lt cp, up_row (by omega), up_row (by omega), up_row (by omega)]
          exact rb.2.1 p (by omega)
      · rw [up_row (by omega), up_row (by omega), up_row (by omega), up_row (by omega), up_at]
        by_cases cp : p = found
        · rw [cp, pt_eq, pt_eq, if_pos rfl]; omega
        · rw [pt_lt cp, pt_lt cp, if_neg (hn p (by omega))]
          exact rb.2.2.1 p (by omega)
      · have hw' : a ≠ w := fun e => by have := hna found (by omega); rw [pt_eq] at this; exact this e.symm
        rw [up_row (by omega), up_row (by omega), up_row (by omega), up_row (by omega), up_at, if_neg hw']
        exact rb.2.2.2.1 a ha (fun p hp e => by have := hna p (by omega); rw [pt_lt (by omega)] at this; exact this e)
      · rw [up_row (by omega), up_row (by omega), up_row (by omega), up_at, up_row (a := t + 4) (by omega), up_row (a := t + 4) (by omega), up_at]
        by_cases cp : p = found
        · rw [cp, pt_eq, pt_eq, if_pos rfl, if_pos rfl, pt_lt (by omega)]
          exact ⟨rfl, rfl⟩
        · have h4 := (h.2.2.2.1 p q1 (by omega)).2.1
          rw [pt_lt cp, pt_lt cp, if_neg (hn p (by omega)), if_neg (hn p (by omega)), pt_lt (by omega), up_row (by omega), up_row (by omega), up_row (by omega)]
          exact rb.2.2.2.2 p q1 (by omega)
      · rw [up_at, if_neg (by decide), up_row (by omega), up_row (by omega), up_row (by omega), up_row (by omega)]
        exact BK_grow (by omega) b4
