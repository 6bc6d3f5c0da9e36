/-! when, reach, bound -/
def nowG (R : Nat → Int) (g : Int) : Nat → Nat → Int := gr R g (fun s => R (40 + s)) (R 48)
theorem nowG_v {R : Nat → Int} {g : Int} : gr R g (fun s => sft R 34 (6 + s)) (sft R 34 14) = nowG R g := by
  unfold nowG
  have e : (fun s => sft R 34 (6 + s)) = (fun s => R (40 + s)) := by
    funext s; exact congrArg R (by omega)
  rw [e]; rfl
theorem nowG_0 {R : Nat → Int} {g : Int} : gr R g (sgB R 0) (R 48) = nowG R g := by
  unfold nowG
  have e : sgB R 0 = (fun s => R (40 + s)) := by
    funext s; unfold sgB; rw [bit_0, if_neg (by decide)]
  rw [e]
theorem spread_now {S : SS} {t st : Nat} {g : Int} (ht : 35 ≤ t ∧ t ≤ 43) (hC : Core S) (hS : Stand S) (hg : 0 ≤ g ∧ g < S 131 3) (hst : st < (20 * S 131 1).toNat) :
    ∃ S', fX10_spread t g st 7 S = some S' ∧ lanes S' ∧ ∃ found o L pr, BI (nowG (S 131) g) st (20 * S 131 1).toNat (8 * found) found o L pr ∧ BR S' t found o L pr ∧ BK (nowG (S 131) g) st (8 * found) found o L (S' t 9) := by
  have := spread_ok (t := t) (p := 7) (st := st) (g := g) ht (by omega) hC (stV_of hS.1) (bdV_of hS.2) hg hst
  rw [nowG_v] at this
  exact this
theorem lays_now {S : SS} {g : Int} (hB : townB (S 131)) (hb : stBd (S 131) 34 (S 131 1)) (hg : 0 ≤ g ∧ g < S 131 3) : ∃ S', fX12_laysThen g 0 S = some S' ∧ (∀ a s, a < (20 * S 131 1).toNat → s < 8 → S' 138 (8 * a + s) = nowG (S 131) g a s) ∧ ∀ a, (a < 135 ∨ 136 < a) → a ≠ 138 → S' a = S a := by
  have h3 := hB.2.2.1
  have := laysThen_ok (S := S) (g := g) (x := 0) hB hb.2.2.2 (by omega)
  rw [nowG_0] at this
  exact this
theorem nowG_lt {R : Nat → Int} {g : Int} (hB : townB R) : ∀ a s, nowG R g a s < ((20 * R 1).toNat : Nat) := gr_lt hB
theorem nowG_m {R : Nat → Int} {g : Int} : ∀ a s, nowG R g a s = -1 ∨ 0 ≤ nowG R g a s := fun _ _ => gr_v
theorem laysFrom_ok {S : SS} {g : Int} (hB : townB (S 131)) (hb : stBd (S 131) 34 (S 131 1)) (hg : 0 ≤ g ∧ g < S 131 3) : ∃ S', fX12_laysFromNow g S = some S' ∧ goneF (nowG (S 131) g) (spotP (S 131) g).toNat (S' 140) ∧ (∀ a s, a < (20 * S 131 1).toNat → s < 8 → S' 138 (8 * a + s) = nowG (S 131) g a s) ∧ ∀ a, (a < 135 ∨ 136 < a) → a ≠ 138 → a ≠ 140 → S' a = S a := by
  have h1 := hB.1
  have h3 := hB.2.2.1
  obtain ⟨S1, a1, a2, a3⟩ := lays_now hB hb hg
  have e131 : S1 131 = S 131 := a3 131 (by omega) (by omega)
  have sp := spotP_b hb hg.1 (show g < 3 by omega)
  obtain ⟨S2, b1, b2, b3⟩ := laysGone_ok (nx := nowG (S 131) g) (st := (spotP (S 131) g).toNat) (M := (20 * S 131 1).toNat) (c := 140) (S := S1) (by rw [e131]) (by rw [e131]; exact h1) (nowG_lt hB) nowG_m (by omega) (Or.inl rfl) a2
  refine ⟨S2, ?_, b2, fun a s ha hs => by rw [b3 138 (by decide)]; exact a2 a s ha hs, fun a h1 h2 h3 => (b3 a h3).trans (a3 a h1 h2)⟩
  have st := standOf_ok (S := S1) (g := g) (by rw [e131]; exact hb) (by rw [e131]; exact hB) hg.1 (by omega)
  rw [e131] at st
  have e : ((spotP (S 131) g).toNat : Int) = spotP (S 131) g := by omega
  rw [e] at b1
  unfold fX12_laysFromNow
  rw [a1, bnd_s, st, bnd_s, b1, bnd_s]
def goF (nx : Nat → Nat → Int) (st : Nat) (r : Nat → Int) : Prop := ∀ v, v < 120 → (∃ d : Nat, Dist nx st v d ∧ r v = (d : Int) ∧ d < 120) ∨ ((∀ n, ¬ rIn nx n st v) ∧ r v = -1)
theorem BR_goF {nx : Nat → Nat → Int} {st M found t : Nat} {o L pr : Nat → Nat} {S : SS} (hM : M ≤ 120) (h : BI nx st M (8 * found) found o L pr) (hr : BR S t found o L pr) : goF nx st (S (t + 2)) := by
  intro v hv
  have hf : found ≤ M := pigeon M found o h.2.1 h.2.2.1
  by_cases c : ∃ p, p < found ∧ o p = v
  · obtain ⟨p, p1, p2⟩ := c
    have hL := (BI_reach h p p1).2
    subst p2
    exact Or.inl ⟨L p, BI_dist h (Nat.le_refl _) p1, hr.2.2.1 p p1, by omega⟩
  · refine Or.inr ⟨fun n hn => ?_, hr.2.2.2.1 v hv (fun p hp e => c ⟨p, hp, e⟩)⟩
    obtain ⟨p, p1, p2, _⟩ := BI_least h (Nat.le_refl _) n v hn
    exact c ⟨p, p1, p2.symm⟩
theorem go_gone {nx : Nat → Nat → Int} {st : Nat} {r r' : Nat → Int} (h : goF nx st r) (h' : goneF nx st r') {v : Nat} (hv : v < 120) : (∃ d : Nat, r v = (d : Int) ∧ r' v = (d : Int) ∧ d < 120 ∧ Dist nx st v d) ∨ (r v = -1 ∧ r' v = 268435456 ∧ ∀ n, ¬ rIn nx n st v) := by
  obtain ⟨d, d1, d2, d3⟩ | ⟨n1, n2⟩ := h v hv
  · obtain ⟨e, e1, e2, e3⟩ | ⟨m1, m2⟩ := h' v hv
    · have := Dist_u d1 e1
      subst this
      exact Or.inl ⟨d, d2, e2, d3, d1⟩
    · exact absurd d1.1 (m1 d)
  · obtain ⟨e, e1, e2, e3⟩ | ⟨m1, m2⟩ := h' v hv
    · exact absurd e1.1 (n1 e)
    · exact Or.inr ⟨n2, m2, n1⟩
theorem goingsTo_ok {S : SS} {t : Nat} {a : Int} (h0 : 0 ≤ a) (h1 : a < 120) : fX10_goingsTo t a S = some (S (t + 2) a.toNat) := by
  unfold fX10_goingsTo
  rw [spot_y h0 h1, bnd_s, if_pos rfl, rdA_ok h0 (by omega)]
theorem spotAt_ok {S : SS} {t found i : Nat} {o L pr : Nat → Nat} (hr : BR S t found o L pr) (hi : i < found) (hf : found ≤ 120) : fX10_spotAt t i S = some ((o i : Nat) : Int) := by
  unfold fX10_spotAt
  rw [hr.1, if_neg (by omega), if_neg (by omega), if_neg (by omega), rdA_ok (by omega) (by omega), Int.toNat_natCast, hr.2.1 i hi]
theorem when_c {S : SS} {c : Nat} (hc : c < 6) : ∀ (m n k : Nat), m + k = 20 → m < n → fX11_when_L50 c S n (orb (fun y => decide (S 37 (20 * c + y) ≠ -1)) k) k = some (orb (fun y => decide (S 37 (20 * c + y) ≠ -1)) 20) := by
  intro m
  induction m with
  | zero =>
    intro n k hk hn
    obtain ⟨n, rfl⟩ := suc_of hn
    have ek : k = 20 := by omega
    subst ek
    unfold fX11_when_L50
    rw [if_pos (by omega)]
  | succ m ih =>
    intro n k hk hn
    obtain ⟨n, rfl⟩ := suc_of hn
    have ex : ((c : Int) * 20 + (k : Int)).toNat = 20 * c + k := by omega
    unfold fX11_when_L50
    rw [if_neg (by omega), w32_eq (x := (c : Int) * 20) (by omega) (by omega), w32_eq (x := (c : Int) * 20 + (k : Int)) (by omega) (by omega), goingsTo_ok (by omega) (by omega), ex, bnd_s, w32_k (by omega)]
    have e : (if S (35 + 2) (20 * c + k) = -1 then some (orb (fun y => decide (S 37 (20 * c + y) ≠ -1)) k) else (lt (jor (orb (fun y => decide (S 37 (20 * c + y) ≠ -1)) k) (jshl 1 k)) fun x3 => some x3) : Option Int) = some (orb (fun y => decide (S 37 (20 * c + y) ≠ -1)) (k + 1)) := by
      show _ = some (if decide (S 37 (20 * c + k) ≠ -1) = true then _ else _)
      by_cases cc : S 37 (20 * c + k) = -1
      · rw [if_pos cc, if_neg (by rw [decide_eq_true_eq]; exact fun h => h cc)]
      · rw [if_neg cc, if_pos (decide_eq_true cc)]; rfl
    rw [e, bnd_s, lt_ok]
    exact ih n (k + 1) (by omega) (by omega)
theorem when_m {S : SS} {c : Nat} (hc : c < 6) : ∀ (m n k : Nat), m + k = 20 → m < n → fX12_when_L36 c S n (orb (fun y => decide (S 140 (20 * c + y) < 268435456)) k) k = some (orb (fun y => decide (S 140 (20 * c + y) < 268435456)) 20) := by
  intro m
  induction m with
  | zero =>
    intro n k hk hn
    obtain ⟨n, rfl⟩ := suc_of hn
    have ek : k = 20 := by omega
    subst ek
    unfold fX12_when_L36
    rw [if_pos (by omega)]
  | succ m ih =>
    intro n k hk hn
    obtain ⟨n, rfl⟩ := suc_of hn
    have ex : (20 * (c : Int) + (k : Int)).toNat = 20 * c + k := by omega
    unfold fX12_when_L36
    rw [if_neg (by omega), w32_eq (x := 20 * (c : Int)) (by omega) (by omega), w32_eq (x := 20 * (c : Int) + (k : Int)) (by omega) (by omega), rdA_ok (by omega) (by omega), ex, w32_k (by omega)]
    have e : (if 268435456 ≤ S 140 (20 * c + k) then some 0 else some (jshl 1 k) : Option Int) = some (if decide (S 140 (20 * c + k) < 268435456) = true then jshl 1 k else 0) := by
      by_cases cc : S 140 (20 * c + k) < 268435456
      · rw [if_neg (by omega), if_pos (decide_eq_true cc)]
      · rw [if_pos (by omega), if_neg (by rw [decide_eq_true_eq]; exact cc)]
    rw [e, bnd_s, lt_ok, lt_ok]
    have j := @jor_if (fun y => decide (S 140 (20 * c + y) < 268435456)) k
    rw [j]
    exact ih n (k + 1) (by omega) (by omega)
/-- what class and reference find from now -/
theorem both_now {S : SS} {g : Int} (hI : Inv S) (hg : 0 ≤ g ∧ g < S 131 3) : ∃ S1 found o L pr S2, fX6_spotOf 7 g S = some (spotP (S 131) g) ∧ fX10_spread 35 g (spotP (S 131) g) 7 S = some S1 ∧ lanes S1 ∧ BI (nowG (S 131) g) (spotP (S 131) g).toNat (20 * S 131 1).toNat (8 * found) found o L pr ∧ BR S1 35 found o L pr ∧ goF (nowG (S 131) g) (spotP (S 131) g).toNat (S1 37)
    ∧ (∀ a, (a < 30 ∨ 40 < a) → S1 a = S a) ∧ fX12_laysFromNow g S1 = some S2 ∧ goneF (nowG (S 131) g) (spotP (S 131) g).toNat (S2 140) ∧ (∀ a s, a < (20 * S 131 1).toNat → s < 8 → S2 138 (8 * a + s) = nowG (S 131) g a s) ∧ (∀ a, (a < 135 ∨ 136 < a) → a ≠ 138 → a ≠ 140 → S2 a = S1 a) ∧ Inv S2 := by
  obtain ⟨i0, hC, hS, _⟩ := id hI
  obtain ⟨_, hB, _⟩ := id hC
  have h1 := hB.1
  have h3 := hB.2.2.1
  obtain ⟨s1, s2, s3⟩ := spot_now hS hB hg.1 (show g < 3 by omega)
  have e : ((spotP (S 131) g).toNat : Int) = spotP (S 131) g := by omega
  obtain ⟨S1, a1, a2, found, o, L, pr, a3, a4, a5⟩ := spread_now (t := 35) (st := (spotP (S 131) g).toNat) (by omega) hC hS hg (by omega)
  rw [e] at a1
  have f1 : ∀ a, (a < 30 ∨ 40 < a) → S1 a = S a := fun a ha => w_fX10_spread a1 (by omega)
  have e131 : S1 131 = S 131 := f1 131 (by omega)
  obtain ⟨S2, b1, b2, b3, b4⟩ := laysFrom_ok (S := S1) (g := g) (by rw [e131]; exact hB) (by rw [e131]; exact hS.2) (by rw [e131]; exact hg)
  rw [e131] at b2 b3
  exact ⟨S1, found, o, L, pr, S2, s1, a1, a2, a3, a4, BR_goF (by omega) a3 a4, f1, b1, b2, b3, b4, inv_q hI a2 (fun a ha => by unfold keepA at ha; exact f1 a (by omega)) (fun a ha => by unfold keepA at ha; exact b4 a (by omega) (by omega) (by omega))⟩
theorem has_g {S : SS} (hC : Core S) {g : Int} : fX8_hasGoer 2 g S = some (decide (0 ≤ g ∧ g < S 131 3)) := by
  have h3 := hC.2.1.2.2.1
  rw [hasGoer_ok (by rw [hC.1.1.2.2.1]; exact h3.2), hC.1.1.2.2.1]
theorem has_c {S : SS} (hC : Core S) {c : Int} : fX8_hasCorner 2 c S = some (decide (0 ≤ c ∧ c < S 131 1)) := by
  have h1 := hC.2.1.1
  rw [hasCorner_ok (by rw [hC.1.1.1]; exact h1.2), hC.1.1.1]
theorem is_g {S : SS} (hB : townB (S 131)) {g : Int} : fX12_isGoer g S = some (decide (0 ≤ g ∧ g < S 131 3)) := isGoer_ok hB.2.2.1.1 hB.2.2.1.2
theorem is_c {S : SS} (hB : townB (S 131)) {c : Int} : fX12_isCorner c S = some (decide (0 ≤ c ∧ c < S 131 1)) := isCorner_ok (by have := hB.1; omega) hB.1.2
theorem k_when : K_when Inv := by
  intro g c cg cc S hI
  obtain ⟨i0, hC, hS, _⟩ := id hI
  obtain ⟨_, hB, _⟩ := id hC
  have h1 := hB.1
  unfold fX11_when fX12_when
  rw [has_g hC, bnd_s]
  by_cases a : 0 ≤ g ∧ g < S 131 3
  · rw [if_pos (decide_eq_true a), has_c hC, bnd_s]
    by_cases b : 0 ≤ c ∧ c < S 131 1
    · obtain ⟨S1, found, o, L, pr, S2, q1, q2, q3, q4, q5, q6, q7, q8, q9, q10, q11, q12⟩ := both_now hI a
      obtain ⟨n, rfl⟩ : ∃ n : Nat, c = n := ⟨c.toNat, by omega⟩
      have e131 : S1 131 = S 131 := q7 131 (by omega)
      have l1 : fX11_when_L50 n S1 FU 0 0 = some (orb (fun y => decide (S1 37 (20 * n + y) ≠ -1)) 20) := when_c (S := S1) (c := n) (by omega) 20 FU 0 (by omega) (by decide)
      have l2 : fX12_when_L36 n S2 FU 0 0 = some (orb (fun y => decide (S2 140 (20 * n + y) < 268435456)) 20) := when_m (S := S2) (c := n) (by omega) 20 FU 0 (by omega) (by decide)
      have eq : orb (fun y => decide (S1 37 (20 * n + y) ≠ -1)) 20 = orb (fun y => decide (S2 140 (20 * n + y) < 268435456)) 20 := by
        refine orb_congr (fun k hk => ?_)
        obtain ⟨d, d1, d2, d3, _⟩ | ⟨d1, d2, _⟩ := go_gone q6 q9 (v := 20 * n + k) (by omega)
        · rw [decide_eq_true (by omega), decide_eq_true (by omega)]
        · rw [decide_eq_false (by omega), decide_eq_false (by omega)]
      rw [if_pos (decide_eq_true b), q1, bnd_s, q2, bnd_s, l1, bnd_s]
      refine ⟨_, S1, S2, rfl, ?_, q12⟩
      rw [lt_ok, up_same (by rw [q7 130 (by omega)]; exact i0), is_g (by rw [e131]; exact hB), e131, bnd_s, if_pos (decide_eq_true a), is_c (by rw [e131]; exact hB), e131, bnd_s, if_pos (decide_eq_true b), q8, bnd_s, l2, bnd_s, eq]
    · rw [if_neg (by rw [decide_eq_true_eq]; exact b)]
      refine ⟨_, S, S, rfl, ?_, hI⟩
      rw [lt_ok, up_same i0, is_g hB, bnd_s, if_pos (decide_eq_true a), is_c hB, bnd_s, if_neg (by rw [decide_eq_true_eq]; exact b)]
  · rw [if_neg (by rw [decide_eq_true_eq]; exact a)]
    refine ⟨_, S, S, rfl, ?_, hI⟩
    rw [lt_ok, up_same i0, is_g hB, bnd_s, if_neg (by rw [decide_eq_true_eq]; exact a)]
/-! reach -/
def anyB (f : Nat → Nat) (q : Nat → Bool) : Nat → Nat → Bool
  | 0, _ => false
  | n + 1, c => anyB f q n c || (q n && decide (c = f n))
theorem anyB_iff {f : Nat → Nat} {q : Nat → Bool} : ∀ {n c : Nat}, anyB f q n c = true ↔ ∃ i, i < n ∧ q i = true ∧ c = f i := by
  intro n
  induction n with
  | zero => intro c; constructor
            · intro h; cases h
            · rintro ⟨i, h, _⟩; omega
  | succ n ih =>
    intro c
    show (anyB f q n c || (q n && decide (c = f n))) = true ↔ _
    rw [Bool.or_eq_true, ih, Bool.and_eq_true, decide_eq_true_eq]
    constructor
    · rintro (⟨i, h1, h2⟩ | ⟨h1, h2⟩)
      · exact ⟨i, by omega, h2⟩
      · exact ⟨n, by omega, h1, h2⟩
    · rintro ⟨i, h1, h2, h3⟩
      by_cases e : i = n
      · subst e; exact Or.inr ⟨h2, h3⟩
      · exact Or.inl ⟨i, by omega, h2, h3⟩
theorem anyB_step {f : Nat → Nat} {q : Nat → Bool} {n : Nat} (hf : f n < 6) : jor (orb (anyB f q n) 6) (if q n = true then jshl 1 (f n) else 0) = orb (anyB f q (n + 1)) 6 := by
  by_cases c : q n = true
  · rw [if_pos c, orb_ins (by decide) hf]
    refine orb_congr (fun k hk => ?_)
    show _ = (anyB f q n k || (q n && decide (k = f n)))
    rw [c]; rfl
  · rw [if_neg c, jor_0 (orb_c 6)]
    refine orb_congr (fun k hk => ?_)
    show _ = (anyB f q n k || (q n && decide (k = f n)))
    rw [Bool.eq_false_iff.mpr c]; simp
theorem orb_f {n : Nat} : orb (fun _ => false) n = 0 := by
  induction n with
  | zero => rfl
  | succ n ih => show (if false = true then _ else orb (fun _ => false) n) = 0; rw [if_neg (by decide)]; exact ih
theorem reach_c {S : SS} {found : Nat} {o L pr : Nat → Nat} (hr : BR S 35 found o L pr) (hf : found ≤ 120) (ho : ∀ p, p < found → o p < 120) : ∀ (m n k : Nat), m + k = found → m < n → fX11_reach_L38 S n (orb (anyB (fun i => o i / 20) (fun _ => true) k) 6) k = some (orb (anyB (fun i => o i / 20) (fun _ => true) found) 6) := by
  intro m
  induction m with
  | zero =>
    intro n k hk hn
    obtain ⟨n, rfl⟩ := suc_of hn
    have ek : k = found := by omega
    subst ek
    unfold fX11_reach_L38
    rw [hr.1, if_pos (by omega)]
  | succ m ih =>
    intro n k hk hn
    obtain ⟨n, rfl⟩ := suc_of hn
    have hk' := ho k (by omega)
    have ed : w32 (Int.tdiv (o k : Int) 20) = ((o k / 20 : Nat) : Int) := by rw [tdiv20 (by omega), w32_eq (by omega) (by omega)]; omega
    unfold fX11_reach_L38
    rw [spotAt_ok hr (by omega) hf, hr.1, if_neg (by omega), bnd_s, ed, lt_ok, lt_ok, w32_k (by omega)]
    have := @anyB_step (fun i => o i / 20) (fun _ => true) k (by show o k / 20 < 6; omega)
    rw [if_pos rfl] at this
    have t : jor (orb (anyB (fun i => o i / 20) (fun _ => true) k) 6) (jshl 1 ((o k / 20 : Nat) : Int)) = orb (anyB (fun i => o i / 20) (fun _ => true) (k + 1)) 6 := this
    rw [t]
    exact ih n (k + 1) (by omega) (by omega)
theorem corners_m {S : SS} {M : Nat} (hM : M = (20 * S 131 1).toNat) (h1 : 1 ≤ S 131 1 ∧ S 131 1 ≤ 6) : ∀ (m n k : Nat), m + k = M → m < n → fX12_cornersGone_L4 S n (orb (anyB (fun a => a / 20) (fun a => decide (S 140 a < 268435456)) k) 6) k = some (orb (anyB (fun a => a / 20) (fun a => decide (S 140 a < 268435456)) M) 6) := by
  intro m
  have r1 : S 131 (1 : Int).toNat = S 131 1 := rfl
  induction m with
  | zero =>
    intro n k hk hn
    obtain ⟨n, rfl⟩ := suc_of hn
    have ek : k = M := by omega
    unfold fX12_cornersGone_L4 fX12_stands
    rw [rdA_ok (by decide) (by decide), r1, w32_eq (by omega) (by omega), bnd_s, if_pos (by omega), ek]
  | succ m ih =>
    intro n k hk hn
    obtain ⟨n, rfl⟩ := suc_of hn
    have ed : w32 (Int.tdiv (k : Int) 20) = ((k / 20 : Nat) : Int) := by rw [tdiv20 (by omega), w32_eq (by omega) (by omega)]; omega
    unfold fX12_cornersGone_L4 fX12_stands
    rw [rdA_ok (by decide) (by decide), r1, w32_eq (by omega) (by omega), bnd_s, if_neg (by omega), rdA_ok (by omega) (by omega), Int.toNat_natCast, ed, w32_k (by omega)]
    have e : (if 268435456 ≤ S 140 k then some 0 else some (jshl 1 ((k / 20 : Nat) : Int)) : Option Int) = some (if decide (S 140 k < 268435456) = true then jshl 1 ((k / 20 : Nat) : Int) else 0) := by
      by_cases cc : S 140 k < 268435456
      · rw [if_neg (by omega), if_pos (decide_eq_true cc)]
      · rw [if_pos (by omega), if_neg (by rw [decide_eq_true_eq]; exact cc)]
    rw [e, bnd_s, lt_ok, lt_ok]
    have t : jor (orb (anyB (fun a => a / 20) (fun a => decide (S 140 a < 268435456)) k) 6) (if decide (S 140 k < 268435456) = true then jshl 1 ((k / 20 : Nat) : Int) else 0) = orb (anyB (fun a => a / 20) (fun a => decide (S 140 a < 268435456)) (k + 1)) 6 := @anyB_step (fun a => a / 20) (fun a => decide (S 140 a < 268435456)) k (by show k / 20 < 6; omega)
    rw [t]
    exact ih n (k + 1) (by omega) (by omega)
theorem cornersGone_ok {S : SS} (h1 : 1 ≤ S 131 1 ∧ S 131 1 ≤ 6) : fX12_cornersGone S = some (orb (anyB (fun a => a / 20) (fun a => decide (S 140 a < 268435456)) (20 * S 131 1).toNat) 6) := by
  have e := corners_m (S := S) rfl h1 (20 * S 131 1).toNat FU 0 (by omega) (by unfold FU; omega)
  have e' : fX12_cornersGone_L4 S FU 0 0 = some (orb (anyB (fun a => a / 20) (fun a => decide (S 140 a < 268435456)) (20 * S 131 1).toNat) 6) := by
    have z : orb (anyB (fun a => a / 20) (fun a => decide (S 140 a < 268435456)) 0) 6 = 0 := @orb_f 6
    rw [z] at e
    exact e
  unfold fX12_cornersGone
  rw [e', bnd_s]
theorem k_reach : K_reach Inv := by
  intro g cg S hI
  obtain ⟨i0, hC, hS, _⟩ := id hI
  obtain ⟨_, hB, _⟩ := id hC
  have h1 := hB.1
  unfold fX11_reach fX12_reach
  rw [has_g hC, bnd_s]
  by_cases a : 0 ≤ g ∧ g < S 131 3
  · obtain ⟨S1, found, o, L, pr, S2, q1, q2, q3, q4, q5, q6, q7, q8, q9, q10, q11, q12⟩ := both_now hI a
    have e131 : S1 131 = S 131 := q7 131 (by omega)
    have e2 : S2 131 = S 131 := (q11 131 (by omega) (by omega) (by omega)).trans e131
    have hf : found ≤ (20 * S 131 1).toNat := pigeon _ found o q4.2.1 q4.2.2.1
    have l1 := reach_c q5 (by omega) (fun p hp => by have := q4.2.1 p hp; omega) found FU 0 (by omega) (by unfold FU; omega)
    have z : orb (anyB (fun i => o i / 20) (fun _ => true) 0) 6 = 0 := @orb_f 6
    rw [z] at l1
    have l1' : fX11_reach_L38 S1 FU 0 0 = some (orb (anyB (fun i => o i / 20) (fun _ => true) found) 6) := l1
    have l2 := cornersGone_ok (S := S2) (by rw [e2]; exact h1)
    rw [e2] at l2
    have eq : orb (anyB (fun i => o i / 20) (fun _ => true) found) 6 = orb (anyB (fun a => a / 20) (fun a => decide (S2 140 a < 268435456)) (20 * S 131 1).toNat) 6 := by
      refine orb_congr (fun k hk => ?_)
      rw [Bool.eq_iff_iff, anyB_iff, anyB_iff]
      constructor
      · rintro ⟨i, i1, _, i2⟩
        have ho := q4.2.1 i i1
        refine ⟨o i, ho, ?_, i2⟩
        obtain ⟨d, d1, d2, d3, _⟩ | ⟨d1, d2, d3⟩ := go_gone q6 q9 (v := o i) (by omega)
        · exact decide_eq_true (by omega)
        · exact absurd (BI_reach q4 i i1).1 (d3 _)
      · rintro ⟨b, b1, b2, b3⟩
        rw [decide_eq_true_eq] at b2
        obtain ⟨d, d1, d2, d3, d4⟩ | ⟨d1, d2, d3⟩ := go_gone q6 q9 (v := b) (by omega)
        · obtain ⟨p, p1, p2, _⟩ := BI_least q4 (Nat.le_refl _) d b d4.1
          exact ⟨p, p1, rfl, by rw [b3, p2]⟩
        · omega
    rw [if_pos (decide_eq_true a), q1, bnd_s, q2, bnd_s, l1', bnd_s]
    refine ⟨_, S1, S2, rfl, ?_, q12⟩
    rw [lt_ok, up_same (by rw [q7 130 (by omega)]; exact i0), is_g (by rw [e131]; exact hB), e131, bnd_s, if_pos (decide_eq_true a), q8, bnd_s, l2, bnd_s, eq]
  · rw [if_neg (by rw [decide_eq_true_eq]; exact a)]
    refine ⟨_, S, S, rfl, ?_, hI⟩
    rw [lt_ok, up_same i0, is_g hB, bnd_s, if_neg (by rw [decide_eq_true_eq]; exact a)]
