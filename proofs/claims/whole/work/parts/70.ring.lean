/-! ring -/
def lstQ (z : Int) (X : Int → Prop) (r : Int) : Prop := (r = z ∧ ∀ x, ¬ X x) ∨ (X r ∧ ∀ x, X x → r ≤ x)
theorem lstQ_c {z r : Int} {X Y : Int → Prop} (e : ∀ x, X x ↔ Y x) (h : lstQ z X r) : lstQ z Y r := by
  have : X = Y := funext (fun x => propext (e x))
  rw [← this]; exact h
def clX (nx : Nat → Nat → Int) (v : Nat) (x : Int) : Prop := ∃ u s d, s < 8 ∧ Dist nx v u d ∧ nx u s = (v : Int) ∧ x = (d : Int) + 1
theorem back_lst {nx : Nat → Nat → Int} {st M found : Nat} {o L pr : Nat → Nat} {b : Int} (h : BI nx st M (8 * found) found o L pr) (hk : BK nx st (8 * found) found o L b) : lstQ (-1) (clX nx st) b := by
  have pos : ∀ u s d, s < 8 → Dist nx st u d → nx u s = (st : Int) → ∃ q, q < found ∧ u = o q ∧ d = L q := by
    intro u s d hs hd _
    obtain ⟨q, q1, q2, _⟩ := BI_least h (Nat.le_refl _) d u hd.1
    refine ⟨q, q1, q2, ?_⟩
    have := BI_dist h (Nat.le_refl _) q1
    rw [← q2] at this
    exact Dist_u hd this
  obtain ⟨h1, h2⟩ | ⟨P, p1, p2, p3, p4, p5⟩ := hk
  · refine Or.inl ⟨h1, fun x hx => ?_⟩
    obtain ⟨u, s, d, hs, hd, hn, _⟩ := hx
    obtain ⟨q, q1, q2, _⟩ := pos u s d hs hd hn
    have e1 : (8 * q + s) / 8 = q := by omega
    have e2 : (8 * q + s) % 8 = s := by omega
    have := h2 (8 * q + s) (by omega) (by omega)
    rw [e1, e2, ← q2] at this
    exact this hn
  · refine Or.inr ⟨⟨o (P / 8), P % 8, L (P / 8), by omega, BI_dist h (Nat.le_refl _) p2, p3, p4⟩, fun x hx => ?_⟩
    obtain ⟨u, s, d, hs, hd, hn, hx⟩ := hx
    obtain ⟨q, q1, q2, q3⟩ := pos u s d hs hd hn
    have e1 : (8 * q + s) / 8 = q := by omega
    have e2 : (8 * q + s) % 8 = s := by omega
    by_cases c : 8 * q + s < P
    · have := p5 (8 * q + s) c (by omega)
      rw [e1, e2, ← q2] at this
      exact absurd hn this
    · have := BI_mono h q (P / 8) (by omega) q1
      omega
theorem clX_b {nx : Nat → Nat → Int} {M : Nat} (hnx : ∀ a s, nx a s < M) (hM : M ≤ 120) {v : Nat} (hv : v < M) {x : Int} (h : clX nx v x) : 1 ≤ x ∧ x ≤ 120 := by
  obtain ⟨u, s, d, _, hd, _, hx⟩ := h
  have := Dist_lt hnx hv hd
  omega
theorem ring_c {R : Nat → Int} {g : Int} {found M : Nat} {o L pr : Nat → Nat} (hM : M = (20 * R 1).toNat) (hB : townB R) (hg : 0 ≤ g ∧ g < R 3) (hf : found ≤ M) (ho : ∀ p, p < found → o p < M) : ∀ (m n k : Nat) (S : SS) (r : Int), m + k = found → m < n → Core S → Stand S → S 131 = R → BR S 35 found o L pr → lstQ (-1) (fun x => ∃ i, i < k ∧ clX (nowG R g) (o i) x) r →
    ∃ S' r', fX11_ring_L38 g n r k S = some (r', S') ∧ lanes S' ∧ lstQ (-1) (fun x => ∃ i, i < found ∧ clX (nowG R g) (o i) x) r' := by
  have h1 := hB.1
  intro m
  induction m with
  | zero =>
    intro n k S r hk hn hC hS hR hr h
    obtain ⟨n, rfl⟩ := suc_of hn
    have ek : k = found := by omega
    subst ek
    unfold fX11_ring_L38
    rw [hr.1, if_pos (by omega)]
    exact ⟨S, r, rfl, hC.2.2, h⟩
  | succ m ih =>
    intro n k S r hk hn hC hS hR hr h
    obtain ⟨n, rfl⟩ := suc_of hn
    have hk' := ho k (by omega)
    obtain ⟨S1, a1, a2, found', o', L', pr', a3, a4, a5⟩ := spread_now (t := 43) (st := o k) (g := g) (by omega) hC hS (by rw [hR]; exact hg) (by rw [hR]; omega)
    rw [hR] at a3 a5
    have f1 : ∀ a, (a < 30 ∨ 33 < a) ∧ (a < 43 ∨ 48 < a) → S1 a = S a := fun a ha => w_fX10_spread a1 (by omega)
    have bl := back_lst a3 a5
    have nb : ∀ x, (∃ i, i < k ∧ clX (nowG R g) (o i) x) → 1 ≤ x ∧ x ≤ 120 := by
      rintro x ⟨i, i1, i2⟩
      exact clX_b (nowG_lt hB) (by omega) (by have := ho i (by omega); omega) i2
    have nb' : ∀ x, clX (nowG R g) (o k) x → 1 ≤ x ∧ x ≤ 120 := fun x hx => clX_b (nowG_lt hB) (by omega) (by omega) hx
    have un : ∀ x, (∃ i, i < k + 1 ∧ clX (nowG R g) (o i) x) ↔ ((∃ i, i < k ∧ clX (nowG R g) (o i) x) ∨ clX (nowG R g) (o k) x) := by
      intro x
      constructor
      · rintro ⟨i, i1, i2⟩
        by_cases c : i = k
        · subst c; exact Or.inr i2
        · exact Or.inl ⟨i, by omega, i2⟩
      · rintro (⟨i, i1, i2⟩ | h)
        · exact ⟨i, by omega, i2⟩
        · exact ⟨k, by omega, h⟩
    generalize hb : S1 43 9 = b at bl
    have nx : ∃ r1, (if b = -1 then some r else if r = -1 then some b else if r ≤ b then some r else some b : Option Int) = some r1 ∧ lstQ (-1) (fun x => ∃ i, i < k + 1 ∧ clX (nowG R g) (o i) x) r1 := by
      obtain ⟨b1, b2⟩ | ⟨b1, b2⟩ := bl
      · rw [if_pos b1]
        refine ⟨r, rfl, lstQ_c (fun x => ?_) h⟩
        rw [un x]
        exact ⟨fun h => Or.inl h, fun h => h.elim id (fun h => absurd h (b2 x))⟩
      · have bb := nb' b b1
        rw [if_neg (by omega)]
        obtain ⟨r1, r2⟩ | ⟨r1, r2⟩ := h
        · rw [if_pos r1]
          refine ⟨b, rfl, Or.inr ⟨(un b).mpr (Or.inr b1), fun x hx => ?_⟩⟩
          obtain hx | hx := (un x).mp hx
          · exact absurd hx (r2 x)
          · exact b2 x hx
        · have rb := nb r r1
          rw [if_neg (by omega)]
          by_cases c : r ≤ b
          · rw [if_pos c]
            refine ⟨r, rfl, Or.inr ⟨(un r).mpr (Or.inl r1), fun x hx => ?_⟩⟩
            obtain hx | hx := (un x).mp hx
            · exact r2 x hx
            · have := b2 x hx; omega
          · rw [if_neg c]
            refine ⟨b, rfl, Or.inr ⟨(un b).mpr (Or.inr b1), fun x hx => ?_⟩⟩
            obtain hx | hx := (un x).mp hx
            · have := r2 x hx; omega
            · exact b2 x hx
    obtain ⟨r1, n1, n2⟩ := nx
    unfold fX11_ring_L38
    rw [spotAt_ok hr (by omega) (by omega), hr.1, if_neg (by omega), bnd_s, a1, bnd_s, lt_ok, hb, n1, bnd_s, lt_ok, w32_k (by omega)]
    exact ih n (k + 1) S1 r1 (by omega) (by omega) (core_fr (fun a ha => f1 a (by omega)) a2 hC) (stand_fr (f1 _ (by omega)) (f1 _ (by omega)) (f1 _ (by omega)) (f1 _ (by omega)) (f1 _ (by omega)) hS) ((f1 131 (by omega)).trans hR) (BR_fr (by rw [f1 35 (by omega)]) (f1 _ (by omega)) (f1 _ (by omega)) (f1 _ (by omega)) (f1 _ (by omega)) hr) n2
def mlX (nx : Nat → Nat → Int) (to : Nat → Int) (v P : Nat) (x : Int) : Prop := ∃ Q, Q < P ∧ to (Q / 8) < 268435456 ∧ nx (Q / 8) (Q % 8) = (v : Int) ∧ x = to (Q / 8) + 1
theorem ring_m1 {nx : Nat → Nat → Int} {S : SS} {v u M : Nat} {A : Int → Prop} (hu : u < 120) (hv : v < 120) (hx : ∀ s, s < 8 → S 138 (8 * u + s) = nx u s) (hb : 0 ≤ S 141 u ∧ S 141 u ≤ 268435456) (hA : ∀ x, A x → x < 268435456) (hX : ∀ P x, mlX nx (S 141) v P x → x < 268435456) : ∀ (m n k : Nat) (r : Int), m + k = 8 → m < n → lstQ 268435456 (fun x => A x ∨ mlX nx (S 141) v (8 * u + k) x) r → ∃ r', fX12_ring_L75 v u S n r k = some r' ∧ lstQ 268435456 (fun x => A x ∨ mlX nx (S 141) v (8 * u + 8) x) r' := by
  intro m
  induction m with
  | zero =>
    intro n k r hk hn h
    obtain ⟨n, rfl⟩ := suc_of hn
    have ek : k = 8 := by omega
    subst ek
    unfold fX12_ring_L75
    rw [if_pos (by omega)]
    exact ⟨r, rfl, h⟩
  | succ m ih =>
    intro n k r hk hn h
    obtain ⟨n, rfl⟩ := suc_of hn
    have e1 : (8 * u + k) / 8 = u := by omega
    have e2 : (8 * u + k) % 8 = k := by omega
    have same : ¬ (S 141 u < 268435456 ∧ nx u k = (v : Int)) → lstQ 268435456 (fun x => A x ∨ mlX nx (S 141) v (8 * u + (k + 1)) x) r := by
      intro hn
      refine lstQ_c (fun x => ?_) h
      constructor
      · rintro (h | ⟨Q, q1, q2⟩)
        · exact Or.inl h
        · exact Or.inr ⟨Q, by omega, q2⟩
      · rintro (h | ⟨Q, q1, q2, q3, q4⟩)
        · exact Or.inl h
        · by_cases c : Q = 8 * u + k
          · subst c
            rw [e1] at q2
            rw [e1, e2] at q3
            exact absurd ⟨q2, q3⟩ hn
          · exact Or.inr ⟨Q, by omega, q2, q3, q4⟩
    unfold fX12_ring_L75
    rw [if_neg (by omega), rdA_ok (by omega) (by omega), Int.toNat_natCast, w32_k (k := k) (by omega)]
    by_cases c1 : S 141 u < 268435456
    · have ex : (8 * (u : Int) + (k : Int)).toNat = 8 * u + k := by omega
      rw [if_neg (by omega), w32_eq (x := 8 * (u : Int)) (by omega) (by omega), w32_eq (x := 8 * (u : Int) + (k : Int)) (by omega) (by omega), rdA_ok (by omega) (by omega), ex, hx k (by omega)]
      by_cases c2 : nx u k = (v : Int)
      · rw [if_pos c2, rdA_ok (by omega) (by omega), Int.toNat_natCast, w32_eq (x := S 141 u + 1) (by omega) (by omega)]
        have new : mlX nx (S 141) v (8 * u + (k + 1)) (S 141 u + 1) := ⟨8 * u + k, by omega, by rw [e1]; exact c1, by rw [e1, e2]; exact c2, by rw [e1]⟩
        have un : ∀ x, (A x ∨ mlX nx (S 141) v (8 * u + (k + 1)) x) → (A x ∨ mlX nx (S 141) v (8 * u + k) x) ∨ x = S 141 u + 1 := by
          rintro x (h | ⟨Q, q1, q2, q3, q4⟩)
          · exact Or.inl (Or.inl h)
          · by_cases c : Q = 8 * u + k
            · subst c; rw [e1] at q4; exact Or.inr q4
            · exact Or.inl (Or.inr ⟨Q, by omega, q2, q3, q4⟩)
        have mono : ∀ x, (A x ∨ mlX nx (S 141) v (8 * u + k) x) → (A x ∨ mlX nx (S 141) v (8 * u + (k + 1)) x) := by
          rintro x (h | ⟨Q, q1, q2⟩)
          · exact Or.inl h
          · exact Or.inr ⟨Q, by omega, q2⟩
        by_cases c3 : r ≤ S 141 u + 1
        · rw [if_pos c3, bnd_s, lt_ok]
          refine ih n (k + 1) r (by omega) (by omega) ?_
          obtain ⟨r1, r2⟩ | ⟨r1, r2⟩ := h
          · have := hX _ _ new
            have e : r = S 141 u + 1 := by omega
            exact Or.inr ⟨by rw [e]; exact Or.inr new, fun x hx => by
              obtain h | h := un x hx
              · exact absurd h (r2 x)
              · omega⟩
          · exact Or.inr ⟨mono r r1, fun x hx => by
              obtain h | h := un x hx
              · exact r2 x h
              · omega⟩
        · rw [if_neg c3, rdA_ok (by omega) (by omega), Int.toNat_natCast, w32_eq (x := S 141 u + 1) (by omega) (by omega), lt_ok, bnd_s, lt_ok]
          refine ih n (k + 1) (S 141 u + 1) (by omega) (by omega) (Or.inr ⟨Or.inr new, fun x hx => ?_⟩)
          obtain h' | h' := un x hx
          · obtain ⟨r1, r2⟩ | ⟨r1, r2⟩ := h
            · exact absurd h' (r2 x)
            · have := r2 x h'; omega
          · omega
      · rw [if_neg c2, bnd_s, lt_ok]
        exact ih n (k + 1) r (by omega) (by omega) (same (fun h => c2 h.2))
    · rw [if_pos (by omega), bnd_s, lt_ok]
      exact ih n (k + 1) r (by omega) (by omega) (same (fun h => c1 h.1))
theorem ring_m2 {nx : Nat → Nat → Int} {S : SS} {v M : Nat} {A : Int → Prop} (hM : M = (20 * S 131 1).toNat) (h1 : 1 ≤ S 131 1 ∧ S 131 1 ≤ 6) (hv : v < 120) (hx : ∀ a s, a < M → s < 8 → S 138 (8 * a + s) = nx a s) (hb : ∀ u, u < 120 → 0 ≤ S 141 u ∧ S 141 u ≤ 268435456) (hA : ∀ x, A x → x < 268435456) (hX : ∀ P x, mlX nx (S 141) v P x → x < 268435456) : ∀ (m n u : Nat) (r : Int), m + u = M → m < n → lstQ 268435456 (fun x => A x ∨ mlX nx (S 141) v (8 * u) x) r → ∃ r', fX12_ring_L63 v S n r u = some r' ∧ lstQ 268435456 (fun x => A x ∨ mlX nx (S 141) v (8 * M) x) r' := by
  have r1 : S 131 (1 : Int).toNat = S 131 1 := rfl
  intro m
  induction m with
  | zero =>
    intro n u r hk hn h
    obtain ⟨n, rfl⟩ := suc_of hn
    have ek : u = M := by omega
    unfold fX12_ring_L63 fX12_stands
    rw [rdA_ok (by decide) (by decide), r1, w32_eq (by omega) (by omega), bnd_s, if_pos (by omega)]
    rw [ek] at h
    exact ⟨r, rfl, h⟩
  | succ m ih =>
    intro n u r hk hn h
    obtain ⟨n, rfl⟩ := suc_of hn
    obtain ⟨r', q1, q2⟩ := ring_m1 (M := M) (u := u) (by omega) hv (fun s hs => hx u s (by omega) hs) (hb u (by omega)) hA hX 8 FU 0 r (by omega) (by decide) h
    have q1' : fX12_ring_L75 v u S FU r 0 = some r' := q1
    unfold fX12_ring_L63 fX12_stands
    rw [rdA_ok (by decide) (by decide), r1, w32_eq (by omega) (by omega), bnd_s, if_neg (by omega), q1', bnd_s, lt_ok, w32_k (by omega)]
    exact ih n (u + 1) r' (by omega) (by omega) (by rw [show 8 * (u + 1) = 8 * u + 8 by omega]; exact q2)
theorem mlX_iff {nx : Nat → Nat → Int} {to : Nat → Int} {v M : Nat} (hM : M ≤ 120) (hnx : ∀ a s, nx a s < M) (hv : v < M) (h : goneF nx v to) (x : Int) : mlX nx to v (8 * M) x ↔ clX nx v x := by
  constructor
  · rintro ⟨Q, q1, q2, q3, q4⟩
    obtain ⟨d, d1, d2, _⟩ | ⟨_, d2⟩ := h (Q / 8) (by omega)
    · exact ⟨Q / 8, Q % 8, d, by omega, d1, q3, by omega⟩
    · omega
  · rintro ⟨u, s, d, hs, hd, hn, hx⟩
    have hu : u < M := rIn_lt hnx hv hd.1
    have e1 : (8 * u + s) / 8 = u := by omega
    have e2 : (8 * u + s) % 8 = s := by omega
    obtain ⟨d', d1, d2, d3⟩ | ⟨d1, _⟩ := h u (by omega)
    · have := Dist_u hd d1
      exact ⟨8 * u + s, by omega, by rw [e1]; omega, by rw [e1, e2]; exact hn, by rw [e1]; omega⟩
    · exact absurd hd.1 (d1 d)
theorem ring_m3 {R : Nat → Int} {g : Int} {M : Nat} (hM : M = (20 * R 1).toNat) (hB : townB R) : ∀ (m n k : Nat) (S : SS) (r : Int), m + k = M → m < n → S 131 = R → (∀ a s, a < M → s < 8 → S 138 (8 * a + s) = nowG R g a s) → lstQ 268435456 (fun x => ∃ a, a < k ∧ S 140 a ≠ 268435456 ∧ clX (nowG R g) a x) r →
    ∃ S' r', fX12_ring_L28 n r k S = some (r', S') ∧ lstQ 268435456 (fun x => ∃ a, a < M ∧ S 140 a ≠ 268435456 ∧ clX (nowG R g) a x) r' := by
  have h1 := hB.1
  intro m
  induction m with
  | zero =>
    intro n k S r hk hn hR hx h
    obtain ⟨n, rfl⟩ := suc_of hn
    have ek : k = M := by omega
    have r1 : S 131 (1 : Int).toNat = R 1 := by rw [hR]; rfl
    unfold fX12_ring_L28 fX12_stands
    rw [rdA_ok (by decide) (by decide), r1, w32_eq (by omega) (by omega), bnd_s, if_pos (by omega)]
    rw [ek] at h
    exact ⟨S, r, rfl, h⟩
  | succ m ih =>
    intro n k S r hk hn hR hx h
    obtain ⟨n, rfl⟩ := suc_of hn
    have r1 : S 131 (1 : Int).toNat = R 1 := by rw [hR]; rfl
    have nb : ∀ a, a < M → ∀ x, clX (nowG R g) a x → 1 ≤ x ∧ x ≤ 120 := fun a ha x hx => clX_b (nowG_lt hB) (by omega) (by omega) hx
    have un : S 140 k ≠ 268435456 → ∀ x, (∃ a, a < k + 1 ∧ S 140 a ≠ 268435456 ∧ clX (nowG R g) a x) ↔ ((∃ a, a < k ∧ S 140 a ≠ 268435456 ∧ clX (nowG R g) a x) ∨ clX (nowG R g) k x) := by
      intro hk x
      constructor
      · rintro ⟨i, i1, i2, i3⟩
        by_cases c : i = k
        · subst c; exact Or.inr i3
        · exact Or.inl ⟨i, by omega, i2, i3⟩
      · rintro (⟨i, i1, i2⟩ | h)
        · exact ⟨i, by omega, i2⟩
        · exact ⟨k, by omega, hk, h⟩
    unfold fX12_ring_L28 fX12_stands
    rw [rdA_ok (by decide) (by decide), r1, w32_eq (by omega) (by omega), bnd_s, if_neg (by omega), rdA_ok (by omega) (by omega), Int.toNat_natCast]
    by_cases c : S 140 k = 268435456
    · rw [if_pos c, bnd_s, lt_ok, w32_k (by omega)]
      refine ih n (k + 1) S r (by omega) (by omega) hR hx (lstQ_c (fun x => ?_) h)
      constructor
      · rintro ⟨a, a1, a2⟩; exact ⟨a, by omega, a2⟩
      · rintro ⟨a, a1, a2, a3⟩
        by_cases ca : a = k
        · subst ca; exact absurd c a2
        · exact ⟨a, by omega, a2, a3⟩
    · obtain ⟨S1, d1, d2, d3⟩ := laysGone_ok (nx := nowG R g) (st := k) (M := M) (c := 141) (S := S) (by rw [hR]; exact hM) (by rw [hR]; exact h1) (by rw [hM]; exact nowG_lt hB) nowG_m (by omega) (Or.inr rfl) hx
      have hR1 : S1 131 = R := (d3 131 (by decide)).trans hR
      have hx1 : ∀ a s, a < M → s < 8 → S1 138 (8 * a + s) = nowG R g a s := fun a s ha hs => by rw [d3 138 (by decide)]; exact hx a s ha hs
      have hmX : ∀ P x, mlX (nowG R g) (S1 141) k P x → x < 268435456 ∨ 8 * M < P := by
        rintro P x ⟨Q, q1, q2, q3, q4⟩
        by_cases c : P ≤ 8 * M
        · obtain ⟨d, e1, e2, e3⟩ | ⟨_, e2⟩ := d2 (Q / 8) (by omega)
          · exact Or.inl (by omega)
          · omega
        · exact Or.inr (by omega)
      have h0 : lstQ 268435456 (fun x => (∃ a, a < k ∧ S 140 a ≠ 268435456 ∧ clX (nowG R g) a x) ∨ mlX (nowG R g) (S1 141) k (8 * 0) x) r := by
        refine lstQ_c (fun x => ?_) h
        exact ⟨fun h => Or.inl h, fun h => h.elim id (fun ⟨Q, q, _⟩ => by omega)⟩
      have hAA : ∀ x, (∃ a, a < k ∧ S 140 a ≠ 268435456 ∧ clX (nowG R g) a x) → x < 268435456 := by
        rintro x ⟨a, a1, a2, a3⟩
        have := nb a (by omega) x a3
        omega
      have hXX : ∀ P x, mlX (nowG R g) (S1 141) k P x → x < 268435456 := by
        rintro P x ⟨Q, q1, q2, q3, q4⟩
        by_cases cQ : Q / 8 < 120
        · obtain ⟨d, e1, e2, e3⟩ | ⟨_, e2⟩ := d2 (Q / 8) cQ
          · omega
          · omega
        · exfalso
          have hs : sideP R ((Q % 8 : Nat) : Int) (((Q / 8 : Nat) : Int) / 20) (R (40 + Q % 8)) = -1 ∨ ¬ (((Q % 8 : Nat) : Int) < R 2) := by
            by_cases cs : ((Q % 8 : Nat) : Int) < R 2
            · left
              obtain ⟨b1, b2, _⟩ := st_b hB (s := ((Q % 8 : Nat) : Int)) (by omega) cs
              unfold sideP
              rw [if_neg (by omega), if_neg (by omega)]
            · exact Or.inr cs
          have : nowG R g (Q / 8) (Q % 8) = -1 := by
            unfold nowG gr
            rw [if_neg]
            intro y
            obtain hs | hs := hs
            · have z : aftP R g ((Q % 8 : Nat) : Int) ((Q / 8 : Nat) : Int) (R (40 + Q % 8)) (R 48) = -2 := by unfold aftP; rw [if_pos hs]
              have y2 : 0 ≤ aftP R g ((Q % 8 : Nat) : Int) ((Q / 8 : Nat) : Int) (R (40 + Q % 8)) (R 48) := y.2
              omega
            · exact hs y.1
          omega
      obtain ⟨r', q1, q2⟩ := ring_m2 (S := S1) (v := k) (M := M) (nx := nowG R g) (by rw [hR1]; exact hM) (by rw [hR1]; exact h1) (by omega) hx1 (fun u hu => goneF_b d2 hu) hAA hXX M FU 0 r (by omega) (by unfold FU; omega) h0
      have q1' : fX12_ring_L63 k S1 FU r 0 = some r' := q1
      have q3 : lstQ 268435456 (fun x => ∃ a, a < k + 1 ∧ S1 140 a ≠ 268435456 ∧ clX (nowG R g) a x) r' := by
        rw [d3 140 (by decide)]
        refine lstQ_c (fun x => ?_) q2
        rw [un c x, mlX_iff (M := M) (by omega) (by rw [hM]; exact nowG_lt hB) (by omega) d2]
      rw [if_neg c, d1, bnd_s, q1', bnd_s, bnd_s, lt_ok, w32_k (by omega)]
      obtain ⟨S', r2, z1, z2⟩ := ih n (k + 1) S1 r' (by omega) (by omega) hR1 hx1 q3
      rw [d3 140 (by decide)] at z2
      exact ⟨S', r2, z1, z2⟩
