def KI (nx : Nat → Nat → Int) (M : Nat) (G0 G I : Nat → Int) (rk : Nat → Nat) (K : Nat) : Prop :=
  (∀ v, v < 120 → G v = 0 ∨ G v = 268435456) ∧ (∀ v, v < 120 → G v = 0 → G0 v = 0) ∧ (∀ w, w < 120 → I w = IC nx G w M)
  ∧ (∀ v, v < M → G0 v = 0 → G v ≠ 0 → rk v < K ∧ ∀ a s, a < M → s < 8 → G0 a = 0 → nx a s = (v : Int) → G a ≠ 0 ∧ rk a < rk v)
theorem KI_rm {nx : Nat → Nat → Int} {M v : Nat} {G0 G I I' : Nat → Int} {rk : Nat → Nat} {K : Nat} (hM : M ≤ 120) (h : KI nx M G0 G I rk K) (hv : v < M) (h0 : G v = 0) (hi : I v ≤ 0) (hI : ∀ w, w < 120 → I' w = I w - dg nx v w 8) : KI nx M G0 (pt G v 268435456) I' (pt rk v K) (K + 1) := by
  obtain ⟨h1, h2, h3, h4⟩ := h
  refine ⟨fun u hu => ?_, fun u hu e => ?_, fun w hw => ?_, fun u hu e0 e1 => ?_⟩
  · by_cases c : u = v
    · rw [c, pt_h]; exact Or.inr rfl
    · rw [pt_o c]; exact h1 u hu
  · have c : u ≠ v := fun c => by rw [c, pt_h] at e; exact absurd e (by decide)
    rw [pt_o c] at e
    exact h2 u hu e
  · rw [hI w hw, h3 w hw, IC_rm hv h0 (by decide)]
  · have np : ∀ a s, a < M → s < 8 → G a = 0 → nx a s ≠ (v : Int) := fun a s ha hs g0 e => by
      have := (IC_pos (nx := nx) (G := G) (w := v) M).mpr ⟨a, s, ha, hs, g0, e⟩
      rw [h3 v (by omega)] at hi
      omega
    by_cases c : u = v
    · subst c
      rw [pt_h]
      refine ⟨by omega, fun a s ha hs ea en => ?_⟩
      have ga : G a ≠ 0 := fun z => np a s ha hs z en
      have av : a ≠ u := fun z => ga (by rw [z]; exact h0)
      rw [pt_o av, pt_o av]
      exact ⟨ga, (h4 a ha ea ga).1⟩
    · rw [pt_o c] at e1 ⊢
      obtain ⟨p1, p2⟩ := h4 u hu e0 e1
      refine ⟨by omega, fun a s ha hs ea en => ?_⟩
      obtain ⟨q1, q2⟩ := p2 a s ha hs ea en
      have av : a ≠ v := fun z => q1 (by rw [z]; exact h0)
      rw [pt_o av, pt_o av]
      exact ⟨q1, q2⟩
theorem rm_in {R : Nat → Int} {g x : Int} {M a : Nat} {nx : Nat → Nat → Int} (hM : M ≤ 120) (h2 : 0 ≤ R 2 ∧ R 2 ≤ 8) (hnx : ∀ a s, nx a s < M) (hnn : ∀ a s, nx a s = -1 ∨ 0 ≤ nx a s) (ha : a < M) (hL : ∀ (S : SS) (a s : Nat), bthT R g M S → a < M → (s : Int) < R 2 → fX12_lawTo a s x S = some (nx a s)) {B : Nat → Int} (hB : ∀ w, w < 120 → 0 ≤ B w ∧ B w ≤ 960) : ∀ (m n k : Nat) (S : SS), m + k = (R 2).toNat → m < n → bthT R g M S → (∀ w, w < 120 → S 145 w = B w - dg nx a w k) → ∃ S', fX12_noRing_L279 x 1 a n k S = some S' ∧ ∀ w, w < 120 → S' 145 w = B w - dg nx a w (R 2).toNat := by
  intro m
  induction m with
  | zero =>
    intro n k S hk hn hT hI
    obtain ⟨n, rfl⟩ := suc_of hn
    unfold fX12_noRing_L279
    rw [rdA_ok (by decide) (by decide), show S 131 (2 : Int).toNat = R 2 by rw [hT.1]; rfl, if_pos (by omega)]
    have ek : k = (R 2).toNat := by omega
    rw [← ek]
    exact ⟨S, rfl, hI⟩
  | succ m ih =>
    intro n k S hk hn hT hI
    obtain ⟨n, rfl⟩ := suc_of hn
    obtain ⟨r, hr⟩ : ∃ r, r = fX12_noRing_L279 x 1 a (n + 1) k S := ⟨_, rfl⟩
    rw [← hr]
    unfold fX12_noRing_L279 at hr
    rw [rdA_ok (by decide) (by decide), show S 131 (2 : Int).toNat = R 2 by rw [hT.1]; rfl, if_neg (by omega), hL S a k hT ha (by omega), bnd_s] at hr
    by_cases e : nx a k = -1
    · rw [if_pos e, bnd_s, lt_ok, w32_k (by omega)] at hr
      rw [hr]
      exact ih n (k + 1) S (by omega) (by omega) hT (fun w hw => by rw [hI w hw, dg_s, if_neg (by omega), Int.add_zero])
    · have hw0 : 0 ≤ nx a k := by
        rcases hnn a k with y | y
        · exact absurd y e
        · exact y
      have hw1 := hnx a k
      obtain ⟨w, hw⟩ : ∃ w : Nat, nx a k = w := ⟨(nx a k).toNat, by omega⟩
      have bd := dg_b (nx := nx) (a := a) (w := w) k
      have bB := hB w (by omega)
      have iw := hI w (by omega)
      have ev : w32 (S 145 w - 1) = S 145 w - 1 := by
        generalize dg nx a w k = d at *
        rw [w32_eq (by omega) (by omega)]
      rw [if_neg e, bnd_s, hw, rdA_ok (by omega) (by omega), wrA_ok (by omega) (by omega), Int.toNat_natCast, ev, bnd_s, lt_ok, w32_k (by omega)] at hr
      rw [hr]
      clear ev
      refine ih n (k + 1) (up S 145 w (S 145 w - 1)) (by omega) (by omega) (bthT_fr (up_row (by decide)) (up_row (by decide)) hT) (fun u hu => ?_)
      rw [up_at, dg_s, hw]
      by_cases c : u = w
      · subst c
        rw [if_pos rfl, if_pos rfl, iw]
        generalize dg nx a u k = d
        omega
      · rw [if_neg c, if_neg (by omega), Int.add_zero]
        exact hI u hu
theorem rm_mid {R : Nat → Int} {g x : Int} {M : Nat} {nx : Nat → Nat → Int} {G0 : Nat → Int} (hMM : M = (20 * R 1).toNat) (h1 : 1 ≤ R 1 ∧ R 1 ≤ 6) (h2 : 0 ≤ R 2 ∧ R 2 ≤ 8) (hnx : ∀ a s, nx a s < M) (hnn : ∀ a s, nx a s = -1 ∨ 0 ≤ nx a s) (hz : ∀ a s : Nat, R 2 ≤ (s : Int) → nx a s = -1) (hL : ∀ (S : SS) (a s : Nat), bthT R g M S → a < M → (s : Int) < R 2 → fX12_lawTo a s x S = some (nx a s)) : ∀ (m n a : Nat) (S : SS) (fl : Int) (rk : Nat → Nat) (K : Nat), m + a = M → m < n → bthT R g M S → KI nx M G0 (S 140) (S 145) rk K → (fl = 0 ∨ fl = 1) →
    ∃ (fl' : Int) (S' : SS) (rk' : Nat → Nat) (K' : Nat), fX12_noRing_L232 x n fl a S = some (fl', S') ∧ KI nx M G0 (S' 140) (S' 145) rk' K' ∧ (fl' = 0 ∨ fl' = 1) ∧ UG (S 140) ≤ UG (S' 140) ∧ (fl' = 0 → fl = 0 ∧ S' 140 = S 140 ∧ S' 145 = S 145 ∧ ∀ b, a ≤ b → b < M → S 140 b = 0 → 0 < S 145 b) ∧ (fl' = 1 → fl = 1 ∨ UG (S 140) < UG (S' 140)) := by
  intro m
  induction m with
  | zero =>
    intro n a S fl rk K hk hn hT hK hf
    obtain ⟨n, rfl⟩ := suc_of hn
    unfold fX12_noRing_L232
    rw [stands_ok (by rw [hT.1]; exact h1.1) (by rw [hT.1]; exact h1.2), hT.1, bnd_s, if_pos (by omega)]
    exact ⟨fl, S, rk, K, rfl, hK, hf, Int.le_refl _, fun z => ⟨z, rfl, rfl, fun b h h' => by omega⟩, fun z => Or.inl z⟩
  | succ m ih =>
    intro n a S fl rk K hk hn hT hK hf
    obtain ⟨n, rfl⟩ := suc_of hn
    obtain ⟨r, hr⟩ : ∃ r, r = fX12_noRing_L232 x (n + 1) fl a S := ⟨_, rfl⟩
    rw [← hr]
    unfold fX12_noRing_L232 at hr
    rw [stands_ok (by rw [hT.1]; exact h1.1) (by rw [hT.1]; exact h1.2), hT.1, bnd_s, if_neg (by omega), rdA_ok (by omega) (by omega), rdA_ok (by omega) (by omega), wrA_ok (by omega) (by omega), Int.toNat_natCast] at hr
    have stay : r = fX12_noRing_L232 x n fl ((a + 1 : Nat) : Int) S → (S 140 a = 0 → 0 < S 145 a) → ∃ (fl' : Int) (S' : SS) (rk' : Nat → Nat) (K' : Nat), r = some (fl', S') ∧ KI nx M G0 (S' 140) (S' 145) rk' K' ∧ (fl' = 0 ∨ fl' = 1) ∧ UG (S 140) ≤ UG (S' 140) ∧ (fl' = 0 → fl = 0 ∧ S' 140 = S 140 ∧ S' 145 = S 145 ∧ ∀ b, a ≤ b → b < M → S 140 b = 0 → 0 < S 145 b) ∧ (fl' = 1 → fl = 1 ∨ UG (S 140) < UG (S' 140)) := by
      intro e p
      obtain ⟨fl', S', rk', K', x1, x2, x3, x4, x5, x6⟩ := ih n (a + 1) S fl rk K (by omega) (by omega) hT hK hf
      refine ⟨fl', S', rk', K', by rw [e]; exact x1, x2, x3, x4, fun z => ?_, x6⟩
      obtain ⟨y1, y2, y3, y4⟩ := x5 z
      refine ⟨y1, y2, y3, fun b h h' hz => ?_⟩
      by_cases c : b = a
      · subst c; exact p hz
      · exact y4 b (by omega) h' hz
    by_cases c : S 140 a = 0
    · rw [if_pos c] at hr
      by_cases d : S 145 a ≤ 0
      · rw [if_pos d] at hr
        have e140 : up S 140 a 268435456 140 = pt (S 140) a 268435456 := up_pt
        have e145 : up S 140 a 268435456 145 = S 145 := up_row (by decide)
        have T7 : bthT R g M (up S 140 a 268435456) := bthT_fr (up_row (by decide)) (up_row (by decide)) hT
        have ib : ∀ w, w < 120 → 0 ≤ S 145 w ∧ S 145 w ≤ 960 := fun w hw => by
          have := IC_b (nx := nx) (G := S 140) (w := w) M
          rw [hK.2.2.1 w hw]
          generalize IC nx (S 140) w M = d at *
          omega
        obtain ⟨S1, x1, x2⟩ := rm_in (by omega) h2 hnx hnn (show a < M by omega) hL (B := S 145) ib (R 2).toNat FU 0 (up S 140 a 268435456) (by omega) (by unfold FU; omega) T7 (fun w hw => by rw [e145]; show S 145 w = S 145 w - 0; omega)
        have x1' : fX12_noRing_L279 x 1 a FU 0 (up S 140 a 268435456) = some S1 := x1
        have f140 : S1 140 = pt (S 140) a 268435456 := (w_fX12_noRing_L279 (by decide) _ _ _ _ x1).trans e140
        have T1 : bthT R g M S1 := bthT_fr (w_fX12_noRing_L279 (by decide) _ _ _ _ x1) (w_fX12_noRing_L279 (by decide) _ _ _ _ x1) T7
        have K1 : KI nx M G0 (S1 140) (S1 145) (pt rk a K) (K + 1) := by
          rw [f140]
          exact KI_rm (by omega) hK (by omega) c d (fun w hw => by rw [x2 w hw, dg_8 h2 hz])
        have u1 : UG (S1 140) = UG (S 140) + 1 := by rw [f140]; exact UG_up (by omega) c (by decide)
        rw [x1', bnd_s, bnd_s] at hr
        simp only at hr
        rw [lt_ok, w32_k (by omega)] at hr
        obtain ⟨fl', S', rk', K', y1, y2, y3, y4, y5, y6⟩ := ih n (a + 1) S1 1 (pt rk a K) (K + 1) (by omega) (by omega) T1 K1 (Or.inr rfl)
        exact ⟨fl', S', rk', K', by rw [hr]; exact y1, y2, y3, by omega, fun z => absurd (y5 z).1 (by decide), fun _ => Or.inr (by omega)⟩
      · rw [if_neg d, bnd_s] at hr
        simp only at hr
        rw [lt_ok, w32_k (by omega)] at hr
        exact stay hr (fun _ => by omega)
    · rw [if_neg c, bnd_s] at hr
      simp only at hr
      rw [lt_ok, w32_k (by omega)] at hr
      exact stay hr (fun h => absurd h c)
theorem rm_out {R : Nat → Int} {g x : Int} {M : Nat} {nx : Nat → Nat → Int} {G0 : Nat → Int} (hMM : M = (20 * R 1).toNat) (h1 : 1 ≤ R 1 ∧ R 1 ≤ 6) (h2 : 0 ≤ R 2 ∧ R 2 ≤ 8) (hnx : ∀ a s, nx a s < M) (hnn : ∀ a s, nx a s = -1 ∨ 0 ≤ nx a s) (hz : ∀ a s : Nat, R 2 ≤ (s : Int) → nx a s = -1) (hL : ∀ (S : SS) (a s : Nat), bthT R g M S → a < M → (s : Int) < R 2 → fX12_lawTo a s x S = some (nx a s)) : ∀ (u n : Nat) (S : SS) (rk : Nat → Nat) (K : Nat), 120 ≤ UG (S 140) + u → u + 1 < n → bthT R g M S → KI nx M G0 (S 140) (S 145) rk K →
    ∃ S' rk' K', fX12_noRing_L223 x n 1 S = some S' ∧ KI nx M G0 (S' 140) (S' 145) rk' K' ∧ ∀ b, b < M → S' 140 b = 0 → 0 < S' 145 b := by
  intro u
  have one : ∀ (n : Nat) (S : SS) (rk : Nat → Nat) (K : Nat), bthT R g M S → KI nx M G0 (S 140) (S 145) rk K → ∃ (fl' : Int) (S' : SS) (rk' : Nat → Nat) (K' : Nat), fX12_noRing_L223 x (n + 1) 1 S = fX12_noRing_L223 x n fl' S' ∧ bthT R g M S' ∧ KI nx M G0 (S' 140) (S' 145) rk' K' ∧ ((fl' = 0 ∧ ∀ b, b < M → S' 140 b = 0 → 0 < S' 145 b) ∨ (fl' = 1 ∧ UG (S 140) < UG (S' 140))) := by
    intro n S rk K hT hK
    obtain ⟨fl1, S1, rk1, K1, x1, x2, x3, x4, x5, x6⟩ := rm_mid hMM h1 h2 hnx hnn hz hL M FU 0 S 0 rk K (by omega) (by unfold FU; omega) hT hK (Or.inl rfl)
    have x1' : fX12_noRing_L232 x FU 0 0 S = some (fl1, S1) := x1
    refine ⟨fl1, S1, rk1, K1, ?_, bthT_fr (w_fX12_noRing_L232 (by decide) _ _ _ _ _ x1) (w_fX12_noRing_L232 (by decide) _ _ _ _ _ x1) hT, x2, ?_⟩
    · conv => lhs; unfold fX12_noRing_L223
      rw [if_neg (by decide), x1', bnd_s]
    · rcases x3 with z | z
      · obtain ⟨_, p2, p3, p4⟩ := x5 z
        refine Or.inl ⟨z, fun b hb hz => ?_⟩
        rw [p2] at hz
        rw [p3]
        exact p4 b (by omega) hb hz
      · refine Or.inr ⟨z, ?_⟩
        rcases x6 z with y | y
        · exact absurd y (by decide)
        · exact y
  induction u with
  | zero =>
    intro n S rk K hu hn hT hK
    obtain ⟨n, rfl⟩ : ∃ f, n = f + 2 := ⟨n - 2, by omega⟩
    obtain ⟨fl1, S1, rk1, K1, x1, x2, x3, x4⟩ := one (n + 1) S rk K hT hK
    rcases x4 with ⟨rfl, z⟩ | ⟨_, z⟩
    · refine ⟨S1, rk1, K1, ?_, x3, z⟩
      rw [x1]
      unfold fX12_noRing_L223
      rw [if_pos rfl]
    · have := (UG_b (S1 140)).2
      omega
  | succ u ih =>
    intro n S rk K hu hn hT hK
    obtain ⟨n, rfl⟩ : ∃ f, n = f + 2 := ⟨n - 2, by omega⟩
    obtain ⟨fl1, S1, rk1, K1, x1, x2, x3, x4⟩ := one (n + 1) S rk K hT hK
    rcases x4 with ⟨rfl, z⟩ | ⟨rfl, z⟩
    · refine ⟨S1, rk1, K1, ?_, x3, z⟩
      rw [x1]
      unfold fX12_noRing_L223
      rw [if_pos rfl]
    · obtain ⟨S', rk', K', y1, y2, y3⟩ := ih (n + 1) S1 rk1 K1 (by omega) (by omega) x2 x3
      exact ⟨S', rk', K', by rw [x1]; exact y1, y2, y3⟩
theorem left_ok {S : SS} {R : Nat → Int} {M : Nat} (hMM : M = (20 * R 1).toNat) (h1 : 1 ≤ R 1 ∧ R 1 ≤ 6) (hR : S 131 = R) : ∀ (m n k : Nat), m + k = M → m < n → (∀ v, v < k → S 140 v ≠ 0) → ∃ r, fX12_noRing_L339 S n k = some r ∧ ((r = 0 ∧ ∃ v, v < M ∧ S 140 v = 0) ∨ (r = 1 ∧ ∀ v, v < M → S 140 v ≠ 0)) := by
  intro m
  induction m with
  | zero =>
    intro n k hk hn h
    obtain ⟨n, rfl⟩ := suc_of hn
    unfold fX12_noRing_L339
    rw [stands_ok (by rw [hR]; exact h1.1) (by rw [hR]; exact h1.2), hR, bnd_s, if_pos (by omega)]
    exact ⟨1, rfl, Or.inr ⟨rfl, fun v hv => h v (by omega)⟩⟩
  | succ m ih =>
    intro n k hk hn h
    obtain ⟨n, rfl⟩ := suc_of hn
    unfold fX12_noRing_L339
    rw [stands_ok (by rw [hR]; exact h1.1) (by rw [hR]; exact h1.2), hR, bnd_s, if_neg (by omega), rdA_ok (by omega) (by omega), Int.toNat_natCast]
    by_cases c : S 140 k = 0
    · rw [if_pos c]
      exact ⟨0, rfl, Or.inl ⟨rfl, k, by omega, c⟩⟩
    · rw [if_neg c, lt_ok, w32_k (by omega)]
      exact ih n (k + 1) (by omega) (by omega) (fun v hv => by
        by_cases d : v = k
        · rw [d]; exact c
        · exact h v (by omega))
theorem back_ring {nx : Nat → Nat → Int} {M st : Nat} {X : Nat → Prop} (hX : ∀ v, X v → v < M) (hp : ∀ v, X v → ∃ a s, X a ∧ s < 8 ∧ nx a s = (v : Int)) (hr : ∀ v, X v → ∃ n, rIn nx n st v) {v : Nat} (hv : X v) : RingP nx st := by
  have hp' : ∀ v : {v // X v}, ∃ a : {v // X v}, ∃ s, s < 8 ∧ nx a.1 s = (v.1 : Int) := fun ⟨v, h⟩ => by
    obtain ⟨a, s, h1, h2, h3⟩ := hp v h
    exact ⟨⟨a, h1⟩, s, h2, h3⟩
  obtain ⟨p, hp2⟩ : ∃ p : {v // X v} → {v // X v}, ∀ v, ∃ s, s < 8 ∧ nx (p v).1 s = (v.1 : Int) := ⟨fun v => Classical.choose (hp' v), fun v => Classical.choose_spec (hp' v)⟩
  obtain ⟨y, hy⟩ : ∃ y : Nat → {v // X v}, ∀ i, y (i + 1) = p (y i) := ⟨fun i => Nat.rec ⟨v, hv⟩ (fun _ z => p z) i, fun i => rfl⟩
  have path : ∀ d i, rIn nx d (y (i + d)).1 (y i).1 := by
    intro d
    induction d with
    | zero => intro i; exact rfl
    | succ d ih =>
      intro i
      obtain ⟨s, h1, h2⟩ := hp2 (y (i + d))
      rw [← hy] at h2
      exact rIn_pre h1 h2 (ih i)
  have rep : ∃ i j, i < j ∧ (y i).1 = (y j).1 := by
    by_cases c : ∃ i j, i < j ∧ (y i).1 = (y j).1
    · exact c
    · exfalso
      have inj : ∀ i j, i < M + 1 → j < M + 1 → (y i).1 = (y j).1 → i = j := fun i j _ _ e => by
        rcases Nat.lt_trichotomy i j with z | z | z
        · exact absurd ⟨i, j, z, e⟩ c
        · exact z
        · exact absurd ⟨j, i, z, e.symm⟩ c
      have := pigeon M (M + 1) (fun i => (y i).1) (fun i _ => hX _ (y i).2) inj
      omega
  obtain ⟨i, j, hij, e⟩ := rep
  obtain ⟨n, hn⟩ := hr _ (y i).2
  have q := path (j - i) i
  rw [show i + (j - i) = j by omega, ← e, show j - i = (j - i - 1) + 1 by omega] at q
  exact ⟨(y i).1, n, j - i - 1, hn, q⟩
theorem noRing_ok {R : Nat → Int} {g x : Int} {M st : Nat} {nx : Nat → Nat → Int} {S : SS} (hMM : M = (20 * R 1).toNat) (h1 : 1 ≤ R 1 ∧ R 1 ≤ 6) (h2 : 0 ≤ R 2 ∧ R 2 ≤ 8) (hnx : ∀ a s, nx a s < M) (hnn : ∀ a s, nx a s = -1 ∨ 0 ≤ nx a s) (hz : ∀ a s : Nat, R 2 ≤ (s : Int) → nx a s = -1) (hL : ∀ (S : SS) (a s : Nat), bthT R g M S → a < M → (s : Int) < R 2 → fX12_lawTo a s x S = some (nx a s)) (hst : ∀ S : SS, S 131 = R → fX12_standOf g S = some (st : Int)) (hs : st < M) (hT : bthT R g M S) : ∃ b S', fX12_noRing g x S = some (b, S') ∧ (b = true ↔ ¬ RingP nx st) := by
  have hM : M ≤ 120 := by omega
  obtain ⟨S1, a1, a2, a3⟩ := kr_0 (x := x) hst 120 FU 0 S (by omega) (by unfold FU; omega) hT.1
  have a1' : fX12_noRing_L2 g x FU 0 S = some S1 := a1
  have T1 : bthT R g M S1 := bthT_fr (w_fX12_noRing_L2 (by decide) _ _ _ _ a1) (w_fX12_noRing_L2 (by decide) _ _ _ _ a1) hT
  have I1 : RI nx st (S1 140) := by
    refine ⟨fun v hv => ?_, fun v hv e => ?_, ?_⟩
    · rw [a2 v hv, if_pos (by omega)]; split
      · exact Or.inl rfl
      · exact Or.inr rfl
    · rw [a2 v hv, if_pos (by omega)] at e
      by_cases c : v = st
      · exact ⟨0, c.symm⟩
      · rw [if_neg c] at e; exact absurd e (by decide)
    · rw [a2 st (by omega), if_pos (by omega), if_pos rfl]
  obtain ⟨S2, b1, b2, b3⟩ := kr_out hMM h1 h2 hnx hnn hL 120 FU S1 (UG_b _).2 (by unfold FU; omega) T1 I1
  have T2 : bthT R g M S2 := bthT_fr (w_fX12_noRing_L45 (by decide) _ _ _ _ b1) (w_fX12_noRing_L45 (by decide) _ _ _ _ b1) T1
  have e145 : S2 145 = S1 145 := w_fX12_noRing_L45 (by decide) _ _ _ _ b1
  obtain ⟨S3, c1, c2, c3⟩ := cn_out hMM h1 h2 hnx hnn hz hL M FU 0 S2 (by omega) (by unfold FU; omega) T2 (fun w hw => by rw [e145, a3 w hw, if_pos (by omega)]; rfl)
  have c1' : fX12_noRing_L145 x FU 0 S2 = some S3 := c1
  have T3 : bthT R g M S3 := bthT_fr (w_fX12_noRing_L145 (by decide) _ _ _ _ c1) (w_fX12_noRing_L145 (by decide) _ _ _ _ c1) T2
  have K3 : KI nx M (S2 140) (S3 140) (S3 145) (fun _ => 0) 0 := by
    rw [c2]
    exact ⟨b2.1, fun _ _ h => h, c3, fun v _ e0 e1 => absurd e0 e1⟩
  obtain ⟨S4, rk, K, d1, d2, d3⟩ := rm_out (G0 := S2 140) hMM h1 h2 hnx hnn hz hL 120 FU S3 (fun _ => 0) 0 (by have := (UG_b (S3 140)).1; omega) (by unfold FU; omega) T3 K3
  have R4 : S4 131 = R := (w_fX12_noRing_L223 (by decide) _ _ _ _ d1).trans T3.1
  obtain ⟨r, f1, f2⟩ := left_ok hMM h1 R4 M FU 0 (by omega) (by unfold FU; omega) (fun v hv => by omega)
  have f1' : fX12_noRing_L339 S4 FU 0 = some r := f1
  have reach : ∀ n v, rIn nx n st v → v < M ∧ S2 140 v = 0 := by
    intro n
    induction n with
    | zero => intro v hv; cases hv; exact ⟨hs, b2.2.2⟩
    | succ n ih =>
      intro v hv
      obtain ⟨c, s, hs8, hc, e⟩ := hv
      obtain ⟨p1, p2⟩ := ih c hc
      have := hnx c s
      by_cases y : R 2 ≤ (s : Int)
      · have := hz c s y
        omega
      · rcases b3 c p1 p2 s (by omega) (by omega) with z | ⟨w, z1, z2⟩
        · omega
        · have : v = w := by omega
          subst this
          exact ⟨by omega, z2⟩
  unfold fX12_noRing
  rw [a1', bnd_s, b1, bnd_s, c1', bnd_s, d1, bnd_s, f1', bnd_s]
  rcases f2 with ⟨rfl, v, hv, ev⟩ | ⟨rfl, hall⟩
  · rw [if_pos rfl]
    refine ⟨false, S4, rfl, fun h => absurd h (by decide), fun h => absurd ?_ h⟩
    refine back_ring (X := fun v => v < M ∧ S4 140 v = 0) (fun v h => h.1) (fun v h => ?_) (fun v h => b2.2.1 v (by omega) (d2.2.1 v (by omega) h.2)) ⟨hv, ev⟩
    have p := d3 v h.1 h.2
    rw [d2.2.2.1 v (by omega)] at p
    obtain ⟨a, s, q1, q2, q3, q4⟩ := (IC_pos M).mp p
    exact ⟨a, s, ⟨q1, q3⟩, q2, q4⟩
  · rw [if_neg (by decide)]
    refine ⟨true, S4, rfl, fun _ => ?_, fun _ => rfl⟩
    rintro ⟨v, n, m, p1, p2⟩
    obtain ⟨v1, v2⟩ := reach n v p1
    have upw : ∀ m w, rIn nx m v w → w < M ∧ S2 140 w = 0 ∧ rk v + m ≤ rk w := by
      intro m
      induction m with
      | zero => intro w h; cases h; exact ⟨v1, v2, by omega⟩
      | succ m ih =>
        intro w h
        obtain ⟨u, s, hs8, hc, e⟩ := h
        obtain ⟨q1, q2, q3⟩ := ih u hc
        obtain ⟨n', hn'⟩ : ∃ n', rIn nx n' st w := ⟨n + (m + 1), rIn_add p1 ⟨u, s, hs8, hc, e⟩⟩
        obtain ⟨w1, w2⟩ := reach n' w hn'
        have := ((d2.2.2.2 w w1 w2 (hall w w1)).2 u s q1 hs8 q2 e).2
        exact ⟨w1, w2, by omega⟩
    have := (upw (m + 1) v p2).2.2
    omega
