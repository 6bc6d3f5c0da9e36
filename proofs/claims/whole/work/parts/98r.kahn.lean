/-! rings: the reference takes away what nothing leads into -/
def RI (nx : Nat → Nat → Int) (st : Nat) (G : Nat → Int) : Prop := (∀ v, v < 120 → G v = 0 ∨ G v = 268435456) ∧ (∀ v, v < 120 → G v = 0 → ∃ n, rIn nx n st v) ∧ G st = 0
def UG (G : Nat → Int) : Int := ysum (fun v => if G v = 0 then 0 else 1) 120
theorem UG_b (G : Nat → Int) : 0 ≤ UG G ∧ UG G ≤ 120 := by
  have a : ∀ k, (0 : Int) ≤ (if G k = 0 then 0 else 1) ∧ (if G k = 0 then (0 : Int) else 1) ≤ 1 := fun k => by split <;> decide
  have e : ysum (fun _ => (1 : Int)) 120 = 120 := by decide +kernel
  have := ysum_le (h := fun _ => 1) 120 (fun k _ => (a k).2)
  exact ⟨ysum_nn 120 (fun k => (a k).1), by rw [e] at this; exact this⟩
theorem UG_dn {G : Nat → Int} {w : Nat} (hw : w < 120) (h : G w ≠ 0) : UG (pt G w 0) + 1 = UG G := by
  unfold UG
  rw [sum_upd (f := fun v => if G v = 0 then (0 : Int) else 1) (f' := fun v => if pt G w 0 v = 0 then (0 : Int) else 1) hw (fun k hk => by show (if pt G w 0 k = 0 then _ else _) = _; rw [pt_o hk])]
  show _ + ((if pt G w 0 w = 0 then (0 : Int) else 1) - (if G w = 0 then 0 else 1)) + 1 = _
  rw [pt_h, if_pos rfl, if_neg h]
  omega
theorem UG_up {G : Nat → Int} {w : Nat} {c : Int} (hw : w < 120) (h : G w = 0) (hc : c ≠ 0) : UG (pt G w c) = UG G + 1 := by
  unfold UG
  rw [sum_upd (f := fun v => if G v = 0 then (0 : Int) else 1) (f' := fun v => if pt G w c v = 0 then (0 : Int) else 1) hw (fun k hk => by show (if pt G w c k = 0 then _ else _) = _; rw [pt_o hk])]
  show _ + ((if pt G w c w = 0 then (0 : Int) else 1) - (if G w = 0 then 0 else 1)) = _
  rw [pt_h, if_neg hc, if_pos h]
  omega
def edg (nx : Nat → Nat → Int) (G : Nat → Int) (q : Int) (a k : Nat) : Prop := ∀ s, k ≤ s → (s : Int) < q → nx a s = -1 ∨ ∃ w : Nat, nx a s = w ∧ G w = 0
theorem kr_in {R : Nat → Int} {g x : Int} {M st a : Nat} {nx : Nat → Nat → Int} (hM : M ≤ 120) (h2 : 0 ≤ R 2 ∧ R 2 ≤ 8) (hnx : ∀ a s, nx a s < M) (hnn : ∀ a s, nx a s = -1 ∨ 0 ≤ nx a s) (ha : a < M) (hL : ∀ (S : SS) (a s : Nat), bthT R g M S → a < M → (s : Int) < R 2 → fX12_lawTo a s x S = some (nx a s)) : ∀ (m n k : Nat) (S : SS) (fl : Int), m + k = (R 2).toNat → m < n → bthT R g M S → RI nx st (S 140) → (fl = 0 ∨ fl = 1) →
    ∃ (fl' : Int) (S' : SS), fX12_noRing_L66 x a n fl k S = some (fl', S') ∧ RI nx st (S' 140) ∧ (fl' = 0 ∨ fl' = 1) ∧ UG (S' 140) ≤ UG (S 140) ∧ (fl' = 0 → fl = 0 ∧ S' 140 = S 140 ∧ (S 140 a = 0 → edg nx (S 140) (R 2) a k)) ∧ (fl' = 1 → fl = 1 ∨ UG (S' 140) < UG (S 140)) := by
  intro m
  induction m with
  | zero =>
    intro n k S fl hk hn hT hI hf
    obtain ⟨n, rfl⟩ := suc_of hn
    unfold fX12_noRing_L66
    rw [rdA_ok (by decide) (by decide), show S 131 (2 : Int).toNat = R 2 by rw [hT.1]; rfl, if_pos (by omega)]
    exact ⟨fl, S, rfl, hI, hf, Int.le_refl _, fun z => ⟨z, rfl, fun _ s h h' => by omega⟩, fun z => Or.inl z⟩
  | succ m ih =>
    intro n k S fl hk hn hT hI hf
    obtain ⟨n, rfl⟩ := suc_of hn
    obtain ⟨r, hr⟩ : ∃ r, r = fX12_noRing_L66 x a (n + 1) fl k S := ⟨_, rfl⟩
    rw [← hr]
    unfold fX12_noRing_L66 at hr
    rw [rdA_ok (by decide) (by decide), show S 131 (2 : Int).toNat = R 2 by rw [hT.1]; rfl, if_neg (by omega), rdA_ok (by omega) (by omega), Int.toNat_natCast] at hr
    by_cases c : S 140 a = 0
    · rw [if_pos c, hL S a k hT ha (by omega), bnd_s] at hr
      have go : ∀ S1 fl1, bthT R g M S1 → RI nx st (S1 140) → (fl1 = 0 ∨ fl1 = 1) → r = fX12_noRing_L66 x a n fl1 ((k + 1 : Nat) : Int) S1 → UG (S1 140) ≤ UG (S 140) → (fl1 = 0 → fl = 0 ∧ S1 140 = S 140 ∧ (nx a k = -1 ∨ ∃ w : Nat, nx a k = w ∧ S 140 w = 0)) → (fl1 = 1 → fl = 1 ∨ UG (S1 140) < UG (S 140)) →
          ∃ (fl' : Int) (S' : SS), r = some (fl', S') ∧ RI nx st (S' 140) ∧ (fl' = 0 ∨ fl' = 1) ∧ UG (S' 140) ≤ UG (S 140) ∧ (fl' = 0 → fl = 0 ∧ S' 140 = S 140 ∧ (S 140 a = 0 → edg nx (S 140) (R 2) a k)) ∧ (fl' = 1 → fl = 1 ∨ UG (S' 140) < UG (S 140)) := by
        intro S1 fl1 t1 i1 f1 e1 u1 z1 o1
        obtain ⟨fl', S', x1, x2, x3, x4, x5, x6⟩ := ih n (k + 1) S1 fl1 (by omega) (by omega) t1 i1 f1
        refine ⟨fl', S', by rw [e1]; exact x1, x2, x3, Int.le_trans x4 u1, fun z => ?_, fun z => ?_⟩
        · obtain ⟨y1, y2, y3⟩ := x5 z
          obtain ⟨w1, w2, w3⟩ := z1 y1
          rw [w2] at y2 y3
          refine ⟨w1, y2, fun h s hs hs' => ?_⟩
          by_cases d : s = k
          · subst d; exact w3
          · exact y3 h s (by omega) hs'
        · rcases x6 z with y | y
          · rcases o1 y with y' | y'
            · exact Or.inl y'
            · exact Or.inr (Int.lt_of_le_of_lt x4 y')
          · exact Or.inr (Int.lt_of_lt_of_le y u1)
      by_cases e : nx a k = -1
      · rw [if_pos e, bnd_s, lt_ok, w32_k (by omega)] at hr
        exact go S fl hT hI hf hr (Int.le_refl _) (fun z => ⟨z, rfl, Or.inl e⟩) (fun z => Or.inl z)
      · have hw0 : 0 ≤ nx a k := by
          rcases hnn a k with y | y
          · exact absurd y e
          · exact y
        have hw1 := hnx a k
        obtain ⟨w, hw⟩ : ∃ w : Nat, nx a k = w := ⟨(nx a k).toNat, by omega⟩
        rw [if_neg e, hw, rdA_ok (by omega) (by omega), Int.toNat_natCast] at hr
        by_cases d : S 140 w = 0
        · rw [if_pos d, bnd_s, lt_ok, w32_k (by omega)] at hr
          exact go S fl hT hI hf hr (Int.le_refl _) (fun z => ⟨z, rfl, Or.inr ⟨w, hw, d⟩⟩) (fun z => Or.inl z)
        · rw [if_neg d, wrA_ok (by omega) (by omega), Int.toNat_natCast, bnd_s, lt_ok, w32_k (by omega)] at hr
          have hu := UG_dn (G := S 140) (w := w) (by omega) d
          have e140 : up S 140 w 0 140 = pt (S 140) w 0 := up_pt
          have k8 : k < 8 := by omega
          refine go (up S 140 w 0) 1 (bthT_fr (up_row (by decide)) (up_row (by decide)) hT) ?_ (Or.inr rfl) hr (by rw [e140]; omega) (fun z => absurd z (by decide)) (fun _ => Or.inr (by rw [e140]; omega))
          rw [e140]
          refine ⟨fun v hv => ?_, fun v hv hz => ?_, ?_⟩
          · by_cases y : v = w
            · rw [y, pt_h]; exact Or.inl rfl
            · rw [pt_o y]; exact hI.1 v hv
          · by_cases y : v = w
            · obtain ⟨p, hp⟩ := hI.2.1 a (by omega) c
              rw [y]
              exact ⟨p + 1, a, k, k8, hp, hw⟩
            · rw [pt_o y] at hz; exact hI.2.1 v hv hz
          · by_cases y : st = w
            · rw [y, pt_h]
            · rw [pt_o y]; exact hI.2.2
    · rw [if_neg c] at hr
      exact ⟨fl, S, hr, hI, hf, Int.le_refl _, fun z => ⟨z, rfl, fun h => absurd h c⟩, fun z => Or.inl z⟩
theorem kr_mid {R : Nat → Int} {g x : Int} {M st : Nat} {nx : Nat → Nat → Int} (hMM : M = (20 * R 1).toNat) (h1 : 1 ≤ R 1 ∧ R 1 ≤ 6) (h2 : 0 ≤ R 2 ∧ R 2 ≤ 8) (hnx : ∀ a s, nx a s < M) (hnn : ∀ a s, nx a s = -1 ∨ 0 ≤ nx a s) (hL : ∀ (S : SS) (a s : Nat), bthT R g M S → a < M → (s : Int) < R 2 → fX12_lawTo a s x S = some (nx a s)) : ∀ (m n a : Nat) (S : SS) (fl : Int), m + a = M → m < n → bthT R g M S → RI nx st (S 140) → (fl = 0 ∨ fl = 1) →
    ∃ (fl' : Int) (S' : SS), fX12_noRing_L54 x n fl a S = some (fl', S') ∧ RI nx st (S' 140) ∧ (fl' = 0 ∨ fl' = 1) ∧ UG (S' 140) ≤ UG (S 140) ∧ (fl' = 0 → fl = 0 ∧ S' 140 = S 140 ∧ ∀ b, a ≤ b → b < M → S 140 b = 0 → edg nx (S 140) (R 2) b 0) ∧ (fl' = 1 → fl = 1 ∨ UG (S' 140) < UG (S 140)) := by
  intro m
  induction m with
  | zero =>
    intro n a S fl hk hn hT hI hf
    obtain ⟨n, rfl⟩ := suc_of hn
    unfold fX12_noRing_L54
    rw [stands_ok (by rw [hT.1]; exact h1.1) (by rw [hT.1]; exact h1.2), hT.1, bnd_s, if_pos (by omega)]
    exact ⟨fl, S, rfl, hI, hf, Int.le_refl _, fun z => ⟨z, rfl, fun b h h' => by omega⟩, fun z => Or.inl z⟩
  | succ m ih =>
    intro n a S fl hk hn hT hI hf
    obtain ⟨n, rfl⟩ := suc_of hn
    obtain ⟨fl1, S1, x1, x2, x3, x4, x5, x6⟩ := kr_in (st := st) (by omega) h2 hnx hnn (show a < M by omega) hL (R 2).toNat FU 0 S fl (by omega) (by unfold FU; omega) hT hI hf
    have x1' : fX12_noRing_L66 x a FU fl 0 S = some (fl1, S1) := x1
    have T1 : bthT R g M S1 := bthT_fr (w_fX12_noRing_L66 (by decide) _ _ _ _ _ x1) (w_fX12_noRing_L66 (by decide) _ _ _ _ _ x1) hT
    obtain ⟨fl2, S2, y1, y2, y3, y4, y5, y6⟩ := ih n (a + 1) S1 fl1 (by omega) (by omega) T1 x2 x3
    unfold fX12_noRing_L54
    rw [stands_ok (by rw [hT.1]; exact h1.1) (by rw [hT.1]; exact h1.2), hT.1, bnd_s, if_neg (by omega), x1', bnd_s, lt_ok, w32_k (by omega)]
    refine ⟨fl2, S2, y1, y2, y3, Int.le_trans y4 x4, fun z => ?_, fun z => ?_⟩
    · obtain ⟨p1, p2, p3⟩ := y5 z
      obtain ⟨q1, q2, q3⟩ := x5 p1
      rw [q2] at p2 p3
      refine ⟨q1, p2, fun b h h' hz => ?_⟩
      by_cases c : b = a
      · subst c; exact q3 hz
      · exact p3 b (by omega) h' hz
    · rcases y6 z with p | p
      · rcases x6 p with q | q
        · exact Or.inl q
        · exact Or.inr (Int.lt_of_le_of_lt y4 q)
      · exact Or.inr (Int.lt_of_lt_of_le p x4)
theorem kr_out {R : Nat → Int} {g x : Int} {M st : Nat} {nx : Nat → Nat → Int} (hMM : M = (20 * R 1).toNat) (h1 : 1 ≤ R 1 ∧ R 1 ≤ 6) (h2 : 0 ≤ R 2 ∧ R 2 ≤ 8) (hnx : ∀ a s, nx a s < M) (hnn : ∀ a s, nx a s = -1 ∨ 0 ≤ nx a s) (hL : ∀ (S : SS) (a s : Nat), bthT R g M S → a < M → (s : Int) < R 2 → fX12_lawTo a s x S = some (nx a s)) : ∀ (u n : Nat) (S : SS), UG (S 140) ≤ u → u + 1 < n → bthT R g M S → RI nx st (S 140) →
    ∃ S', fX12_noRing_L45 x n 1 S = some S' ∧ RI nx st (S' 140) ∧ ∀ b, b < M → S' 140 b = 0 → edg nx (S' 140) (R 2) b 0 := by
  intro u
  have one : ∀ (n : Nat) (S : SS), bthT R g M S → RI nx st (S 140) → ∃ (fl' : Int) (S' : SS), fX12_noRing_L45 x (n + 1) 1 S = fX12_noRing_L45 x n fl' S' ∧ bthT R g M S' ∧ RI nx st (S' 140) ∧ ((fl' = 0 ∧ ∀ b, b < M → S' 140 b = 0 → edg nx (S' 140) (R 2) b 0) ∨ (fl' = 1 ∧ UG (S' 140) < UG (S 140))) := by
    intro n S hT hI
    obtain ⟨fl1, S1, x1, x2, x3, x4, x5, x6⟩ := kr_mid (st := st) hMM h1 h2 hnx hnn hL M FU 0 S 0 (by omega) (by unfold FU; omega) hT hI (Or.inl rfl)
    have x1' : fX12_noRing_L54 x FU 0 0 S = some (fl1, S1) := x1
    refine ⟨fl1, S1, ?_, bthT_fr (w_fX12_noRing_L54 (by decide) _ _ _ _ _ x1) (w_fX12_noRing_L54 (by decide) _ _ _ _ _ x1) hT, x2, ?_⟩
    · conv => lhs; unfold fX12_noRing_L45
      rw [if_neg (by decide), x1', bnd_s]
    · rcases x3 with z | z
      · obtain ⟨_, p2, p3⟩ := x5 z
        refine Or.inl ⟨z, fun b hb hz => ?_⟩
        rw [p2] at hz ⊢
        exact p3 b (by omega) hb hz
      · refine Or.inr ⟨z, ?_⟩
        rcases x6 z with y | y
        · exact absurd y (by decide)
        · exact y
  induction u with
  | zero =>
    intro n S hu hn hT hI
    obtain ⟨n, rfl⟩ : ∃ f, n = f + 2 := ⟨n - 2, by omega⟩
    obtain ⟨fl1, S1, x1, x2, x3, x4⟩ := one (n + 1) S hT hI
    rcases x4 with ⟨rfl, z⟩ | ⟨_, z⟩
    · refine ⟨S1, ?_, x3, z⟩
      rw [x1]
      unfold fX12_noRing_L45
      rw [if_pos rfl]
    · have := (UG_b (S1 140)).1
      omega
  | succ u ih =>
    intro n S hu hn hT hI
    obtain ⟨n, rfl⟩ : ∃ f, n = f + 2 := ⟨n - 2, by omega⟩
    obtain ⟨fl1, S1, x1, x2, x3, x4⟩ := one (n + 1) S hT hI
    rcases x4 with ⟨rfl, z⟩ | ⟨rfl, z⟩
    · refine ⟨S1, ?_, x3, z⟩
      rw [x1]
      unfold fX12_noRing_L45
      rw [if_pos rfl]
    · obtain ⟨S', y1, y2, y3⟩ := ih (n + 1) S1 (by omega) (by omega) x2 x3
      exact ⟨S', by rw [x1]; exact y1, y2, y3⟩
