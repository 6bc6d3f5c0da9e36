theorem lawB_z {Q Q' : Nat → Int} {l : Nat} {b : Bool} (hl : l < 2) (z : ∀ k, (4 ≤ k ∧ k < 10) ∨ 200 ≤ k → Q' k = Q k) (h : lawB Q l b) : lawB Q' l b := by
  unfold lawB codeP at h ⊢
  rw [z (4 + l) (by omega), z (6 + l) (by omega), z (8 + l) (by omega), z 200 (by omega)]
  rcases h with h | ⟨h1, h2, h3, h4, ty, h5, h6⟩
  · exact Or.inl h
  · exact Or.inr ⟨h1, h2, h3, h4, ty, by rw [← h5]; congr 1; funext k; exact z _ (by omega), h6⟩
theorem lawS_z {SC SC' : SS} {Q Q' : Nat → Int} (z : ∀ k, 4 ≤ k → k < 10 → Q' k = Q k) (f : ∀ j, 10 ≤ j → SC' 21 j = SC 21 j) (h : lawS SC Q) : lawS SC' Q' := by
  unfold lawS at h ⊢
  rw [z 4 (by omega) (by omega), z 5 (by omega) (by omega), z 6 (by omega) (by omega), z 7 (by omega) (by omega), z 8 (by omega) (by omega), z 9 (by omega) (by omega), f 10 (by omega), f 11 (by omega), f 12 (by omega), f 13 (by omega)]
  exact h
theorem dr_years {SC SC' : SS} {Q Q' : Nat → Int} {p v : Int} {l : Nat} (hl : l < 8) (h2 : Q 2 = l) (hv : -9 ≤ v ∧ v ≤ 9) (z : ∀ k, k ≠ 26 + l → Q' k = Q k) (zv : Q' (26 + l) = v) (f : ∀ a, a ≠ 24 → SC' a = SC a) (g : ∀ j, j ≠ l → SC' 24 j = SC 24 j) (gv : SC' 24 l = v) (h : DrQ 1 SC Q p) : DrQ 1 SC' Q' p := by
  obtain ⟨a, b, c, d, ⟨e1, e2⟩, gg, i, j⟩ := h
  refine ⟨?_, ?_, fun s hs => ?_, fun s h8 hs => ?_, ⟨⟨fun x hx => ?_, fun x hx => ?_, fun x hx => ?_, ?_⟩, ⟨fun x hx => ?_, fun x hx => ?_, fun x hx => ?_, ?_⟩⟩, lawS_z (fun k h0 h1 => z k (by omega)) (fun j _ => by rw [f 21 (by decide)]) gg, ⟨lawB_z (by omega) (fun k hk => z k (by omega)) i.1, lawB_z (by omega) (fun k hk => z k (by omega)) i.2⟩, by rw [z 49 (by omega)]; exact j⟩
  · rw [f 21 (by decide), z 0 (by omega), z 1 (by omega), z 2 (by omega), z 3 (by omega)]; exact a
  · rw [z 0 (by omega), z 1 (by omega), z 2 (by omega), z 3 (by omega)]; exact b
  · rw [z 2 (by omega)] at hs
    obtain ⟨⟨c1, c2, c3⟩, c4, c5, c6, c7⟩ := c s hs
    unfold strE strB
    rw [f 22 (by decide), f 23 (by decide), z (10 + s) (by omega), z (18 + s) (by omega), z 1 (by omega)]
    by_cases e : s = l
    · subst e
      rw [zv, gv]
      exact ⟨⟨c1, c2, rfl⟩, c4, c5, c6, hv⟩
    · rw [z (26 + s) (by omega), g s e]
      exact ⟨⟨c1, c2, c3⟩, c4, c5, c6, c7⟩
  · rw [z 2 (by omega)] at hs
    rw [z (26 + s) (by omega), z (40 + s) (by omega)]; exact d s h8 hs
  · rw [z _ (by omega), f _ (by omega)]; exact e1.1 x hx
  · rw [z _ (by omega), f _ (by omega)]; exact e1.2.1 x hx
  · rw [z _ (by omega), f _ (by omega)]; exact e1.2.2.1 x hx
  · rw [z _ (by omega), f _ (by omega)]; exact e1.2.2.2
  · rw [z _ (by omega), z 1 (by omega)]; exact e2.1 x hx
  · rw [z _ (by omega)]; exact e2.2.1 x hx
  · rw [z _ (by omega)]; exact e2.2.2.1 x hx
  · rw [z _ (by omega)]; exact e2.2.2.2
theorem dr_sign {SC SC' : SS} {Q Q' : Nat → Int} {p v : Int} {l : Nat} (hl : l < 8) (h2 : Q 2 = l) (hv : 0 ≤ v ∧ v ≤ 3) (z : ∀ k, k ≠ 40 + l → Q' k = Q k) (zv : Q' (40 + l) = v) (f : ∀ a, a ≠ 27 → SC' a = SC a) (g : ∀ j, j ≠ l → SC' 27 j = SC 27 j) (gv : SC' 27 l = v) (h : DrQ 1 SC Q p) : DrQ 1 SC' Q' p := by
  obtain ⟨a, b, c, d, ⟨e1, e2⟩, gg, i, j⟩ := h
  refine ⟨?_, ?_, fun s hs => ?_, fun s h8 hs => ?_, ⟨⟨fun x hx => ?_, fun x hx => ?_, fun x hx => ?_, ?_⟩, ⟨fun x hx => ?_, fun x hx => ?_, fun x hx => ?_, ?_⟩⟩, lawS_z (fun k h0 h1 => z k (by omega)) (fun j _ => by rw [f 21 (by decide)]) gg, ⟨lawB_z (by omega) (fun k hk => z k (by omega)) i.1, lawB_z (by omega) (fun k hk => z k (by omega)) i.2⟩, by rw [z 49 (by omega)]; exact j⟩
  · rw [f 21 (by decide), z 0 (by omega), z 1 (by omega), z 2 (by omega), z 3 (by omega)]; exact a
  · rw [z 0 (by omega), z 1 (by omega), z 2 (by omega), z 3 (by omega)]; exact b
  · rw [z 2 (by omega)] at hs
    have h8 : s < 8 := by have := b.2.1.2; omega
    unfold strE strB
    rw [f 22 (by decide), f 23 (by decide), f 24 (by decide), z (10 + s) (by omega), z (18 + s) (by omega), z (26 + s) (by omega), z 1 (by omega)]
    exact c s hs
  · rw [z 2 (by omega)] at hs
    rw [z (26 + s) (by omega), z (40 + s) (by omega)]; exact d s h8 hs
  · rw [z _ (by omega), f _ (by omega)]; exact e1.1 x hx
  · rw [z _ (by omega), f _ (by omega)]; exact e1.2.1 x hx
  · by_cases e : x = l
    · subst e
      show SC' 27 x = Q' (40 + x)
      rw [zv, gv]
    · rw [z _ (by omega), g x e]; exact e1.2.2.1 x hx
  · rw [z _ (by omega), f _ (by omega)]; exact e1.2.2.2
  · rw [z _ (by omega), z 1 (by omega)]; exact e2.1 x hx
  · rw [z _ (by omega)]; exact e2.2.1 x hx
  · by_cases e : x = l
    · subst e
      show 0 ≤ Q' (40 + x) ∧ Q' (40 + x) ≤ 3
      rw [zv]; exact hv
    · rw [z _ (by omega)]; exact e2.2.2.1 x hx
  · rw [z _ (by omega)]; exact e2.2.2.2
theorem setY_ok {S : SS} {l : Nat} {v : Int} (hl : l < 8) (h : S 21 6 = ((l + 1 : Nat) : Int)) : fX8_setYears 21 v S = some (up S 24 l v) := by
  unfold fX8_setYears
  rw [h, if_neg (by omega), if_neg (by omega), show w32 (((l + 1 : Nat) : Int) - 1) = (l : Int) by rw [w32_eq (by omega) (by omega)]; omega, wrA_ok (by omega) (by omega), Int.toNat_natCast]
theorem setS_ok {S : SS} {l : Nat} {v : Int} (hl : l < 8) : fX6_setSign 26 l v S = some (up S 27 l v) := by
  unfold fX6_setSign
  rw [if_neg (by omega), if_neg (by omega), wrA_ok (by omega) (by omega), Int.toNat_natCast]
theorem part_j {T U : Nat → Int} {n l : Nat} {SC SM : SS} (ht : tp T U n) (hl : l < 8) (hJ : JX T U n 1 SC SM) (h6 : SC 21 6 = ((l + 1 : Nat) : Int)) (o : Ok SM) (hk : SM 130 9 = 2 ∨ SM 130 9 = 3 ∨ SM 130 9 = 4) (hD : DrQ 1 SC (SM 134) (SM 130 6)) (h2 : SM 134 2 = l) :
    ∃ SC' SM', fX3_part SC = some SC' ∧ fX12_readPart l SM = some (if SM' 130 11 = 0 then true else false, SM') ∧ JX T U n 1 SC' SM' ∧ FM SM SM' ∧ SC' 21 6 = ((l + 1 : Nat) : Int) ∧ (Ok SM' → SM 130 6 < SM' 130 6 ∧ DrQ 1 SC' (SM' 134) (SM' 130 6) ∧ SM' 134 2 = l) := by
  obtain ⟨SC1, SM1, x1, x2, x3, x4, x5, x6, x7⟩ := adv_j ht hJ o (by omega)
  have g6 : SC1 21 6 = ((l + 1 : Nat) : Int) := (x4.2.2.1 6 (by decide)).trans h6
  obtain ⟨a, ha⟩ : ∃ a, a = fX3_part SC := ⟨_, rfl⟩
  obtain ⟨b, hb⟩ : ∃ b, b = fX12_readPart l SM := ⟨_, rfl⟩
  rw [← ha, ← hb]
  unfold fX3_part at ha
  unfold fX12_readPart at hb
  rw [lt_ok, x1, bnd_s] at ha
  have years : ∀ (v v' : Int) (SC2 SM2 : SS), JX T U n 2 SC2 SM2 → FX SC SM SC2 SM2 → SM2 134 = SM 134 → ∀ f : Int → Int, (Ok SM2 → v = v' ∧ (-9 ≤ f v ∧ f v ≤ 9) ∧ SM 130 6 < SM2 130 6) →
      JX T U n 1 (up SC2 24 l (f v)) (up SM2 134 (26 + l) (f v')) ∧ FM SM (up SM2 134 (26 + l) (f v')) ∧ up SC2 24 l (f v) 21 6 = ((l + 1 : Nat) : Int) ∧ (Ok (up SM2 134 (26 + l) (f v')) → SM 130 6 < up SM2 134 (26 + l) (f v') 130 6 ∧ DrQ 1 (up SC2 24 l (f v)) (up SM2 134 (26 + l) (f v') 134) (up SM2 134 (26 + l) (f v') 130 6) ∧ up SM2 134 (26 + l) (f v') 134 2 = l) := by
    intro v v' SC2 SM2 j2 f2 e2 f hv
    refine ⟨JX_w (by omega) (JX_c (by omega) (JX_m (by omega) j2)), FM_t (FM_f f2) (FM_m (up_row (by decide))), by rw [up_row (by decide), f2.2.2.1 6 (by decide)]; exact h6, fun o2 => ?_⟩
    obtain ⟨p1, p2, p3⟩ := hv (Ok_m.mp o2)
    have D := DrQ_f f2 e2 (by omega) hD
    rw [up_row (a := 130) (by decide)]
    refine ⟨p3, dr_years hl (by rw [e2]; exact h2) p2 (fun k hk => up_k hk) (by rw [up_self, p1]) (fun a ha => up_row ha) (fun j hj => up_k hj) up_self D, ?_⟩
    rw [up_k (by omega), e2]; exact h2
  by_cases k2 : SM 130 9 = 2
  · have tk := (JX_tok pr_2 hJ).mpr ⟨o.1, k2⟩
    obtain ⟨v, v', SC2, SM2, y1, y2, y3, y4, y5, y6⟩ := tk_j (lo := 0) (hi := 9) ht (by omega) x3
    have f2 := FX_t x4 y4
    rw [if_neg (by omega), y1, bnd_s] at ha
    simp only at ha
    rw [if_neg (by omega), bnd_s, setY_ok hl ((y4.2.2.1 6 (by decide)).trans g6), bnd_s] at ha
    rw [eats_y ⟨o.1, k2⟩ x2, bnd_s] at hb
    simp only [if_true] at hb
    rw [y2, bnd_s] at hb
    simp only at hb
    rw [show w32 (26 + (l : Int)) = ((26 + l : Nat) : Int) by rw [w32_eq (by omega) (by omega)]; omega, wrA_ok (by omega) (by omega), Int.toNat_natCast] at hb
    obtain ⟨r1, r2, r3, r4⟩ := years v v' SC2 SM2 y3 f2 (y5.trans x5) id (fun o2 => by
      obtain ⟨_, p1, p2, p3, p4⟩ := y6 o2
      exact ⟨p1, ⟨by show -9 ≤ v; omega, by show v ≤ 9; omega⟩, by omega⟩)
    refine ⟨_, _, ha, ?_, r1, r2, r3, r4⟩
    rw [hb]
    show (if _ then _ else _) = some (if up SM2 134 (26 + l) v' 130 11 = 0 then true else false, _)
    by_cases w : up SM2 134 (26 + l) v' 130 11 = 0
    · rw [if_pos w, if_pos w]; rfl
    · rw [if_neg w, if_neg w]; rfl
  by_cases k3 : SM 130 9 = 3
  · have tk := (JX_tok pr_3 hJ).mpr ⟨o.1, k3⟩
    obtain ⟨v, v', SC2, SM2, y1, y2, y3, y4, y5, y6⟩ := tk_j (lo := 0) (hi := 9) ht (by omega) x3
    have f2 := FX_t x4 y4
    rw [if_neg (by omega), y1, bnd_s] at ha
    simp only at ha
    rw [if_pos tk, bnd_s, setY_ok hl ((y4.2.2.1 6 (by decide)).trans g6), bnd_s] at ha
    rw [eats_n (by omega), bnd_s] at hb
    simp only [Bool.false_eq_true, if_false] at hb
    rw [eats_y ⟨o.1, k3⟩ x2, bnd_s] at hb
    simp only [if_true] at hb
    rw [y2, bnd_s] at hb
    simp only at hb
    rw [show w32 (26 + (l : Int)) = ((26 + l : Nat) : Int) by rw [w32_eq (by omega) (by omega)]; omega, wrA_ok (by omega) (by omega), Int.toNat_natCast] at hb
    obtain ⟨r1, r2, r3, r4⟩ := years v v' SC2 SM2 y3 f2 (y5.trans x5) (fun x => w32 (-x)) (fun o2 => by
      obtain ⟨_, p1, p2, p3, p4⟩ := y6 o2
      refine ⟨p1, ?_, by omega⟩
      show -9 ≤ w32 (-v) ∧ w32 (-v) ≤ 9
      rw [w32_eq (by omega) (by omega)]
      omega)
    refine ⟨_, _, ha, ?_, r1, r2, r3, r4⟩
    rw [hb]
    by_cases w : up SM2 134 (26 + l) (w32 (-v')) 130 11 = 0
    · rw [if_pos w, if_pos w]
    · rw [if_neg w, if_neg w]
  · have k4 : SM 130 9 = 4 := by omega
    have tk := (JX_tok pr_4 hJ).mpr ⟨o.1, k4⟩
    obtain ⟨v, v', SC2, SM2, y1, y2, y3, y4, y5, y6⟩ := tk_j (lo := 0) (hi := 3) ht (by omega) x3
    have f2 := FX_t x4 y4
    rw [if_pos tk, y1, bnd_s] at ha
    simp only at ha
    rw [g6, show w32 (((l + 1 : Nat) : Int) - 1) = (l : Int) by rw [w32_eq (by omega) (by omega)]; omega, setS_ok hl, bnd_s] at ha
    rw [eats_n (by omega), bnd_s] at hb
    simp only [Bool.false_eq_true, if_false] at hb
    rw [eats_n (by omega), bnd_s] at hb
    simp only [Bool.false_eq_true, if_false] at hb
    rw [eats_y ⟨o.1, k4⟩ x2, bnd_s] at hb
    simp only [if_true] at hb
    rw [y2, bnd_s] at hb
    simp only at hb
    rw [show w32 (40 + (l : Int)) = ((40 + l : Nat) : Int) by rw [w32_eq (by omega) (by omega)]; omega, wrA_ok (by omega) (by omega), Int.toNat_natCast] at hb
    refine ⟨_, up SM2 134 (40 + l) v', ha, ?_, JX_w (by omega) (JX_c (by omega) (JX_m (by omega) y3)), FM_t (FM_f f2) (FM_m (up_row (by decide))), by rw [up_row (by decide), f2.2.2.1 6 (by decide)]; exact h6, fun o2 => ?_⟩
    · rw [hb]
      by_cases w : up SM2 134 (40 + l) v' 130 11 = 0
      · rw [if_pos w, if_pos w]
      · rw [if_neg w, if_neg w]
    · obtain ⟨o1, p1, p2, p3, p4⟩ := y6 (Ok_m.mp o2)
      have D := DrQ_f f2 (y5.trans x5) (by omega) hD
      rw [up_row (a := 130) (by decide)]
      refine ⟨by omega, dr_sign hl (by rw [y5, x5]; exact h2) (by omega) (fun k hk => up_k hk) (by rw [up_self, p1]) (fun a ha => up_row ha) (fun j hj => up_k hj) up_self D, ?_⟩
      rw [up_k (by omega), y5, x5]; exact h2
theorem isPart_ok {S : SS} : fX3_isPart S = some (decide (S 19 5 = 1007 ∨ S 19 5 = 1008 ∨ S 19 5 = 1009)) := by
  unfold fX3_isPart
  by_cases a : S 19 5 = 1007
  · rw [if_pos a, decide_eq_true (Or.inl a)]
  rw [if_neg a]
  by_cases b : S 19 5 = 1008
  · rw [if_pos b, decide_eq_true (Or.inr (Or.inl b))]
  rw [if_neg b]
  by_cases c : S 19 5 = 1009
  · rw [if_pos c, decide_eq_true (Or.inr (Or.inr c))]
  rw [if_neg c, decide_eq_false (by omega)]
theorem part_loop {T U : Nat → Int} {n l : Nat} (ht : tp T U n) (hl : l < 8) : ∀ (m fc fm i : Nat) (SC SM : SS), JX T U n 1 SC SM → SC 21 6 = ((l + 1 : Nat) : Int) → (Ok SM → (n : Int) ≤ SM 130 6 + m ∧ DrQ 1 SC (SM 134) (SM 130 6) ∧ SM 134 2 = l) → m < fc → m < fm → i + m ≤ 900 →
    ∃ SC' SM', fX3_streetLine_L65 fc i SC = some SC' ∧ fX12_readStreet_L104 l fm SM = some SM' ∧ JX T U n 1 SC' SM' ∧ FM SM SM' ∧ SC' 21 6 = ((l + 1 : Nat) : Int) ∧ (Ok SM' → Ok SM ∧ SM 130 6 ≤ SM' 130 6 ∧ DrQ 1 SC' (SM' 134) (SM' 130 6) ∧ SM' 134 2 = l) := by
  have hn := ht.1
  intro m
  have stop : ∀ (fc fm i : Nat) (SC SM : SS), JX T U n 1 SC SM → ¬ (SM 130 11 = 0 ∧ (SM 130 9 = 2 ∨ SM 130 9 = 3 ∨ SM 130 9 = 4)) → fX3_streetLine_L65 (fc + 1) i SC = some SC ∧ fX12_readStreet_L104 l (fm + 1) SM = some SM := by
    intro fc fm i SC SM hJ t
    have tc : ¬ (SC 19 5 = 1007 ∨ SC 19 5 = 1008 ∨ SC 19 5 = 1009) := by
      have q2 := (JX_tok pr_2 hJ)
      have q3 := (JX_tok pr_3 hJ)
      have q4 := (JX_tok pr_4 hJ)
      rintro (z | z | z)
      · exact t ⟨(q2.mp z).1, Or.inl (q2.mp z).2⟩
      · exact t ⟨(q3.mp z).1, Or.inr (Or.inl (q3.mp z).2)⟩
      · exact t ⟨(q4.mp z).1, Or.inr (Or.inr (q4.mp z).2)⟩
    unfold fX3_streetLine_L65 fX12_readStreet_L104
    rw [isPart_ok, bnd_s, if_neg (show ¬ decide (SC 19 5 = 1007 ∨ SC 19 5 = 1008 ∨ SC 19 5 = 1009) = true by rw [decide_eq_true_eq]; exact tc), ite_self]
    refine ⟨rfl, ?_⟩
    by_cases w : SM 130 11 = 0
    · unfold fX12_readPart
      rw [if_pos w, eats_n (fun z => t ⟨w, Or.inl z.2⟩), bnd_s]
      simp only [Bool.false_eq_true, if_false]
      rw [eats_n (fun z => t ⟨w, Or.inr (Or.inl z.2)⟩), bnd_s]
      simp only [Bool.false_eq_true, if_false]
      rw [eats_n (fun z => t ⟨w, Or.inr (Or.inr z.2)⟩), bnd_s]
      simp only [Bool.false_eq_true, if_false]
      rw [bnd_s]
      simp only [Bool.false_eq_true, if_false]
    · rw [if_neg w]
  induction m with
  | zero =>
    intro fc fm i SC SM hJ h6 hA hc hf hi
    obtain ⟨fc, rfl⟩ := suc_of hc
    obtain ⟨fm, rfl⟩ := suc_of hf
    have t : ¬ (SM 130 11 = 0 ∧ (SM 130 9 = 2 ∨ SM 130 9 = 3 ∨ SM 130 9 = 4)) := by
      intro t
      have o : Ok SM := ⟨t.1, by omega⟩
      have := at_lt (JX_O hJ o) (by omega)
      have := (hA o).1
      omega
    obtain ⟨s1, s2⟩ := stop fc fm i SC SM hJ t
    exact ⟨SC, SM, s1, s2, hJ, FM_m rfl, h6, fun o => ⟨o, Int.le_refl _, (hA o).2⟩⟩
  | succ m ih =>
    intro fc fm i SC SM hJ h6 hA hc hf hi
    obtain ⟨fc, rfl⟩ := suc_of hc
    obtain ⟨fm, rfl⟩ := suc_of hf
    by_cases t : SM 130 11 = 0 ∧ (SM 130 9 = 2 ∨ SM 130 9 = 3 ∨ SM 130 9 = 4)
    · have o : Ok SM := ⟨t.1, by omega⟩
      obtain ⟨p1, p2, p3⟩ := hA o
      obtain ⟨SC1, SM1, x1, x2, x3, x4, x5, x6⟩ := part_j ht hl hJ h6 o t.2 p2 p3
      obtain ⟨SC2, SM2, y1, y2, y3, y4, y5, y6⟩ := ih fc fm (i + 1) SC1 SM1 x3 x5 (fun o1 => by
        obtain ⟨r1, r2, r3⟩ := x6 o1
        exact ⟨by omega, r2, r3⟩) (by omega) (by omega) (by omega)
      have tc : SC 19 5 = 1007 ∨ SC 19 5 = 1008 ∨ SC 19 5 = 1009 := by
        rcases t.2 with z | z | z
        · exact Or.inl ((JX_tok pr_2 hJ).mpr ⟨t.1, z⟩)
        · exact Or.inr (Or.inl ((JX_tok pr_3 hJ).mpr ⟨t.1, z⟩))
        · exact Or.inr (Or.inr ((JX_tok pr_4 hJ).mpr ⟨t.1, z⟩))
      refine ⟨SC2, SM2, ?_, ?_, y3, FM_t x4 y4, y5, fun o2 => ?_⟩
      · unfold fX3_streetLine_L65
        rw [if_neg (show ¬ (900 : Int) ≤ i by omega), isPart_ok, bnd_s, if_pos (decide_eq_true tc), x1, bnd_s, lt_ok, w32_k (by omega)]
        exact y1
      · unfold fX12_readStreet_L104
        rw [if_pos t.1, x2, bnd_s]
        simp only
        by_cases w : SM1 130 11 = 0
        · rw [if_pos w, if_pos rfl]; exact y2
        · rw [if_neg w, if_neg (by decide)]
          obtain ⟨fm, rfl⟩ : ∃ f, fm = f + 1 := ⟨fm - 1, by omega⟩
          unfold fX12_readStreet_L104 at y2
          rw [if_neg w] at y2
          exact y2
      · obtain ⟨o1, r1, r2, r3⟩ := y6 o2
        exact ⟨o, by have := (x6 o1).1; omega, r2, r3⟩
    · obtain ⟨s1, s2⟩ := stop fc fm i SC SM hJ t
      exact ⟨SC, SM, s1, s2, hJ, FM_m rfl, h6, fun o => ⟨o, Int.le_refl _, (hA o).2⟩⟩
