/-! go, sign, bollards, put, undo -/
theorem before_ok {S : SS} (hI : Inv S) : ∃ S1, fX6_copyOf 11 7 S = some S1 ∧ stV S1 11 (sft (S 131) 34) ∧ stV S1 7 (sft (S 131) 34) ∧ bdV (sft (S 131) 34) (S 131 1) ∧ Core S1 ∧ (∀ a, (a < 11 ∨ 14 < a) → S1 a = S a) := by
  obtain ⟨_, hC, hS, _⟩ := id hI
  obtain ⟨S1, e1, e2⟩ := @copySt S 11 7 (by omega)
  have f1 : ∀ a, (a < 11 ∨ 14 < a) → S1 a = S a := fun a ha => w_fX6_copyOf e1 (by omega)
  refine ⟨S1, e1, stV_of (e2 _ _ hS.1), ?_, bdV_of hS.2, ?_, f1⟩
  · exact stV_fr (f1 _ (by omega)) (f1 _ (by omega)) (f1 _ (by omega)) (f1 _ (by omega)) (stV_of hS.1)
  · exact core_fr (fun a ha => f1 a (by omega)) (lanes_fr (f1 30 (by omega)) (f1 33 (by omega)) (f1 131 (by omega)) hC.2.2) hC
theorem yearOf_V {S : SS} {r : Nat} {v : Nat → Int} {g : Int} (h0 : 0 ≤ g) (h3 : g < 3) (h : stV S r v) : fX6_yearOf r g S = some (v (3 + g.toNat)) := by
  unfold fX6_yearOf
  rw [if_neg (by omega), if_neg (by omega), rdA_ok h0 (by omega), h.2.1 _ (by omega)]
theorem cornerOf_V {S : SS} {r : Nat} {v : Nat → Int} {g : Int} (h0 : 0 ≤ g) (h3 : g < 3) (h : stV S r v) : fX6_cornerOf r g S = some (v g.toNat) := by
  unfold fX6_cornerOf
  rw [if_neg (by omega), if_neg (by omega), rdA_ok h0 (by omega), h.1 _ (by omega)]
theorem signOf_V {S : SS} {r : Nat} {v : Nat → Int} {s : Int} (h0 : 0 ≤ s) (h8 : s < 8) (h : stV S r v) : fX6_signOf r s S = some (v (6 + s.toNat)) := by
  rw [spotSign h0 h8, h.2.2.1 _ (by omega)]
theorem keepSome {S : SS} (h0 : 0 ≤ S 59 1) (h1 : S 59 1 < 10) (h2 : 0 ≤ S 59 2) (h3 : S 59 2 ≤ 10) : ∃ S', fX2_keep 11 S = some S' := by
  obtain ⟨S', e, _⟩ := keep_ok (S := S) (N := (S 59 2).toNat) (by omega) (by omega) h0 h1
  exact ⟨S', e⟩
theorem setG_year {v : Nat → Int} {g c y : Int} (h0 : 0 ≤ g) (h3 : g < 3) : setG v g c y (3 + g.toNat) = y := by
  unfold setG; rw [if_neg (by omega), if_pos rfl]
theorem k_go : K_go Inv := by
  intro g s cg cs S hI
  obtain ⟨i0, hC, hS, hH, _⟩ := id hI
  obtain ⟨_, hB, _⟩ := id hC
  have h1 := hB.1
  have h2 := hB.2.1
  have h3 := hB.2.2.1
  obtain ⟨S1, e1, v11, v7, bv, C1, f1⟩ := before_ok hI
  have e131 : S1 131 = S 131 := f1 131 (by omega)
  obtain ⟨S2, w1, w2, w3⟩ := walks_ok (p := 7) (g := g) (s := s) (by decide) C1 v7 (by rw [e131]; exact bv)
  rw [e131, goV_self h2.2 h3.2] at w1 w3
  have f2 : ∀ a, (a < 31 ∨ 33 < a) ∧ a ≠ 7 + 2 ∧ a ≠ 7 + 3 → S2 a = S1 a := fun a ha => w_fX0_walks w1 ha
  have gb := @goP_b S hB g s
  have gv := @goV_b (S 131) (sft (S 131) 34) hB g s
  rw [goV_self h2.2 h3.2] at gv
  unfold fX11_go
  rw [e1, bnd_s, w1, bnd_s]
  simp only
  by_cases c : goP (S 131) g s < 0
  · rw [if_pos c, if_neg (by omega), w32_eq (by omega) (by omega)]
    refine ⟨-10 - -goP (S 131) g s, S2, ?_⟩
    have e131' : S2 131 = S 131 := (f2 131 (by omega)).trans e131
    have z0 : S2 130 0 = 0 := by rw [f2 130 (by omega), f1 130 (by omega)]; exact i0
    obtain ⟨S3, q⟩ := whyGo_ok (S := S2) (g := g) (s := s) (by rw [e131']; exact hB) (by rw [e131']; exact hS.2) cg cs
    rw [e131', if_pos c] at q
    have f3 : ∀ a, (a < 135 ∨ 136 < a) → S3 a = S2 a := fun a ha => w_fX12_whyGo q ha
    refine ⟨S3, rfl, ?_, ?_⟩
    · unfold fX12_go
      rw [lt_ok, up_same z0, q, bnd_s]
      simp only
      rw [if_neg (by omega), w32_eq (by omega) (by omega)]
    · rw [if_pos c] at w3
      have i9 := stV_of (S := S) hS.1
      have hst : Stand S3 := by
        refine ⟨stEq_of ?_, ?_⟩
        · rw [f3 131 (by omega), e131']
          exact stV_fr (f3 _ (by omega)) (f3 _ (by omega)) (f3 _ (by omega)) (f3 _ (by omega)) w3
        · rw [f3 131 (by omega), e131']; exact hS.2
      have fA : ∀ a, keepA a → (a < 7 ∨ 10 < a) → S3 a = S a := fun a ha hb => by
        unfold keepA at ha
        exact ((f3 a (by omega)).trans (f2 a (by omega))).trans (f1 a (by omega))
      have e130 : S3 130 = S 130 := ((f3 130 (by omega)).trans (f2 130 (by omega))).trans (f1 130 (by omega))
      obtain ⟨_, _, _, _, hT, hTr, hIm⟩ := id hI
      have kk : ∀ a, (a < 7 ∨ a = 19 ∨ a = 20 ∨ (59 ≤ a ∧ a ≤ 102) ∨ (104 ≤ a ∧ a ≤ 129) ∨ (131 ≤ a ∧ a ≤ 133) ∨ 147 ≤ a) → S3 a = S a := fun a h => fA a (by unfold keepA; omega) (by omega)
      refine ⟨by rw [e130]; exact i0, ⟨?_, ?_, lanes_fr (f3 30 (by omega)) (f3 33 (by omega)) (f3 131 (by omega)) w2⟩, hst, ?_, ?_, ?_, ?_⟩
      · rw [kk 131 (by omega)]; exact townR_fr (kk _ (by omega)) (kk _ (by omega)) (kk _ (by omega)) (kk _ (by omega)) (kk _ (by omega)) hC.1
      · rw [kk 131 (by omega)]; exact hB
      · exact hist_fr (kk _ (by omega)) (kk _ (by omega)) (fun a _ _ => kk a (by omega)) hH
      · exact tape_fr (kk _ (by omega)) (kk _ (by omega)) (kk _ (by omega)) (by rw [e130]) (by rw [e130]) (by rw [e130]) hT
      · exact trays_fr (fun a _ _ => kk a (by omega)) (kk _ (by omega)) (kk _ (by omega)) (kk _ (by omega)) hTr
      · exact imgs_fr (kk _ (by omega)) (fun a _ _ => kk a (by omega)) (kk _ (by omega)) (fun j _ => by rw [kk 131 (by omega)]) hIm
  · rw [if_neg c] at w3
    rw [if_neg c, if_pos rfl, yearOf_V (by omega) (by omega) w3, bnd_s, setG_year (by omega) (by omega)]
    have e131' : S2 131 = S 131 := (f2 131 (by omega)).trans e131
    have s59 : S2 59 = S 59 := (f2 59 (by omega)).trans (f1 59 (by omega))
    obtain ⟨⟨n1, n2, n3, n4, n5⟩, _⟩ := id hH
    obtain ⟨S3, kk⟩ := keepSome (S := S2) (by rw [s59]; exact n4) (by rw [s59]; exact n5) (by rw [s59, n1]; exact n2) (by rw [s59, n1]; exact n3)
    have fk : ∀ a, a ≠ 59 ∧ (a < 61 ∨ 100 < a) → S3 a = S2 a := fun a ha => w_fX2_keep kk ha
    have e131'' : S3 131 = S 131 := (fk 131 (by omega)).trans e131'
    have e130 : S3 130 = S 130 := ((fk 130 (by omega)).trans (f2 130 (by omega))).trans (f1 130 (by omega))
    unfold fX11_kept
    rw [kk, bnd_s, bnd_s]
    have hSt3 : stBd (S3 131) 34 (S3 131 1) := by rw [e131'']; exact hS.2
    have hB3 : townB (S3 131) := by rw [e131'']; exact hB
    obtain ⟨S4, q⟩ := whyGo_ok (S := S3) (g := g) (s := s) hB3 hSt3 cg cs
    rw [e131'', if_neg c] at q
    have f4 : ∀ a, (a < 135 ∨ 136 < a) → S4 a = S3 a := fun a ha => w_fX12_whyGo q ha
    obtain ⟨S5, q5, k5, f5⟩ := @keeps_ok S4
    have e5 : S5 131 = S 131 := ((f5 131 (by decide)).trans (f4 131 (by omega))).trans e131''
    have hSt5 : stBd (S5 131) 34 (S5 131 1) := by rw [e5]; exact hS.2
    have hB5 : townB (S5 131) := by rw [e5]; exact hB
    have st5 := standOf_ok (S := S5) hSt5 hB5 (g := g) (by omega) (by omega)
    have sp := spotP_b hSt5 (g := g) (by omega) (by omega)
    have ge : aftP (S5 131) g s (spotP (S5 131) g) (S5 131 (40 + s).toNat) (S5 131 48) = goP (S 131) g s := by
      rw [e5]; unfold goP; rw [if_pos (by omega)]
    obtain ⟨S6, q6⟩ := goneTo_ok (S := S5) (g := g) (s := s) (at1 := spotP (S5 131) g) (sg := S5 131 (40 + s).toNat) hB5 (by omega) (by rw [e5]; omega) (by rw [e5] at sp ⊢; omega) hSt5.2.2.2 (by rw [ge]; omega)
    rw [ge] at q6
    have f6 : ∀ a, (a < 135 ∨ 136 < a) → S6 a = S5 a := fun a ha => w_fX12_goneTo q6 ha
    have e6 : S6 131 = S 131 := (f6 131 (by omega)).trans e5
    have q7 : fX12_isAt g (goP (S 131) g s) S6 = some (up (up S6 131 (34 + g).toNat (goP (S 131) g s / 20)) 131 (37 + g).toNat (goP (S 131) g s % 20)) := by
      unfold fX12_isAt
      rw [w32_eq (x := 34 + g) (by omega) (by omega), w32_eq (x := 37 + g) (by omega) (by omega), tdiv20 (by omega), tmod20 (by omega), w32_eq (by omega) (by omega), wrA_ok (by omega) (by omega), wrA_ok (by omega) (by omega)]
    have r7 := rowV_setG (R := S 131) (v := sft (S 131) 34) (g := g) (c := goP (S 131) g s / 20) (y := goP (S 131) g s % 20) (S := S6) (by omega) (by omega) (by rw [rowV_self]; exact e6)
    have f7 : ∀ a, a ≠ 131 → up (up S6 131 (34 + g).toNat (goP (S 131) g s / 20)) 131 (37 + g).toNat (goP (S 131) g s % 20) a = S6 a := fun a ha => by rw [up_row ha, up_row ha]
    generalize up (up S6 131 (34 + g).toNat (goP (S 131) g s / 20)) 131 (37 + g).toNat (goP (S 131) g s % 20) = S7 at q7 r7 f7
    have fz : ∀ a, (a < 131 ∨ (131 < a ∧ a < 135) ∨ 137 < a) → S7 a = S3 a := fun a ha => (((f7 a (by omega)).trans (f6 a (by omega))).trans (f5 a (by omega))).trans (f4 a (by omega))
    have bv' : bdV (setG (sft (S 131) 34) g (goP (S 131) g s / 20) (goP (S 131) g s % 20)) (S 131 1) := bdV_setG (by omega) (by omega) (by omega) (by omega) bv
    obtain ⟨S8, q8, hI8, _, r8⟩ := deed_fin (S := S) (Sa := S2) (S1 := S3) (Sb := S7) (S2 := S7) hI
      (fun a ha hb => by unfold keepA at ha; exact (f2 a (by omega)).trans (f1 a (by omega)))
      (stV_fr (f2 _ (by omega)) (f2 _ (by omega)) (f2 _ (by omega)) (f2 _ (by omega)) v11) w3 bv' w2 kk
      (fun a ha hb => by unfold keepA at ha; exact fz a (by omega)) (by rw [fz 130 (by omega), e130]; exact i0) (by rw [fz 130 (by omega), e130]) (by rw [fz 130 (by omega), e130]) (by rw [fz 130 (by omega), e130])
      (fun k hk => by rw [f7 137 (by decide), f6 137 (by omega), k5 k hk, f4 131 (by omega), e131'']) r7
    refine ⟨_, S3, S8, rfl, ?_, hI8⟩
    unfold fX12_go
    rw [lt_ok, up_same (by rw [e130]; exact i0), q, bnd_s]
    simp only
    rw [if_pos trivial, q5, bnd_s, st5, bnd_s, q6, bnd_s]
    simp only
    rw [q7, bnd_s, q8, bnd_s, w32_eq (x := 37 + g) (by omega) (by omega), rdA_ok (by omega) (by omega)]
    have := r8 (3 + g.toNat) (by omega)
    rw [setG_year (by omega) (by omega)] at this
    have e37 : (37 + g).toNat = 34 + (3 + g.toNat) := by omega
    rw [e37, this]
theorem inv_before {S S1 : SS} (hI : Inv S) (f1 : ∀ a, (a < 11 ∨ 14 < a) → S1 a = S a) : Inv S1 :=
  inv_q hI hI.2.1.2.2 (fun _ _ => rfl) (fun a ha => by unfold keepA at ha; exact f1 a (by omega))
theorem k_sign : K_sign Inv := by
  intro s n cs cn S hI
  obtain ⟨i0, hC, hS, hH, _⟩ := id hI
  obtain ⟨hR, hB, _⟩ := id hC
  have h2 := hB.2.1
  obtain ⟨S1, e1, v11, v7, bv, C1, f1⟩ := before_ok hI
  have e131 : S1 131 = S 131 := f1 131 (by omega)
  have z1 : S1 130 0 = 0 := by rw [f1 130 (by omega)]; exact i0
  have R1 := C1.1.1.2.1
  rw [e131] at R1
  unfold fX11_sign fX0_signs
  rw [e1, bnd_s, hasStreet_ok (by rw [R1]; exact h2.2), R1, bnd_s]
  by_cases c : 0 ≤ s ∧ s < S 131 2
  · by_cases d : 0 ≤ n ∧ n ≤ 3
    · obtain ⟨S2, q1, q2⟩ := stV_setS (n := n) c.1 (show s < 8 by omega) v7
      have f2 : ∀ a, a ≠ 8 → S2 a = S1 a := fun a ha => w_fX6_setSign q1 ha
      have v11' : stV S2 11 (sft (S 131) 34) := stV_fr (f2 _ (by decide)) (f2 _ (by decide)) (f2 _ (by decide)) (f2 _ (by decide)) v11
      have s59 : S2 59 = S 59 := (f2 59 (by omega)).trans (f1 59 (by omega))
      obtain ⟨⟨n1, n2, n3, n4, n5⟩, _⟩ := id hH
      obtain ⟨S3, kk⟩ := keepSome (S := S2) (by rw [s59]; exact n4) (by rw [s59]; exact n5) (by rw [s59, n1]; exact n2) (by rw [s59, n1]; exact n3)
      have fk : ∀ a, a ≠ 59 ∧ (a < 61 ∨ 100 < a) → S3 a = S2 a := fun a ha => w_fX2_keep kk ha
      have e3 : S3 131 = S 131 := ((fk 131 (by omega)).trans (f2 131 (by omega))).trans e131
      have e130 : S3 130 = S 130 := ((fk 130 (by omega)).trans (f2 130 (by omega))).trans (f1 130 (by omega))
      rw [if_pos (decide_eq_true c), if_neg (by omega), if_pos d.2, q1, bnd_s, bnd_s]
      simp only
      rw [if_pos trivial, signOf_V c.1 (by omega) v11', bnd_s]
      unfold fX11_kept
      rw [kk, bnd_s, bnd_s]
      obtain ⟨S5, q5, k5, f5⟩ := @keeps_ok S3
      have e5 : S5 131 = S 131 := (f5 131 (by decide)).trans e3
      have r7 := rowV_setS (R := S 131) (v := sft (S 131) 34) (s := s) (n := n) (S := S5) c.1 (show s < 8 by omega) (by rw [rowV_self]; exact e5)
      have f7 : ∀ a, a ≠ 131 → up S5 131 (40 + s).toNat n a = S5 a := fun a ha => up_row ha
      have fz : ∀ a, a ≠ 131 → a ≠ 137 → up S5 131 (40 + s).toNat n a = S3 a := fun a h h' => (f7 a h).trans (f5 a h')
      obtain ⟨S8, q8, hI8, r137, _⟩ := deed_fin (S := S) (Sa := S2) (S1 := S3) (Sb := up S5 131 (40 + s).toNat n) (S2 := S2) hI
        (fun a ha hb => by unfold keepA at ha; exact (f2 a (by omega)).trans (f1 a (by omega)))
        v11' q2 (bdV_setS c.1 (by omega) d bv) (lanes_fr (f2 30 (by omega)) (f2 33 (by omega)) (f2 131 (by omega)) C1.2.2) kk
        (fun a ha hb => by unfold keepA at ha; exact fz a (by omega) (by omega)) (by rw [fz 130 (by omega) (by omega), e130]; exact i0) (by rw [fz 130 (by omega) (by omega), e130]) (by rw [fz 130 (by omega) (by omega), e130]) (by rw [fz 130 (by omega) (by omega), e130])
        (fun k hk => by rw [f7 137 (by decide), k5 k hk, e3]) r7
      refine ⟨_, S3, S8, rfl, ?_, hI8⟩
      unfold fX12_sign
      rw [lt_ok, up_same (by rw [e130]; exact i0), isStreet_ok (by rw [e3]; exact h2.1) (by rw [e3]; exact h2.2), e3, bnd_s, if_pos (decide_eq_true c), within_ok, bnd_s, if_pos (decide_eq_true d), q5, bnd_s, w32_eq (x := 40 + s) (by omega) (by omega), wrA_ok (by omega) (by omega), q8, bnd_s, w32_eq (x := 6 + s) (by omega) (by omega), rdA_ok (by omega) (by omega), r137, f7 137 (by decide), k5 _ (by omega), e3]
      have : (6 + s).toNat = 6 + s.toNat := by omega
      rw [this]
      rfl
    · have e2 : (if n < 0 then some (1, S1) else if n ≤ 3 then (Option.bind (fX6_setSign 7 s n S1) fun q2 => some (0, q2)) else some (1, S1) : Option (Int × SS)) = some (1, S1) := by
        by_cases cn : n < 0
        · rw [if_pos cn]
        · rw [if_neg cn, if_neg (by omega)]
      rw [if_pos (decide_eq_true c), e2, bnd_s]
      simp only
      rw [if_neg (by decide)]
      refine ⟨_, S1, S1, rfl, ?_, inv_before hI f1⟩
      unfold fX12_sign
      rw [lt_ok, up_same z1, isStreet_ok (by rw [e131]; exact h2.1) (by rw [e131]; exact h2.2), e131, bnd_s, if_pos (decide_eq_true c), within_ok, bnd_s, if_neg (by rw [decide_eq_true_eq]; exact d)]
      rfl
  · rw [if_neg (by rw [decide_eq_true_eq]; exact c), bnd_s]
    simp only
    rw [if_neg (by decide)]
    refine ⟨_, S1, S1, rfl, ?_, inv_before hI f1⟩
    unfold fX12_sign
    rw [lt_ok, up_same z1, isStreet_ok (by rw [e131]; exact h2.1) (by rw [e131]; exact h2.2), e131, bnd_s, if_neg (by rw [decide_eq_true_eq]; exact c)]
    rfl
theorem k_bollards : K_bollards Inv := by
  intro n cn S hI
  obtain ⟨i0, hC, hS, hH, _⟩ := id hI
  obtain ⟨S1, e1, v11, v7, bv, C1, f1⟩ := before_ok hI
  have e131 : S1 131 = S 131 := f1 131 (by omega)
  have z1 : S1 130 0 = 0 := by rw [f1 130 (by omega)]; exact i0
  unfold fX11_bollards fX0_plants
  rw [e1, bnd_s]
  by_cases d : 0 ≤ n ∧ n ≤ 9
  · have q2 := stV_setB (n := n) v7
    have f2 : ∀ a, a ≠ 7 → up S1 7 3 n a = S1 a := fun a ha => up_row ha
    rw [if_neg (by omega), if_pos d.2, lt_ok, bnd_s]
    simp only
    generalize up S1 7 3 n = S2 at q2 f2
    have v11' : stV S2 11 (sft (S 131) 34) := stV_fr (f2 _ (by decide)) (f2 _ (by decide)) (f2 _ (by decide)) (f2 _ (by decide)) v11
    have s59 : S2 59 = S 59 := (f2 59 (by omega)).trans (f1 59 (by omega))
    obtain ⟨⟨n1, n2, n3, n4, n5⟩, _⟩ := id hH
    obtain ⟨S3, kk⟩ := keepSome (S := S2) (by rw [s59]; exact n4) (by rw [s59]; exact n5) (by rw [s59, n1]; exact n2) (by rw [s59, n1]; exact n3)
    have fk : ∀ a, a ≠ 59 ∧ (a < 61 ∨ 100 < a) → S3 a = S2 a := fun a ha => w_fX2_keep kk ha
    have e3 : S3 131 = S 131 := ((fk 131 (by omega)).trans (f2 131 (by omega))).trans e131
    have e130 : S3 130 = S 130 := ((fk 130 (by omega)).trans (f2 130 (by omega))).trans (f1 130 (by omega))
    unfold fX11_kept
    rw [if_pos trivial, kk, bnd_s, bnd_s]
    obtain ⟨S5, q5, k5, f5⟩ := @keeps_ok S3
    have e5 : S5 131 = S 131 := (f5 131 (by decide)).trans e3
    have r7 := rowV_setB (R := S 131) (v := sft (S 131) 34) (n := n) (S := S5) (by rw [rowV_self]; exact e5)
    have f7 : ∀ a, a ≠ 131 → up S5 131 48 n a = S5 a := fun a ha => up_row ha
    have fz : ∀ a, a ≠ 131 → a ≠ 137 → up S5 131 48 n a = S3 a := fun a h h' => (f7 a h).trans (f5 a h')
    obtain ⟨S8, q8, hI8, r137, _⟩ := deed_fin (S := S) (Sa := S2) (S1 := S3) (Sb := up S5 131 48 n) (S2 := S2) hI
      (fun a ha hb => by unfold keepA at ha; exact (f2 a (by omega)).trans (f1 a (by omega)))
      v11' q2 (bdV_setB d bv) (lanes_fr (f2 30 (by omega)) (f2 33 (by omega)) (f2 131 (by omega)) C1.2.2) kk
      (fun a ha hb => by unfold keepA at ha; exact fz a (by omega) (by omega)) (by rw [fz 130 (by omega) (by omega), e130]; exact i0) (by rw [fz 130 (by omega) (by omega), e130]) (by rw [fz 130 (by omega) (by omega), e130]) (by rw [fz 130 (by omega) (by omega), e130])
      (fun k hk => by rw [f7 137 (by decide), k5 k hk, e3]) r7
    refine ⟨_, S3, S8, rfl, ?_, hI8⟩
    unfold fX12_bollards
    have q8' : fX12_notes (up S5 131 (48 : Int).toNat n) = some S8 := q8
    rw [lt_ok, up_same (by rw [e130]; exact i0), within_ok, bnd_s, if_pos (decide_eq_true d), q5, bnd_s, wrA_ok (by decide) (by decide), q8', bnd_s, rdA_ok (by decide) (by decide), r137, f7 137 (by decide)]
    have := k5 14 (by decide)
    rw [e3] at this
    have t : S5 137 (14 : Int).toNat = S 131 (34 + 14) := this
    rw [t, v11'.2.2.2]
    rfl
  · have e2 : (if n < 0 then some (1, S1) else if n ≤ 9 then (lt (up S1 7 3 n) fun S1 => some (0, S1)) else some (1, S1) : Option (Int × SS)) = some (1, S1) := by
      by_cases cn : n < 0
      · rw [if_pos cn]
      · rw [if_neg cn, if_neg (by omega)]
    rw [e2, bnd_s]
    simp only
    rw [if_neg (by decide)]
    refine ⟨_, S1, S1, rfl, ?_, inv_before hI f1⟩
    unfold fX12_bollards
    rw [lt_ok, up_same z1, within_ok, bnd_s, if_neg (by rw [decide_eq_true_eq]; exact d)]
    rfl
