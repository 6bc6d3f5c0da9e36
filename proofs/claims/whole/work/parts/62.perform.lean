/-! perform, day -/
theorem stand_same {S S3 : SS} {v : Nat → Int} (hI : Inv S) (hv : stV S3 7 (sft (S 131) 34)) (e131 : S3 131 = S 131) (z0 : S3 130 0 = 0) (e5 : S3 130 5 = S 130 5) (e13 : S3 130 13 = S 130 13) (e14 : S3 130 14 = S 130 14) (hl : lanes S3)
    (kk : ∀ a, (a < 7 ∨ a = 19 ∨ a = 20 ∨ (59 ≤ a ∧ a ≤ 102) ∨ (104 ≤ a ∧ a ≤ 129) ∨ (132 ≤ a ∧ a ≤ 133) ∨ 147 ≤ a) → S3 a = S a) : Inv S3 := by
  obtain ⟨i0, hC, hS, hH, hT, hTr, hIm⟩ := id hI
  refine ⟨z0, ⟨?_, ?_, hl⟩, ⟨?_, ?_⟩, ?_, ?_, ?_, ?_⟩
  · rw [e131]; exact townR_fr (kk _ (by omega)) (kk _ (by omega)) (kk _ (by omega)) (kk _ (by omega)) (kk _ (by omega)) hC.1
  · rw [e131]; exact hC.2.1
  · rw [e131]; exact stEq_of hv
  · rw [e131]; exact hS.2
  · exact hist_fr (kk _ (by omega)) e131 (fun a _ _ => kk a (by omega)) hH
  · exact tape_fr (kk _ (by omega)) (kk _ (by omega)) (kk _ (by omega)) e5 e13 e14 hT
  · exact trays_fr (fun a _ _ => kk a (by omega)) (kk _ (by omega)) (kk _ (by omega)) (kk _ (by omega)) hTr
  · exact imgs_fr (kk _ (by omega)) (fun a _ _ => kk a (by omega)) (kk _ (by omega)) (fun j _ => by rw [e131]) hIm
theorem k_perform : K_perform Inv := by
  intro t ct S hI
  obtain ⟨i0, hC, hS, hH, hT, hTr, hIm⟩ := id hI
  obtain ⟨hR, hB, hL⟩ := id hC
  have hTa := trays_all.mp hTr
  unfold fX11_perform fX12_perform
  by_cases a : 0 ≤ t ∧ t ≤ 3
  · obtain ⟨i, rfl⟩ : ∃ i : Nat, t = i := ⟨t.toNat, by omega⟩
    have ht := hTa i (by omega)
    rw [trayAt_ok (by omega) (by omega), bnd_s, Int.toNat_natCast, if_neg (by omega)]
    unfold gsh
    rw [if_pos (refs101 i (by omega)).2, isMissing_ok ht, bnd_s]
    by_cases b : S 147 i = -1
    · rw [if_pos (decide_eq_true b)]
      refine ⟨_, S, S, rfl, ?_, hI⟩
      rw [lt_ok, up_same i0, noTray_ok, bnd_s, Int.toNat_natCast, if_pos a, if_pos b]
      rfl
    · rw [if_neg (by rw [decide_eq_true_eq]; exact b)]
      obtain ⟨x, _⟩ | ⟨⟨_, _, _, t4, t5, t6⟩, t7⟩ := id ht
      · exact absurd x b
      obtain ⟨N, hN⟩ : ∃ N : Nat, S 148 i = N := ⟨(S 148 i).toNat, by omega⟩
      obtain ⟨S1, e1, v11, v7, bv, C1, f1⟩ := before_ok hI
      have e131 : S1 131 = S 131 := f1 131 (by omega)
      obtain ⟨S2, d1, d2, d3, d4⟩ := allOf_ok (S := S1) (p := 7) (i := i) (N := N) (by omega) (by omega) (by omega) C1 (tray_fr (f1 _ (by omega)) (f1 _ (by omega)) (f1 _ (by omega)) (f1 _ (by omega)) (f1 _ (by omega)) ht) (by rw [f1 147 (by omega)]; exact b) (by rw [f1 148 (by omega)]; exact hN) v7 (by rw [e131]; exact bv)
      rw [e131, f1 149 (by omega)] at d1 d2 d3
      have f2 : ∀ a, (a < 31 ∨ 34 < a) ∧ a ≠ 7 ∧ a ≠ 7 + 1 ∧ a ≠ 7 + 2 ∧ a ≠ 7 + 3 → S2 a = S1 a := fun a ha => w_fX0_allOf d1 ha
      have fz : ∀ a, (a < 7 ∨ 14 < a) ∧ (a < 31 ∨ 34 < a) → S2 a = S a := fun a ha => (f2 a (by omega)).trans (f1 a (by omega))
      have hb' := @run_bd (S 131) (fun j => S 149 (40 * i + j)) hB N 0 _ bv
      rw [e1, bnd_s, d1, bnd_s]
      simp only
      have r0 := @run_0 (S 131) (fun j => S 149 (40 * i + j)) (sft (S 131) 34) N
      have mod : ∀ S3 : SS, S3 131 = S 131 → S3 130 = S 130 → S3 148 = S 148 → S3 149 = S 149 → ∃ S4 S5, fX12_keeps S3 = some S4 ∧ fX12_tells i S4 = some ((runP (S 131) (fun j => S 149 (40 * i + j)) N 0 (sft (S 131) 34)).1, S5) ∧ S5 131 = rowV (S 131) (runP (S 131) (fun j => S 149 (40 * i + j)) N 0 (sft (S 131) 34)).2.2 ∧ (∀ j, j ≠ 19 → S5 130 j = S 130 j) ∧ (∀ k, k < 15 → S5 137 k = S 131 (34 + k)) ∧ ∀ a, (a < 130 ∨ 131 < a) ∧ (a < 135 ∨ 137 < a) → S5 a = S3 a := by
        intro S3 x1 x2 x3 x4
        obtain ⟨S4, k1, k2, k3⟩ := @keeps_ok S3
        have k131 : S4 131 = rowV (S 131) (sft (S 131) 34) := by rw [rowV_self, k3 131 (by decide), x1]
        obtain ⟨S5, m1, m2, m3, m4⟩ := tells_ok (S := S4) (R := S 131) (i := i) (N := N) (by omega) (by omega) hB k131 (by rw [k3 148 (by decide), x3]; exact hN) (fun j hj => by rw [k3 149 (by decide), x4]; exact (t7 j (by omega)).2) bv
        rw [k3 149 (by decide), x4] at m1 m2 m3
        have f4 : ∀ a, (a < 130 ∨ 131 < a) ∧ (a < 135 ∨ 136 < a) → S5 a = S4 a := fun a ha => w_fX12_tells m1 ha
        exact ⟨S4, S5, k1, m1, m3, fun j hj => by rw [m4 j hj, k3 130 (by decide), x2], fun k hk => by rw [f4 137 (by omega), k2 k hk, x1], fun a ha => (f4 a (by omega)).trans (k3 a (by omega))⟩
      generalize runP (S 131) (fun j => S 149 (40 * i + j)) N 0 (sft (S 131) 34) = P at *
      by_cases c : P.1 ≤ 0
      · rw [if_pos c]
        obtain ⟨S4, S5, m1, m2, m3, m4, m5, m6⟩ := mod S2 (fz 131 (by omega)) (fz 130 (by omega)) (fz 148 (by omega)) (fz 149 (by omega))
        rw [r0 c] at m3 d3
        have q131 : S5 131 = S 131 := by rw [m3, rowV_self]
        have hv5 : stV S5 7 (sft (S 131) 34) := stV_fr (m6 _ (by omega)) (m6 _ (by omega)) (m6 _ (by omega)) (m6 _ (by omega)) d3
        refine ⟨_, S2, S5, rfl, ?_, stand_same (v := sft (S 131) 34) hI hv5 q131 (by rw [m4 0 (by decide)]; exact i0) (m4 5 (by decide)) (m4 13 (by decide)) (m4 14 (by decide)) (lanes_fr (m6 _ (by omega)) (m6 _ (by omega)) (q131.trans (fz 131 (by omega)).symm) d4) (fun a h => (m6 a (by omega)).trans (fz a (by omega)))⟩
        rw [lt_ok, up_same (by rw [fz 130 (by omega)]; exact i0), noTray_ok, bnd_s, Int.toNat_natCast, if_pos a, fz 147 (by omega), if_neg b, if_pos rfl, m1, bnd_s, m2, bnd_s]
        simp only
        rw [if_pos c, bnd_s]
      · rw [if_neg c]
        have s59 : S2 59 = S 59 := fz 59 (by omega)
        obtain ⟨⟨n1, n2, n3, n4, n5⟩, _⟩ := id hH
        obtain ⟨S3, kk⟩ := keepSome (S := S2) (by rw [s59]; exact n4) (by rw [s59]; exact n5) (by rw [s59, n1]; exact n2) (by rw [s59, n1]; exact n3)
        have fk : ∀ a, a ≠ 59 ∧ (a < 61 ∨ 100 < a) → S3 a = S2 a := fun a ha => w_fX2_keep kk ha
        have fy : ∀ a, (a < 7 ∨ 14 < a) ∧ (a < 31 ∨ 34 < a) ∧ a ≠ 59 ∧ (a < 61 ∨ 100 < a) → S3 a = S a := fun a ha => (fk a (by omega)).trans (fz a (by omega))
        unfold fX11_kept
        rw [kk, bnd_s, bnd_s]
        obtain ⟨S4, S5, m1, m2, m3, m4, m5, m6⟩ := mod S3 (fy 131 (by omega)) (fy 130 (by omega)) (fy 148 (by omega)) (fy 149 (by omega))
        obtain ⟨S8, q8, hI8, r137, _⟩ := deed_fin (S := S) (Sa := S2) (S1 := S3) (Sb := S5) (S2 := S2) hI
          (fun a ha hb => by unfold keepA at ha; exact fz a (by omega))
          (stV_fr (f2 _ (by omega)) (f2 _ (by omega)) (f2 _ (by omega)) (f2 _ (by omega)) v11) d3 hb' d4 kk
          (fun a ha hb => by unfold keepA at ha; exact m6 a (by omega)) (by rw [m4 0 (by decide)]; exact i0) (m4 5 (by decide)) (m4 13 (by decide)) (m4 14 (by decide)) m5 m3
        refine ⟨_, S3, S8, rfl, ?_, hI8⟩
        rw [lt_ok, up_same (by rw [fy 130 (by omega)]; exact i0), noTray_ok, bnd_s, Int.toNat_natCast, if_pos a, fy 147 (by omega), if_neg b, if_pos rfl, m1, bnd_s, m2, bnd_s]
        simp only
        rw [if_neg c, q8, bnd_s, bnd_s]
  · rw [trayAt_no (by omega), bnd_s, if_pos rfl]
    refine ⟨_, S, S, rfl, ?_, hI⟩
    rw [lt_ok, up_same i0, noTray_ok, bnd_s, if_neg a]
    rfl
/-! a day -/
def dw (x : Int) : Int := w32 ((w32 (1103515245 * x)) + 12345)
def dv (x m : Int) : Int := Int.tmod (jushr (dw x) 16) m
theorem ushr16_b : ∀ x : Int32, 0 ≤ (((x.toUInt32) >>> (UInt32.ofNat 16)).toInt32).toInt := by
  intro x
  have h : (((x.toUInt32) >>> (UInt32.ofNat 16)).toInt32).toInt = (x.toUInt32.toNat >>> 16 : Nat) := by
    have e : (((x.toUInt32) >>> (UInt32.ofNat 16)).toInt32).toInt = ((x.toUInt32.toBitVec) >>> 16).toInt := rfl
    have n : ((x.toUInt32.toBitVec) >>> 16).toNat = x.toUInt32.toNat >>> 16 := BitVec.toNat_ushiftRight _ _
    have lt : x.toUInt32.toNat >>> 16 < 2 ^ 16 := by
      rw [Nat.shiftRight_eq_div_pow]
      have := x.toUInt32.toNat_lt
      omega
    rw [e, BitVec.toInt_eq_toNat_of_lt (by rw [n]; omega), n]
  rw [h]
  omega
theorem jushr16 {x : Int} : 0 ≤ jushr x 16 := by
  have e : jushr x 16 = ((((Int32.ofInt x).toUInt32) >>> (UInt32.ofNat 16)).toInt32).toInt := rfl
  rw [e]
  exact ushr16_b _
theorem dv_b {x m : Int} (hm : 0 < m) : 0 ≤ dv x m ∧ dv x m < m := by
  unfold dv
  rw [Int.tmod_eq_emod_of_nonneg jushr16]
  exact ⟨Int.emod_nonneg _ (by omega), Int.emod_lt_of_pos _ hm⟩
theorem cdraw_ok {S : SS} {m : Int} (hm : 0 < m) : fX0_draw m S = some (dv (S 34 3) m, up S 34 3 (dw (S 34 3))) := by
  unfold fX0_draw nz
  rw [lt_ok, if_neg (by omega), if_neg (by omega), up_self]
  rfl
theorem mdraw_ok {S : SS} {m : Int} (hm : 0 < m) : fX12_draw m S = some (dv (S 130 20) m, up S 130 20 (dw (S 130 20))) := by
  unfold fX12_draw nz
  rw [lt_ok, if_neg (by omega), up_self]
  rfl
def dayX (x : Int) : Int := if dv x 6 = 5 then dw (dw x) else dw (dw (dw x))
def dayC (x : Int) : Int := if dv x 6 = 5 then 200 + dv (dw x) 10 else if dv x 6 = 4 then 100 + 10 * dv (dw x) 8 + dv (dw (dw x)) 4 else 10 * dv (dw x) 3 + dv (dw (dw x)) 8
theorem mdrawn_ok {S : SS} : ∃ S', fX12_drawn S = some (dayC (S 130 20), S') ∧ S' 130 20 = dayX (S 130 20) ∧ ∀ j, j ≠ 20 → S' 130 j = S 130 j := by
  unfold fX12_drawn dayC dayX
  rw [mdraw_ok (by decide), bnd_s]
  simp only
  have b6 := @dv_b (S 130 20) 6 (by decide)
  by_cases c5 : dv (S 130 20) 6 = 5
  · rw [if_pos c5, if_pos c5, if_pos c5, mdraw_ok (by decide), bnd_s]
    simp only
    rw [up_self]
    have b := @dv_b (dw (S 130 20)) 10 (by decide)
    rw [w32_eq (by omega) (by omega)]
    exact ⟨_, rfl, up_self, fun j hj => by rw [up_at, if_neg hj, up_at, if_neg hj]⟩
  · rw [if_neg c5, if_neg c5, if_neg c5]
    by_cases c4 : dv (S 130 20) 6 = 4
    · rw [if_pos c4, if_pos c4, mdraw_ok (by decide), bnd_s]
      simp only
      rw [up_self, mdraw_ok (by decide), bnd_s]
      simp only
      rw [up_self]
      have b := @dv_b (dw (S 130 20)) 8 (by decide)
      have b' := @dv_b (dw (dw (S 130 20))) 4 (by decide)
      rw [w32_eq (x := 10 * dv (dw (S 130 20)) 8) (by omega) (by omega), w32_eq (x := 100 + 10 * dv (dw (S 130 20)) 8) (by omega) (by omega), w32_eq (by omega) (by omega)]
      exact ⟨_, rfl, up_self, fun j hj => by rw [up_at, if_neg hj, up_at, if_neg hj, up_at, if_neg hj]⟩
    · rw [if_neg c4, if_neg c4, mdraw_ok (by decide), bnd_s]
      simp only
      rw [up_self, mdraw_ok (by decide), bnd_s]
      simp only
      rw [up_self]
      have b := @dv_b (dw (S 130 20)) 3 (by decide)
      have b' := @dv_b (dw (dw (S 130 20))) 8 (by decide)
      rw [w32_eq (x := 10 * dv (dw (S 130 20)) 3) (by omega) (by omega), w32_eq (by omega) (by omega)]
      exact ⟨_, rfl, up_self, fun j hj => by rw [up_at, if_neg hj, up_at, if_neg hj, up_at, if_neg hj]⟩
theorem cdeed_ok {S : SS} {p : Nat} {v : Nat → Int} (hp : p + 3 < 30) (hC : Core S) (hv : stV S p v) (hb : bdV v (S 131 1)) :
    ∃ S', fX0_drawnDeed p S = some ((didP (S 131) v (dayC (S 34 3))).1, S') ∧ S' 34 3 = dayX (S 34 3) ∧ lanes S' ∧ stV S' p (didP (S 131) v (dayC (S 34 3))).2 := by
  have C' : ∀ M : SS, (∀ a, a ≠ 34 → M a = S a) → Core M ∧ stV M p v ∧ M 131 = S 131 := fun M h =>
    ⟨core_fr (fun a ha => h a (by omega)) (lanes_fr (h _ (by omega)) (h _ (by omega)) (h _ (by omega)) hC.2.2) hC, stV_fr (h _ (by omega)) (h _ (by omega)) (h _ (by omega)) (h _ (by omega)) hv, h 131 (by omega)⟩
  unfold fX0_drawnDeed
  rw [cdraw_ok (by decide), bnd_s]
  simp only
  have b6 := @dv_b (S 34 3) 6 (by decide)
  by_cases c5 : dv (S 34 3) 6 = 5
  · have b := @dv_b (dw (S 34 3)) 10 (by decide)
    rw [if_pos (by omega), if_neg (by omega), cdraw_ok (by decide), bnd_s]
    simp only
    rw [up_self]
    have g : up (up S 34 3 (dw (S 34 3))) 34 3 (dw (dw (S 34 3))) 34 3 = dw (dw (S 34 3)) := up_self
    obtain ⟨CM, vM, eM⟩ := C' (up (up S 34 3 (dw (S 34 3))) 34 3 (dw (dw (S 34 3)))) (fun a ha => by rw [up_row ha, up_row ha])
    generalize up (up S 34 3 (dw (S 34 3))) 34 3 (dw (dw (S 34 3))) = M at g CM vM eM
    obtain ⟨S', q1, q2, q3⟩ := plants_ok (n := dv (dw (S 34 3)) 10) vM
    have ed : didP (S 131) v (dayC (S 34 3)) = (0, setB v (dv (dw (S 34 3)) 10)) := by
      have e : dayC (S 34 3) = 200 + dv (dw (S 34 3)) 10 := by unfold dayC; rw [if_pos c5]
      unfold didP
      rw [e, if_neg (by omega), if_neg (by omega), if_neg (by omega), if_pos (by omega), if_pos (by omega), show 200 + dv (dw (S 34 3)) 10 - 200 = dv (dw (S 34 3)) 10 by omega]
    rw [if_pos (by omega)] at q1 q2
    rw [q1, bnd_s, ed]
    refine ⟨S', rfl, ?_, lanes_fr (q3 _ (by omega)) (q3 _ (by omega)) (q3 _ (by omega)) CM.2.2, q2⟩
    unfold dayX
    rw [if_pos c5, q3 34 (by omega), g]
  · by_cases c4 : dv (S 34 3) 6 = 4
    · have b := @dv_b (dw (S 34 3)) 8 (by decide)
      have b' := @dv_b (dw (dw (S 34 3))) 4 (by decide)
      rw [if_pos (by omega), if_pos c4, cdraw_ok (by decide), bnd_s]
      simp only
      rw [up_self, cdraw_ok (by decide), bnd_s]
      simp only
      rw [up_self]
      have g : up (up (up S 34 3 (dw (S 34 3))) 34 3 (dw (dw (S 34 3)))) 34 3 (dw (dw (dw (S 34 3)))) 34 3 = dw (dw (dw (S 34 3))) := up_self
      obtain ⟨CM, vM, eM⟩ := C' (up (up (up S 34 3 (dw (S 34 3))) 34 3 (dw (dw (S 34 3)))) 34 3 (dw (dw (dw (S 34 3))))) (fun a ha => by rw [up_row ha, up_row ha, up_row ha])
      generalize up (up (up S 34 3 (dw (S 34 3))) 34 3 (dw (dw (S 34 3)))) 34 3 (dw (dw (dw (S 34 3)))) = M at g CM vM eM
      obtain ⟨S', q1, q2, q3⟩ := signs_ok (s := dv (dw (S 34 3)) 8) (n := dv (dw (dw (S 34 3))) 4) CM.1 CM.2.1 vM
      rw [eM] at q1 q2
      have ed : didP (S 131) v (dayC (S 34 3)) = if (0 ≤ dv (dw (S 34 3)) 8 ∧ dv (dw (S 34 3)) 8 < S 131 2) ∧ (0 ≤ dv (dw (dw (S 34 3))) 4 ∧ dv (dw (dw (S 34 3))) 4 ≤ 3) then (0, setS v (dv (dw (S 34 3)) 8) (dv (dw (dw (S 34 3))) 4)) else (1, v) := by
        have e : dayC (S 34 3) = 100 + 10 * dv (dw (S 34 3)) 8 + dv (dw (dw (S 34 3))) 4 := by unfold dayC; rw [if_neg c5, if_pos c4]
        unfold didP
        rw [e, if_neg (by omega), if_neg (by omega), if_pos (by omega), show (100 + 10 * dv (dw (S 34 3)) 8 + dv (dw (dw (S 34 3))) 4 - 100) / 10 = dv (dw (S 34 3)) 8 by omega, show (100 + 10 * dv (dw (S 34 3)) 8 + dv (dw (dw (S 34 3))) 4) % 10 = dv (dw (dw (S 34 3))) 4 by omega]
      have hx : S' 34 3 = dayX (S 34 3) := by unfold dayX; rw [if_neg c5, q3 34 (by omega), g]
      rw [q1, bnd_s, ed]
      refine ⟨S', ?_, hx, lanes_fr (q3 _ (by omega)) (q3 _ (by omega)) (q3 _ (by omega)) CM.2.2, ?_⟩
      · split <;> rfl
      · split
        · rename_i c; rw [if_pos c] at q2; exact q2
        · rename_i c; rw [if_neg c] at q2; exact q2
    · have b := @dv_b (dw (S 34 3)) 3 (by decide)
      have b' := @dv_b (dw (dw (S 34 3))) 8 (by decide)
      rw [if_neg (by omega), cdraw_ok (by decide), bnd_s]
      simp only
      rw [up_self, cdraw_ok (by decide), bnd_s]
      simp only
      rw [up_self]
      have g : up (up (up S 34 3 (dw (S 34 3))) 34 3 (dw (dw (S 34 3)))) 34 3 (dw (dw (dw (S 34 3)))) 34 3 = dw (dw (dw (S 34 3))) := up_self
      obtain ⟨CM, vM, eM⟩ := C' (up (up (up S 34 3 (dw (S 34 3))) 34 3 (dw (dw (S 34 3)))) 34 3 (dw (dw (dw (S 34 3))))) (fun a ha => by rw [up_row ha, up_row ha, up_row ha])
      generalize up (up (up S 34 3 (dw (S 34 3))) 34 3 (dw (dw (S 34 3)))) 34 3 (dw (dw (dw (S 34 3)))) = M at g CM vM eM
      obtain ⟨S', q1, q2, q3⟩ := walks_ok (g := dv (dw (S 34 3)) 3) (s := dv (dw (dw (S 34 3))) 8) hp CM vM (by rw [eM]; exact hb)
      rw [eM] at q1 q3
      have ed : didP (S 131) v (dayC (S 34 3)) = if goV (S 131) v (dv (dw (S 34 3)) 3) (dv (dw (dw (S 34 3))) 8) < 0 then (- goV (S 131) v (dv (dw (S 34 3)) 3) (dv (dw (dw (S 34 3))) 8), v) else (0, setG v (dv (dw (S 34 3)) 3) (goV (S 131) v (dv (dw (S 34 3)) 3) (dv (dw (dw (S 34 3))) 8) / 20) (goV (S 131) v (dv (dw (S 34 3)) 3) (dv (dw (dw (S 34 3))) 8) % 20)) := by
        have e : dayC (S 34 3) = 10 * dv (dw (S 34 3)) 3 + dv (dw (dw (S 34 3))) 8 := by unfold dayC; rw [if_neg c5, if_neg c4]
        unfold didP
        rw [e, if_neg (by omega), if_pos (by omega), show (10 * dv (dw (S 34 3)) 3 + dv (dw (dw (S 34 3))) 8) / 10 = dv (dw (S 34 3)) 3 by omega, show (10 * dv (dw (S 34 3)) 3 + dv (dw (dw (S 34 3))) 8) % 10 = dv (dw (dw (S 34 3))) 8 by omega]
      have hx : S' 34 3 = dayX (S 34 3) := by
        have := w_fX0_walks q1 (a := 34) (by omega)
        simp only at this
        unfold dayX; rw [if_neg c5, this, g]
      rw [q1, bnd_s, ed]
      refine ⟨S', ?_, hx, q2, ?_⟩
      · split <;> rfl
      · split
        · rename_i c; rw [if_pos c] at q3; exact q3
        · rename_i c; rw [if_neg c] at q3; exact q3
def dayP (R : Nat → Int) : Nat → Int → Int → (Nat → Int) → Int × (Nat → Int)
  | 0, _, d, v => (d, v)
  | m + 1, x, d, v => dayP R m (dayX x) (if (didP R v (dayC x)).1 = 0 then d + 1 else d) (didP R v (dayC x)).2
theorem day_bd {R : Nat → Int} (hB : townB R) : ∀ (m : Nat) (x d : Int) (v : Nat → Int), bdV v (R 1) → bdV (dayP R m x d v).2 (R 1) := by
  intro m
  induction m with
  | zero => intro x d v h; exact h
  | succ m ih => intro x d v h; exact ih _ _ _ (did_bd hB h)
theorem day_ge {R : Nat → Int} : ∀ (m : Nat) (x d : Int) (v : Nat → Int), d ≤ (dayP R m x d v).1 ∧ ((dayP R m x d v).1 ≤ d → (dayP R m x d v).2 = v) := by
  intro m
  induction m with
  | zero => intro x d v; exact ⟨Int.le_refl _, fun _ => rfl⟩
  | succ m ih =>
    intro x d v
    show d ≤ (dayP R m (dayX x) (if (didP R v (dayC x)).1 = 0 then d + 1 else d) (didP R v (dayC x)).2).1 ∧ ((dayP R m (dayX x) (if (didP R v (dayC x)).1 = 0 then d + 1 else d) (didP R v (dayC x)).2).1 ≤ d → (dayP R m (dayX x) (if (didP R v (dayC x)).1 = 0 then d + 1 else d) (didP R v (dayC x)).2).2 = v)
    by_cases c : (didP R v (dayC x)).1 = 0
    · rw [if_pos c]
      have := (ih (dayX x) (d + 1) (didP R v (dayC x)).2).1
      exact ⟨by omega, fun h => by omega⟩
    · rw [if_neg c, did_same c]
      exact ih (dayX x) d v
theorem cday_loop {p N : Nat} {R : Nat → Int} (hp : 7 ≤ p ∧ p + 3 < 19) (hN : N ≤ 40) : ∀ (m n k : Nat) (S : SS) (d : Int) (v : Nat → Int), Core S → S 131 = R → stV S p v → bdV v (R 1) → 0 ≤ d → d ≤ k → m + k = N → m < n →
    ∃ S', fX0_drawn_L11 (N : Int) p n d k S = some ((dayP R m (S 34 3) d v).1, S') ∧ stV S' p (dayP R m (S 34 3) d v).2 ∧ lanes S' := by
  intro m
  induction m with
  | zero =>
    intro n k S d v hC hR hv hb h0 h1 hk hn
    obtain ⟨n, rfl⟩ := suc_of hn
    unfold fX0_drawn_L11
    rw [if_pos (by omega)]
    exact ⟨S, rfl, hv, hC.2.2⟩
  | succ m ih =>
    intro n k S d v hC hR hv hb h0 h1 hk hn
    obtain ⟨n, rfl⟩ := suc_of hn
    obtain ⟨S1, e1, e2, e3, e4⟩ := cdeed_ok (p := p) (by omega) hC hv (by rw [hR]; exact hb)
    rw [hR] at e1 e4
    have f1 : ∀ a, (a < 31 ∨ 34 < a) ∧ a ≠ p ∧ a ≠ p + 1 ∧ a ≠ p + 2 ∧ a ≠ p + 3 → S1 a = S a := fun a ha => w_fX0_drawnDeed e1 ha
    have C1 : Core S1 := by
      have y : ∀ a, a < 7 → S1 a = S a := fun a ha => f1 a (by omega)
      refine ⟨?_, ?_, e3⟩
      · rw [f1 131 (by omega)]; exact townR_fr (y _ (by omega)) (y _ (by omega)) (y _ (by omega)) (y _ (by omega)) (y _ (by omega)) hC.1
      · rw [f1 131 (by omega)]; exact hC.2.1
    have eb : (if (didP R v (dayC (S 34 3))).1 = 0 then (lt (w32 (d + 1)) fun x3 => some x3) else some d : Option Int) = some (if (didP R v (dayC (S 34 3))).1 = 0 then d + 1 else d) := by
      split
      · rw [lt_ok, w32_eq (by omega) (by omega)]
      · rfl
    unfold fX0_drawn_L11
    rw [if_neg (by omega), e1, bnd_s]
    simp only
    rw [eb, bnd_s, lt_ok, w32_k (by omega)]
    obtain ⟨S', r1, r2, r3⟩ := ih n (k + 1) S1 (if (didP R v (dayC (S 34 3))).1 = 0 then d + 1 else d) _ C1 ((f1 131 (by omega)).trans hR) e4 (did_bd (by rw [← hR]; exact hC.2.1) hb) (by split <;> omega) (by split <;> omega) (by omega) (by omega)
    rw [e2] at r1 r2
    exact ⟨S', r1, r2, r3⟩
theorem mday_loop {N : Nat} {R : Nat → Int} (hN : N ≤ 40) (hB : townB R) : ∀ (m n k : Nat) (S : SS) (d : Int) (v : Nat → Int), S 131 = rowV R v → bdV v (R 1) → 0 ≤ d → d ≤ k → m + k = N → m < n →
    ∃ S', fX12_day_L34 (N : Int) n d k S = some ((dayP R m (S 130 20) d v).1, S') ∧ S' 131 = rowV R (dayP R m (S 130 20) d v).2 ∧ ∀ j, j ≠ 20 → S' 130 j = S 130 j := by
  intro m
  induction m with
  | zero =>
    intro n k S d v hr hb h0 h1 hk hn
    obtain ⟨n, rfl⟩ := suc_of hn
    unfold fX12_day_L34
    rw [if_pos (by omega)]
    exact ⟨S, rfl, hr, fun j _ => rfl⟩
  | succ m ih =>
    intro n k S d v hr hb h0 h1 hk hn
    obtain ⟨n, rfl⟩ := suc_of hn
    obtain ⟨S1, e1, e2, e3⟩ := @mdrawn_ok S
    have f1 : ∀ a, a ≠ 130 → S1 a = S a := fun a ha => w_fX12_drawn e1 ha
    obtain ⟨S2, q⟩ := whyNot_ok (S := S1) (x := dayC (S 130 20)) ((f1 131 (by decide)).trans hr) hB hb
    have f2 : ∀ a, (a < 135 ∨ 136 < a) → S2 a = S1 a := fun a ha => w_fX12_whyNot q ha
    have r2 : S2 131 = rowV R v := ((f2 131 (by omega)).trans (f1 131 (by decide))).trans hr
    unfold fX12_day_L34
    rw [if_neg (by omega), e1, bnd_s]
    simp only
    rw [q, bnd_s]
    simp only
    show ∃ S' : SS, _ = some ((dayP R m (dayX (S 130 20)) (if (didP R v (dayC (S 130 20))).1 = 0 then d + 1 else d) (didP R v (dayC (S 130 20))).2).1, S') ∧ S' 131 = rowV R (dayP R m (dayX (S 130 20)) (if (didP R v (dayC (S 130 20))).1 = 0 then d + 1 else d) (didP R v (dayC (S 130 20))).2).2 ∧ _
    by_cases c : (didP R v (dayC (S 130 20))).1 = 0
    · obtain ⟨S3, d1, d2⟩ := does_ok (S := S2) (x := dayC (S 130 20)) r2 hB hb c
      have f3 : ∀ a, a ≠ 131 ∧ (a < 135 ∨ 136 < a) → S3 a = S2 a := fun a ha => w_fX12_does d1 ha
      rw [if_pos c, if_pos c, d1, bnd_s, lt_ok, bnd_s, w32_eq (x := d + 1) (by omega) (by omega), lt_ok, w32_k (by omega)]
      have e20 : S3 130 20 = dayX (S 130 20) := by rw [f3 130 (by omega), f2 130 (by omega), e2]
      obtain ⟨S', r1, r2, r3⟩ := ih n (k + 1) S3 (d + 1) _ d2 (did_bd hB hb) (by omega) (by omega) (by omega) (by omega)
      rw [e20] at r1 r2
      exact ⟨S', r1, r2, fun j hj => by rw [r3 j hj, f3 130 (by omega), f2 130 (by omega), e3 j hj]⟩
    · rw [if_neg c, if_neg c, bnd_s, lt_ok, w32_k (by omega), did_same c]
      have e20 : S2 130 20 = dayX (S 130 20) := by rw [f2 130 (by omega), e2]
      obtain ⟨S', r1, r2, r3⟩ := ih n (k + 1) S2 d v r2 hb h0 (by omega) (by omega) (by omega)
      rw [e20] at r1 r2
      exact ⟨S', r1, r2, fun j hj => by rw [r3 j hj, f2 130 (by omega), e3 j hj]⟩
theorem k_day : K_day Inv := by
  intro x t cx ct S hI
  obtain ⟨i0, hC, hS, hH, hT, hTr, hIm⟩ := id hI
  obtain ⟨hR, hB, hL⟩ := id hC
  unfold fX11_day fX12_day
  by_cases a : 1 ≤ t ∧ t ≤ 40
  · obtain ⟨N, rfl⟩ : ∃ N : Nat, t = N := ⟨t.toNat, by omega⟩
    obtain ⟨S1, e1, v11, v7, bv, C1, f1⟩ := before_ok hI
    have fu : ∀ a, a ≠ 34 → up S1 34 3 x a = S1 a := fun a ha => up_row ha
    have Cu : Core (up S1 34 3 x) := core_fr (fun a ha => fu a (by omega)) (lanes_fr (fu _ (by omega)) (fu _ (by omega)) (fu _ (by omega)) C1.2.2) C1
    obtain ⟨S2, d1, d3, d4⟩ := cday_loop (p := 7) (N := N) (R := S 131) (by omega) (by omega) N FU 0 (up S1 34 3 x) 0 _ Cu ((fu 131 (by omega)).trans (f1 131 (by omega))) (stV_fr (fu _ (by omega)) (fu _ (by omega)) (fu _ (by omega)) (fu _ (by omega)) v7) bv (by omega) (by omega) (by omega) (by unfold FU; omega)
    rw [up_self] at d1 d3
    have d1' : fX0_drawn_L11 (N : Int) 7 FU 0 0 (up S1 34 3 x) = some ((dayP (S 131) N x 0 (sft (S 131) 34)).1, S2) := d1
    have d2 : fX0_drawn x N 7 S1 = some ((dayP (S 131) N x 0 (sft (S 131) 34)).1, S2) := by
      unfold fX0_drawn; rw [lt_ok, d1', bnd_s]
    have f2 : ∀ a, (a < 31 ∨ 34 < a) ∧ a ≠ 7 ∧ a ≠ 7 + 1 ∧ a ≠ 7 + 2 ∧ a ≠ 7 + 3 → S2 a = S1 a := fun a ha => w_fX0_drawn d2 ha
    have fz : ∀ a, (a < 7 ∨ 14 < a) ∧ (a < 31 ∨ 34 < a) → S2 a = S a := fun a ha => (f2 a (by omega)).trans (f1 a (by omega))
    have hb' := @day_bd (S 131) hB N x 0 _ bv
    have r0 := (@day_ge (S 131) N x 0 (sft (S 131) 34)).2
    rw [if_neg (by omega), if_pos a.2, e1, bnd_s, d2, bnd_s]
    simp only
    have mod : ∀ S3 : SS, S3 131 = S 131 → S3 130 = S 130 → ∃ S4 S5, fX12_keeps S3 = some S4 ∧ fX12_day_L34 (N : Int) FU 0 0 (up S4 130 20 x) = some ((dayP (S 131) N x 0 (sft (S 131) 34)).1, S5) ∧ S5 131 = rowV (S 131) (dayP (S 131) N x 0 (sft (S 131) 34)).2 ∧ (∀ j, j ≠ 20 → S5 130 j = S 130 j) ∧ (∀ k, k < 15 → S5 137 k = S 131 (34 + k)) ∧ ∀ a, (a < 130 ∨ 131 < a) ∧ (a < 135 ∨ 137 < a) → S5 a = S3 a := by
      intro S3 x1 x2
      obtain ⟨S4, k1, k2, k3⟩ := @keeps_ok S3
      have k131 : up S4 130 20 x 131 = rowV (S 131) (sft (S 131) 34) := by rw [up_row (by decide), rowV_self, k3 131 (by decide), x1]
      obtain ⟨S5, m1, m3, m4⟩ := mday_loop (N := N) (R := S 131) (by omega) hB N FU 0 (up S4 130 20 x) 0 _ k131 bv (by omega) (by omega) (by omega) (by unfold FU; omega)
      rw [up_self] at m1 m3
      have f4 : ∀ a, (a < 130 ∨ 131 < a) ∧ (a < 135 ∨ 136 < a) → S5 a = S4 a := fun a ha => (w_fX12_day_L34 (a := a) (by omega) _ _ _ _ _ m1).trans (up_row (by omega))
      exact ⟨S4, S5, k1, m1, m3, fun j hj => by rw [m4 j hj, up_at, if_neg hj, k3 130 (by decide), x2], fun k hk => by rw [f4 137 (by omega), k2 k hk, x1], fun a ha => (f4 a (by omega)).trans (k3 a (by omega))⟩
    generalize dayP (S 131) N x 0 (sft (S 131) 34) = P at *
    by_cases c : P.1 ≤ 0
    · rw [if_pos c]
      obtain ⟨S4, S5, m1, m2, m3, m4, m5, m6⟩ := mod S2 (fz 131 (by omega)) (fz 130 (by omega))
      rw [r0 c] at m3 d3
      have q131 : S5 131 = S 131 := by rw [m3, rowV_self]
      have hv5 : stV S5 7 (sft (S 131) 34) := stV_fr (m6 _ (by omega)) (m6 _ (by omega)) (m6 _ (by omega)) (m6 _ (by omega)) d3
      refine ⟨_, S2, S5, rfl, ?_, stand_same (v := sft (S 131) 34) hI hv5 q131 (by rw [m4 0 (by decide)]; exact i0) (m4 5 (by decide)) (m4 13 (by decide)) (m4 14 (by decide)) (lanes_fr (m6 _ (by omega)) (m6 _ (by omega)) (q131.trans (fz 131 (by omega)).symm) d4) (fun a h => (m6 a (by omega)).trans (fz a (by omega)))⟩
      rw [lt_ok, up_same (by rw [fz 130 (by omega)]; exact i0), within_ok, bnd_s, if_pos (decide_eq_true a), m1, bnd_s, lt_ok, m2, bnd_s]
      simp only
      rw [if_pos c, bnd_s]
    · rw [if_neg c]
      have s59 : S2 59 = S 59 := fz 59 (by omega)
      obtain ⟨⟨n1, n2, n3, n4, n5⟩, _⟩ := id hH
      obtain ⟨S3, kk⟩ := keepSome (S := S2) (by rw [s59]; exact n4) (by rw [s59]; exact n5) (by rw [s59, n1]; exact n2) (by rw [s59, n1]; exact n3)
      have fk : ∀ a, a ≠ 59 ∧ (a < 61 ∨ 100 < a) → S3 a = S2 a := fun a ha => w_fX2_keep kk ha
      have fy : ∀ a, (a < 7 ∨ 14 < a) ∧ (a < 31 ∨ 34 < a) ∧ a ≠ 59 ∧ (a < 61 ∨ 100 < a) → S3 a = S a := fun a ha => (fk a (by omega)).trans (fz a (by omega))
      unfold fX11_kept
      rw [kk, bnd_s, bnd_s]
      obtain ⟨S4, S5, m1, m2, m3, m4, m5, m6⟩ := mod S3 (fy 131 (by omega)) (fy 130 (by omega))
      obtain ⟨S8, q8, hI8, r137, _⟩ := deed_fin (S := S) (Sa := S2) (S1 := S3) (Sb := S5) (S2 := S2) hI
        (fun a ha hb => by unfold keepA at ha; exact fz a (by omega))
        (stV_fr (f2 _ (by omega)) (f2 _ (by omega)) (f2 _ (by omega)) (f2 _ (by omega)) v11) d3 hb' d4 kk
        (fun a ha hb => by unfold keepA at ha; exact m6 a (by omega)) (by rw [m4 0 (by decide)]; exact i0) (m4 5 (by decide)) (m4 13 (by decide)) (m4 14 (by decide)) m5 m3
      refine ⟨_, S3, S8, rfl, ?_, hI8⟩
      rw [lt_ok, up_same (by rw [fy 130 (by omega)]; exact i0), within_ok, bnd_s, if_pos (decide_eq_true a), m1, bnd_s, lt_ok, m2, bnd_s]
      simp only
      rw [if_neg c, q8, bnd_s, bnd_s]
  · refine ⟨-3, S, S, ?_, ?_, hI⟩
    · by_cases c : t < 1
      · rw [if_pos c]
      · rw [if_neg c, if_neg (by omega)]
    · rw [lt_ok, up_same i0, within_ok, bnd_s, if_neg (by rw [decide_eq_true_eq]; exact a)]
