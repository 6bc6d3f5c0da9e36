/-! images -/
theorem copyTown {S : SS} {t p : Nat} (h : t + 9 ≤ p ∨ p + 9 ≤ t) (h0 : 0 ≤ S p 9) (h9 : S p 9 ≤ 900) : ∃ S', fX8_copyOf t p S = some S' ∧ (∀ Q, townB Q → townR S p Q → townR S' t Q) ∧ (∀ Q o, stEq S (p + 5) Q o → stEq S' (t + 5) Q o) := by
  obtain ⟨q1, e1, e2⟩ := @copySt S (t + 5) (p + 5) (by omega)
  have f1 : ∀ a, (a < t + 5 ∨ t + 8 < a) → q1 a = S a := fun a ha => w_fX6_copyOf e1 (by omega)
  have rp : ∀ a, p ≤ a → a ≤ p + 4 → q1 a = S a := fun a h1 h2 => f1 a (by omega)
  unfold fX8_copyOf
  rw [e1, bnd_s, acp_ok (by omega), acp_ok (by omega), acp_ok (by omega)]
  have p9 : cpy (cpy (cpy q1 (p + 1) 0 (t + 1) 0 8) (p + 2) 0 (t + 2) 0 8) (p + 3) 0 (t + 3) 0 8 p 9 = S p 9 := by
    rw [cpy_row (by omega), cpy_row (by omega), cpy_row (by omega), rp p (by omega) (by omega)]
  rw [p9, acp_ok (by omega)]
  simp only [lt_ok]
  generalize hM : cpy (cpy (cpy (cpy q1 (p + 1) 0 (t + 1) 0 8) (p + 2) 0 (t + 2) 0 8) (p + 3) 0 (t + 3) 0 8) (p + 4) 0 (t + 4) 0 (S p 9) = M
  have mp : M p = S p := by rw [← hM, cpy_row (by omega), cpy_row (by omega), cpy_row (by omega), cpy_row (by omega), rp p (by omega) (by omega)]
  have m1 : ∀ s, s < 8 → M (t + 1) s = S (p + 1) s := fun s hs => by rw [← hM, cpy_row (by omega), cpy_row (by omega), cpy_row (by omega), cpy_at (by omega), rp _ (by omega) (by omega)]
  have m2 : ∀ s, s < 8 → M (t + 2) s = S (p + 2) s := fun s hs => by rw [← hM, cpy_row (by omega), cpy_row (by omega), cpy_at (by omega), cpy_row (by omega), rp _ (by omega) (by omega)]
  have m3 : ∀ s, s < 8 → M (t + 3) s = S (p + 3) s := fun s hs => by rw [← hM, cpy_row (by omega), cpy_at (by omega), cpy_row (by omega), cpy_row (by omega), rp _ (by omega) (by omega)]
  have m4 : ∀ k : Nat, (k : Int) < S p 9 → M (t + 4) k = S (p + 4) k := fun k hk => by rw [← hM, cpy_at hk, cpy_row (by omega), cpy_row (by omega), cpy_row (by omega), rp _ (by omega) (by omega)]
  have m5 : ∀ a, t + 5 ≤ a → a ≤ t + 8 → M a = q1 a := fun a h1 h2 => by rw [← hM, cpy_row (by omega), cpy_row (by omega), cpy_row (by omega), cpy_row (by omega)]
  clear hM p9
  have ne : p ≠ t := by omega
  simp only [up_ne ne, mp]
  refine ⟨_, rfl, fun Q hB hR => ?_, fun Q o hq => ?_⟩
  · obtain ⟨r1, r2, r3, r4, r5⟩ := hR
    have h2 := hB.2.1
    have n1 : t + 1 ≠ t := by omega
    have n2 : t + 2 ≠ t := by omega
    have n3 : t + 3 ≠ t := by omega
    have n4 : t + 4 ≠ t := by omega
    unfold townR
    simp only [up_row n1, up_row n2, up_row n3, up_row n4]
    refine ⟨⟨?_, ?_, ?_, ?_, ?_⟩, fun s hs => ?_, fun k hk => ?_, ?_, ?_⟩
    · simp [up, r1]
    · simp [up, r1]
    · simp [up, r1]
    · simp [up, r1]
    · simp [up, r1]
    · rw [m1 s (by omega), m2 s (by omega), m3 s (by omega)]; exact r2 s hs
    · rw [m4 k (by rw [r1.2.2.2.2]; exact hk)]; exact r3 k hk
    · simpa [up] using r4
    · simpa [up] using r5
  · have n0 : t + 5 ≠ t := by omega
    have n1 : t + 5 + 1 ≠ t := by omega
    have n2 : t + 5 + 2 ≠ t := by omega
    have n3 : t + 5 + 3 ≠ t := by omega
    refine stEq_fr (S := q1) ?_ ?_ ?_ ?_ (e2 Q o hq)
    · simp only [up_row n0]; exact m5 _ (by omega) (by omega)
    · simp only [up_row n1]; exact m5 _ (by omega) (by omega)
    · simp only [up_row n2]; exact m5 _ (by omega) (by omega)
    · simp only [up_row n3]; exact m5 _ (by omega) (by omega)
theorem refs102 : ∀ i, i < 2 → refs 102 i = 112 + 9 * i ∧ sh (112 + 9 * i) = (8, 14) := by decide +kernel
theorem imageAt_ok {S : SS} {i : Int} (h0 : 0 ≤ i) (h2 : i < 2) : fX11_imageAt i S = some (112 + 9 * i.toNat) := by
  unfold fX11_imageAt rdR
  rw [if_neg (by omega), if_neg (by omega), if_pos (by omega), (refs102 i.toNat (by omega)).1]
theorem imageAt_no {S : SS} {i : Int} (h : ¬ (0 ≤ i ∧ i < 2)) : fX11_imageAt i S = some 0 := by
  unfold fX11_imageAt
  by_cases c : i < 0
  · rw [if_pos c]
  · rw [if_neg c, if_pos (by omega)]
theorem image_loop {i : Nat} (hi : i < 2) : ∀ (m n k : Nat) (S : SS), m + k = 1101 → m < n → ∃ S', fX12_image_L20 (i : Int) n k S = some S' ∧ ∀ j, S' 131 j = if 1101 * (i + 1) + k ≤ j ∧ j < 1101 * (i + 1) + 1101 then S 131 (j - 1101 * (i + 1)) else S 131 j := by
  intro m
  induction m with
  | zero =>
    intro n k S hk hn
    obtain ⟨n, rfl⟩ := suc_of hn
    unfold fX12_image_L20
    rw [if_pos (by omega)]
    exact ⟨S, rfl, fun j => by rw [if_neg (by omega)]⟩
  | succ m ih =>
    intro n k S hk hn
    obtain ⟨n, rfl⟩ := suc_of hn
    unfold fX12_image_L20
    have e : (1101 * ((i : Int) + 1) + (k : Int)).toNat = 1101 * (i + 1) + k := by omega
    rw [if_neg (by omega), rdA_ok (by omega) (by omega), w32_eq (x := (i : Int) + 1) (by omega) (by omega), w32_eq (x := 1101 * ((i : Int) + 1)) (by omega) (by omega), w32_eq (x := 1101 * ((i : Int) + 1) + (k : Int)) (by omega) (by omega), wrA_ok (by omega) (by omega), e, Int.toNat_natCast, w32_k (by omega), lt_ok]
    obtain ⟨S', e1, e2⟩ := ih n (k + 1) (up S 131 (1101 * (i + 1) + k) (S 131 k)) (by omega) (by omega)
    refine ⟨S', e1, fun j => ?_⟩
    rw [e2 j, up_at, up_at]
    by_cases c : j = 1101 * (i + 1) + k
    · rw [if_neg (by omega), if_pos c, if_pos (by omega)]; exact congrArg (S 131) (by omega)
    · by_cases c2 : 1101 * (i + 1) + k ≤ j ∧ j < 1101 * (i + 1) + 1101
      · rw [if_pos (by omega), if_neg (by omega), if_pos c2]
      · rw [if_neg (by omega), if_neg c, if_neg c2]
theorem restore_loop {i : Nat} (hi : i < 2) : ∀ (m n k : Nat) (S : SS), m + k = 1101 → m < n → ∃ S', fX12_restore_L32 (i : Int) n k S = some S' ∧ ∀ j, S' 131 j = if k ≤ j ∧ j < 1101 then S 131 (1101 * (i + 1) + j) else S 131 j := by
  intro m
  induction m with
  | zero =>
    intro n k S hk hn
    obtain ⟨n, rfl⟩ := suc_of hn
    unfold fX12_restore_L32
    rw [if_pos (by omega)]
    exact ⟨S, rfl, fun j => by rw [if_neg (by omega)]⟩
  | succ m ih =>
    intro n k S hk hn
    obtain ⟨n, rfl⟩ := suc_of hn
    unfold fX12_restore_L32
    have e : (1101 * ((i : Int) + 1) + (k : Int)).toNat = 1101 * (i + 1) + k := by omega
    rw [if_neg (by omega), w32_eq (x := (i : Int) + 1) (by omega) (by omega), w32_eq (x := 1101 * ((i : Int) + 1)) (by omega) (by omega), w32_eq (x := 1101 * ((i : Int) + 1) + (k : Int)) (by omega) (by omega), rdA_ok (by omega) (by omega), wrA_ok (by omega) (by omega), e, Int.toNat_natCast, w32_k (by omega), lt_ok]
    obtain ⟨S', e1, e2⟩ := ih n (k + 1) (up S 131 k (S 131 (1101 * (i + 1) + k))) (by omega) (by omega)
    refine ⟨S', e1, fun j => ?_⟩
    rw [e2 j, up_at, up_at]
    by_cases c : j = k
    · rw [if_neg (by omega), if_pos c, if_pos (by omega)]; exact congrArg (S 131) (by omega)
    · by_cases c2 : k ≤ j ∧ j < 1101
      · rw [if_pos (by omega), if_neg (by omega), if_pos c2]
      · rw [if_neg (by omega), if_neg c, if_neg c2]
theorem townB_w {Q Q' : Nat → Int} (h : ∀ k, k < 1101 → Q' k = Q k) (hB : townB Q) : townB Q' := by
  obtain ⟨h1, h2, h3, h4, h5, h6, h7, h8⟩ := hB
  have lw : ∀ l b, l ≤ 1 → lawB Q l b → lawB Q' l b := by
    intro l b hl hb
    unfold lawB
    rw [h (4 + l) (by omega), h (6 + l) (by omega), h (8 + l) (by omega), h 200 (by omega)]
    obtain hb | ⟨b1, b2, b3, b4, ty, b5, b6⟩ := hb
    · exact Or.inl hb
    · refine Or.inr ⟨b1, b2, b3, b4, ty, ?_, b6⟩
      have key : ∀ n : Nat, (n : Int) ≤ Q (8 + l) → tyR (codeP Q' l) n = tyR (codeP Q l) n := by
        intro n
        induction n with
        | zero => intro _; rfl
        | succ n ih =>
          intro hn
          show (tyR (codeP Q' l) n).bind _ = (tyR (codeP Q l) n).bind _
          have ec : codeP Q' l n = codeP Q l n := by
            unfold codeP; rw [h (6 + l) (by omega)]; exact h _ (by omega)
          rw [ih (by omega), ec]
      rw [key _ (by omega)]; exact b5
  unfold townB
  rw [h 0 (by omega), h 1 (by omega), h 2 (by omega), h 3 (by omega), h 200 (by omega)]
  refine ⟨h1, h2, h3, h4, h5, fun s hs => ?_, lw 0 false (by omega) h7, lw 1 true (by omega) h8⟩
  rw [h (10 + s) (by omega), h (18 + s) (by omega), h (26 + s) (by omega)]
  exact h6 s hs
theorem townR_w {S : SS} {t : Nat} {Q Q' : Nat → Int} (h : ∀ k, k < 1101 → Q' k = Q k) (hB : townB Q) (hR : townR S t Q) : townR S t Q' := by
  obtain ⟨h1, h2, h3, h4, h5⟩ := hR
  have b2 := hB.2.1
  have b5 := hB.2.2.2.2.1
  unfold townR
  rw [h 0 (by omega), h 1 (by omega), h 2 (by omega), h 3 (by omega), h 4 (by omega), h 5 (by omega), h 6 (by omega), h 7 (by omega), h 8 (by omega), h 9 (by omega), h 200 (by omega)]
  refine ⟨h1, fun s hs => ?_, fun k hk => ?_, h4, h5⟩
  · rw [h (10 + s) (by omega), h (18 + s) (by omega), h (26 + s) (by omega)]
    exact h2 s hs
  · rw [h (201 + k) (by omega)]; exact h3 k hk
theorem stEq_w {S : SS} {r : Nat} {Q Q' : Nat → Int} (h : ∀ k, k < 1101 → Q' k = Q k) (hs : stEq S r Q 34) : stEq S r Q' 34 := by
  refine ⟨fun i hi => ?_, fun i hi => ?_, fun i hi => ?_, ?_⟩
  · rw [h _ (by omega)]; exact hs.1 i hi
  · rw [h _ (by omega)]; exact hs.2.1 i hi
  · rw [h _ (by omega)]; exact hs.2.2.1 i hi
  · rw [h _ (by omega)]; exact hs.2.2.2
theorem stBd_w {Q Q' : Nat → Int} {C : Int} (h : ∀ k, k < 1101 → Q' k = Q k) (hs : stBd Q 34 C) : stBd Q' 34 C := by
  refine ⟨fun i hi => ?_, fun i hi => ?_, fun i hi => ?_, ?_⟩
  · rw [h _ (by omega)]; exact hs.1 i hi
  · rw [h _ (by omega)]; exact hs.2.1 i hi
  · rw [h _ (by omega)]; exact hs.2.2.1 i hi
  · rw [h _ (by omega)]; exact hs.2.2.2
theorem jz_1 : jz 1 = 1 := by decide +kernel
theorem img_bits : ∀ b0 b1 : Bool, jor ((if b0 then 1 else 0) + (if b1 then 2 else 0)) (jshl 1 0) = ((if true then 1 else 0) + (if b1 then 2 else 0)) ∧ jor ((if b0 then 1 else 0) + (if b1 then 2 else 0)) (jshl 1 1) = ((if b0 then 1 else 0) + (if true then 2 else 0))
    ∧ (jand (jshr ((if b0 then 1 else 0) + (if b1 then 2 else 0)) 0) 1 = if b0 then 1 else 0) ∧ (jand (jshr ((if b0 then 1 else 0) + (if b1 then 2 else 0)) 1) 1 = if b1 then 1 else 0) := by decide +kernel
theorem k_image : K_image Inv := by
  intro t ct S hI
  obtain ⟨i0, hC, hS, hH, hT, hTr, hIm⟩ := id hI
  obtain ⟨hR, hB, hL⟩ := id hC
  have h5 := hB.2.2.2.2.1
  by_cases a : 0 ≤ t ∧ t ≤ 1
  · obtain ⟨i, rfl⟩ : ∃ i : Nat, t = i := ⟨t.toNat, by omega⟩
    obtain ⟨S1, e1, e2, e3⟩ := @copyTown S (112 + 9 * i) 2 (by omega) (by rw [hR.1.2.2.2.2]; exact h5.1) (by rw [hR.1.2.2.2.2]; exact h5.2)
    have f1 : ∀ a, (a < 112 + 9 * i ∨ 120 + 9 * i < a) → S1 a = S a := fun a ha => w_fX8_copyOf e1 (by omega)
    have q1 : fX11_image i S = some (0, up S1 1 15 (jor (S 1 15) (jshl 1 i))) := by
      unfold fX11_image
      rw [imageAt_ok (by omega) (by omega), bnd_s, Int.toNat_natCast, if_neg (by omega)]
      unfold gsh
      rw [if_pos (refs102 i (by omega)).2, e1, bnd_s, lt_ok, f1 1 (by omega)]
    obtain ⟨b0, b1, hb, m0, m1⟩ := hIm
    have f2 : ∀ a, a ≠ 1 → up S1 1 15 (jor (S 1 15) (jshl 1 i)) a = S1 a := fun a ha => up_row ha
    have g2 : up S1 1 15 (jor (S 1 15) (jshl 1 i)) 1 15 = jor (S 1 15) (jshl 1 i) := up_self
    generalize up S1 1 15 (jor (S 1 15) (jshl 1 i)) = S2 at q1 f2 g2
    have e131 : S2 131 = S 131 := (f2 131 (by omega)).trans (f1 131 (by omega))
    obtain ⟨S3, l1, l2⟩ := image_loop (i := i) (by omega) 1101 FU 0 S2 (by omega) (by decide)
    have l1' : fX12_image_L20 i FU 0 S2 = some S3 := l1
    have f3 : ∀ a, a ≠ 131 → S3 a = S2 a := fun a ha => w_fX12_image_L20 ha _ _ _ _ l1
    rw [e131] at l2
    have fz : ∀ a, a ≠ 132 → a ≠ 131 → a ≠ 1 → (a < 112 + 9 * i ∨ 120 + 9 * i < a) → up S3 132 i 1 a = S a := fun a h h' h'' h3 => by rw [up_row h, f3 a h', f2 a h'', f1 a h3]
    have r131 : up S3 132 i 1 131 = S3 131 := up_row (by decide)
    have lo : ∀ j, j < 1101 → S3 131 j = S 131 j := fun j hj => by rw [l2, if_neg (by omega)]
    refine ⟨0, S2, up S3 132 i 1, q1, ?_, ?_⟩
    · unfold fX12_image
      rw [lt_ok, up_same (by rw [f2 130 (by omega), f1 130 (by omega)]; exact i0), within_ok, bnd_s, if_pos (decide_eq_true a), l1', bnd_s, wrA_ok (by omega) (by omega), jz_1, Int.toNat_natCast]
    · have e130 := fz 130 (by omega) (by omega) (by omega) (by omega)
      refine ⟨by rw [e130]; exact i0, ⟨?_, ?_, ?_⟩, ⟨?_, ?_⟩, ?_, ?_, ?_, ?_⟩
      · rw [r131]
        exact townR_w lo hB (townR_fr (fz _ (by omega) (by omega) (by omega) (by omega)) (fz _ (by omega) (by omega) (by omega) (by omega)) (fz _ (by omega) (by omega) (by omega) (by omega)) (fz _ (by omega) (by omega) (by omega) (by omega)) (fz _ (by omega) (by omega) (by omega) (by omega)) hR)
      · rw [r131]; exact townB_w lo hB
      · obtain hl | ⟨hl1, hl2⟩ := hL
        · exact Or.inl (by rw [fz 30 (by omega) (by omega) (by omega) (by omega)]; exact hl)
        · refine Or.inr ⟨by rw [fz 30 (by omega) (by omega) (by omega) (by omega)]; exact hl1, ?_⟩
          rw [r131, fz 30 (by omega) (by omega) (by omega) (by omega), fz 33 (by omega) (by omega) (by omega) (by omega), lo 2 (by omega), lo 3 (by omega)]
          intro g s side year k1 k2 k3 k4 k5 k6 k7 k8
          have ey : yearP (S3 131) g s side year (S 30 3) = yearP (S 131) g s side year (S 30 3) := by
            have el : ∀ l, l ≤ 1 → S 131 (4 + l) = 1 → lawP (S3 131) l g s year side (S 30 3) = lawP (S 131) l g s year side (S 30 3) := by
              intro l hl ht
              obtain ⟨w1, w2, w3, _⟩ := law_of hB hl ht
              unfold lawP
              have h2 := hB.2.1
              have ew : wdP (S3 131) g s year side (S 30 3) = wdP (S 131) g s year side (S 30 3) := by
                funext j; unfold wdP; rw [lo (26 + s).toNat (by omega)]
              rw [ew, lo (8 + l) (by omega)]
              have key : ∀ n : Nat, (n : Int) ≤ S 131 (8 + l) → evR (wdP (S 131) g s year side (S 30 3)) (codeP (S3 131) l) n = evR (wdP (S 131) g s year side (S 30 3)) (codeP (S 131) l) n := by
                intro n
                induction n with
                | zero => intro _; rfl
                | succ n ih =>
                  intro hn
                  rw [evR_succ, evR_succ, ih (by omega)]
                  have ec : codeP (S3 131) l n = codeP (S 131) l n := by
                    unfold codeP; rw [lo (6 + l) (by omega)]; exact lo _ (by omega)
                  rw [ec]
              rw [key _ (by omega)]
            have h2 := hB.2.1
            unfold yearP shP
            rw [lo 4 (by omega), lo 5 (by omega), lo (26 + s).toNat (by omega)]
            have c5 : (S 131 5 = 1 ∧ lawP (S3 131) 1 g s year side (S 30 3) = 0) = (S 131 5 = 1 ∧ lawP (S 131) 1 g s year side (S 30 3) = 0) := by
              by_cases c : S 131 5 = 1
              · rw [el 1 (by omega) c]
              · simp [c]
            have c4 : (if S 131 4 = 1 then lawP (S3 131) 0 g s year side (S 30 3) else if side = 1 then - S 131 (26 + s).toNat else S 131 (26 + s).toNat) = (if S 131 4 = 1 then lawP (S 131) 0 g s year side (S 30 3) else if side = 1 then - S 131 (26 + s).toNat else S 131 (26 + s).toNat) := by
              by_cases c : S 131 4 = 1
              · rw [if_pos c, if_pos c, el 0 (by omega) c]
              · rw [if_neg c, if_neg c]
            rw [c4]
            simp only [c5]
          rw [ey]
          exact hl2 g s side year k1 k2 k3 k4 k5 k6 k7 k8
      · rw [r131]
        exact stEq_w lo (stEq_fr (fz _ (by omega) (by omega) (by omega) (by omega)) (fz _ (by omega) (by omega) (by omega) (by omega)) (fz _ (by omega) (by omega) (by omega) (by omega)) (fz _ (by omega) (by omega) (by omega) (by omega)) hS.1)
      · rw [r131, lo 1 (by omega)]; exact stBd_w lo hS.2
      · obtain ⟨⟨n1, n2, n3, n4, n5⟩, hH2⟩ := hH
        have s59 := fz 59 (by omega) (by omega) (by omega) (by omega)
        refine ⟨?_, fun j hj => ?_⟩
        · rw [r131, lo 49 (by omega), s59]; exact ⟨n1, n2, n3, n4, n5⟩
        · rw [r131, lo 49 (by omega)] at hj
          have ek : kAt (up S3 132 i 1) j = kAt S j := by unfold kAt; rw [s59]
          have bi : 61 ≤ kAt S j ∧ kAt S j ≤ 97 := by unfold kAt; omega
          rw [ek, r131, lo 1 (by omega)]
          obtain ⟨g1, g2⟩ := hH2 j hj
          have blk : ∀ k, k < 15 → sft (S3 131) (50 + 15 * j) k = sft (S 131) (50 + 15 * j) k := fun k hk => lo _ (by omega)
          exact ⟨stEq_of (stV_c blk (stV_of (stEq_fr (fz _ (by omega) (by omega) (by omega) (by omega)) (fz _ (by omega) (by omega) (by omega) (by omega)) (fz _ (by omega) (by omega) (by omega) (by omega)) (fz _ (by omega) (by omega) (by omega) (by omega)) g1))), stBd_of (bdV_c blk (bdV_of g2))⟩
      · exact tape_fr (fz _ (by omega) (by omega) (by omega) (by omega)) (fz _ (by omega) (by omega) (by omega) (by omega)) (fz _ (by omega) (by omega) (by omega) (by omega)) (by rw [e130]) (by rw [e130]) (by rw [e130]) hT
      · exact trays_fr (fun a h h' => fz a (by omega) (by omega) (by omega) (by omega)) (fz _ (by omega) (by omega) (by omega) (by omega)) (fz _ (by omega) (by omega) (by omega) (by omega)) (fz _ (by omega) (by omega) (by omega) (by omega)) hTr
      · have s1 : up S3 132 i 1 1 15 = jor (S 1 15) (jshl 1 i) := by rw [up_row (by decide), f3 1 (by decide), g2]
        have nw : imag (up S3 132 i 1) i true := by
          have hi : ∀ k, k < 1101 → sft (S3 131) (1101 * (i + 1)) k = S 131 k := fun k hk => by
            show S3 131 (1101 * (i + 1) + k) = S 131 k
            rw [l2, if_pos (by omega)]; exact congrArg (S 131) (by omega)
          refine Or.inr ⟨rfl, up_self, ?_, ?_, ?_, ?_⟩
          · rw [r131]
            refine townR_w hi hB (townR_fr (S := S1) ?_ ?_ ?_ ?_ ?_ (e2 _ hB hR))
            all_goals rw [up_row (by omega), f3 _ (by omega), f2 _ (by omega)]
          · rw [r131]; exact townB_w hi hB
          · rw [r131]
            refine stEq_w hi (stEq_fr (S := S1) ?_ ?_ ?_ ?_ (by have := e3 _ _ hS.1; rw [show 112 + 9 * i + 5 = 117 + 9 * i by omega] at this; exact this))
            all_goals rw [up_row (by omega), f3 _ (by omega), f2 _ (by omega)]
          · rw [r131]
            have := hi 1 (by omega)
            have t : S3 131 (1101 * (i + 1) + 1) = S 131 1 := this
            rw [t]; exact stBd_w hi hS.2
        have od : ∀ j b, j < 2 → j ≠ i → imag S j b → imag (up S3 132 i 1) j b := by
          intro j b hj hji hm
          have e : sft (up S3 132 i 1 131) (1101 * (j + 1)) = sft (S 131) (1101 * (j + 1)) ∨ ∀ k, k < 1101 → sft (up S3 132 i 1 131) (1101 * (j + 1)) k = sft (S 131) (1101 * (j + 1)) k := by
            right
            intro k hk
            show up S3 132 i 1 131 (1101 * (j + 1) + k) = S 131 (1101 * (j + 1) + k)
            rw [r131, l2, if_neg (by omega)]
          have e' : ∀ k, k < 1101 → sft (up S3 132 i 1 131) (1101 * (j + 1)) k = sft (S 131) (1101 * (j + 1)) k := by
            obtain e | e := e
            · intro k _; rw [e]
            · exact e
          obtain ⟨x1, x2⟩ | ⟨x1, x2, x3, x4, x5, x6⟩ := hm
          · refine Or.inl ⟨x1, ?_⟩
            rw [up_at, if_neg hji, f3 132 (by decide), f2 132 (by decide), f1 132 (by omega)]; exact x2
          · refine Or.inr ⟨x1, ?_, ?_, townB_w e' x4, ?_, ?_⟩
            · rw [up_at, if_neg hji, f3 132 (by decide), f2 132 (by decide), f1 132 (by omega)]; exact x2
            · exact townR_w e' x4 (townR_fr (fz _ (by omega) (by omega) (by omega) (by omega)) (fz _ (by omega) (by omega) (by omega) (by omega)) (fz _ (by omega) (by omega) (by omega) (by omega)) (fz _ (by omega) (by omega) (by omega) (by omega)) (fz _ (by omega) (by omega) (by omega) (by omega)) x3)
            · exact stEq_w e' (stEq_fr (fz _ (by omega) (by omega) (by omega) (by omega)) (fz _ (by omega) (by omega) (by omega) (by omega)) (fz _ (by omega) (by omega) (by omega) (by omega)) (fz _ (by omega) (by omega) (by omega) (by omega)) x5)
            · have := e' 1 (by omega)
              have t : up S3 132 i 1 131 (1101 * (j + 1) + 1) = S 131 (1101 * (j + 1) + 1) := this
              rw [t]; exact stBd_w e' x6
        have ib := img_bits b0 b1
        obtain rfl | rfl : i = 0 ∨ i = 1 := by omega
        · exact ⟨true, b1, by rw [s1, hb]; exact ib.1, nw, od 1 b1 (by omega) (by omega) m1⟩
        · exact ⟨b0, true, by rw [s1, hb]; exact ib.2.1, od 0 b0 (by omega) (by omega) m0, nw⟩
  · refine ⟨-2, S, S, ?_, ?_, hI⟩
    · unfold fX11_image
      rw [imageAt_no (by omega), bnd_s, if_pos rfl]
    · unfold fX12_image
      rw [lt_ok, up_same i0, within_ok, bnd_s, if_neg (by rw [decide_eq_true_eq]; exact a)]
