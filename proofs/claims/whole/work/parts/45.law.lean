/-! the reference's loop over a law's code -/
theorem evR_succ {wd code : Nat → Int} {n : Nat} : evR wd code (n + 1) = evS wd (code n) ((evR wd code n).1, (evR wd code n).2) := rfl
theorem rk_step {wd : Nat → Int} {h : Nat} {f : Nat → Int} {S : SS} {c : Int} {ty : Nat → Bool} {q1 : Nat × (Nat → Bool)} (ht : tyS c (h, ty) = some q1) (h900 : h < 900) (hv : ∀ i, i < h → okV (ty i) (f i))
    (hw : ∀ j, j < 6 → S 136 j = wd j) (hs : ∀ i, i < h → S 135 i = f i) : ∃ S', (if 3000 ≤ c then (
          if c = 3006 then (
            rdA S 135 900 (w32 ((h : Int) - 1)) fun v8 =>
            wrA S 135 900 (w32 ((h : Int) - 1)) (w32 (1 - v8)) fun S10 =>
            some ((h : Int), S10)
          ) else (
            if c = 3009 then (
              lt (w32 ((h : Int) + (-2))) fun x12 =>
              rdA S 135 900 (w32 (x12 - 1)) fun v13 =>
              Option.bind (
                if v13 = 1 then (
                  rdA S 135 900 x12 fun v16 =>
                  some v16
                ) else (
                  rdA S 135 900 (w32 (x12 + 1)) fun v18 =>
                  some v18
                )
                : Option (Int)) fun q15 =>
              wrA S 135 900 (w32 (x12 - 1)) q15 fun S21 =>
              some (x12, S21)
            ) else (
              lt (w32 ((h : Int) + (-1))) fun x23 =>
              rdA S 135 900 (w32 (x23 - 1)) fun v24 =>
              rdA S 135 900 x23 fun v26 =>
              Option.bind (fX12_between c v24 v26) fun q28 =>
              wrA S 135 900 (w32 (x23 - 1)) q28 fun S29 =>
              some (x23, S29)
            )
          )
        ) else (
          Option.bind (
            if 1000 ≤ c then (
              rdA S 136 6 (w32 (c - 1000)) fun v34 =>
              some v34
            ) else (
              some c
            )
            : Option (Int)) fun q33 =>
          wrA S 135 900 (h : Int) q33 fun S37 =>
          lt (w32 ((h : Int) + 1)) fun x39 =>
          some (x39, S37)
        )
        : Option (Int × SS)) = some (((evS wd c (h, f)).1 : Int), S') ∧ S' 131 = S 131 ∧ S' 136 = S 136 ∧ ∀ i, i < (evS wd c (h, f)).1 → S' 135 i = (evS wd c (h, f)).2 i := by
  have tyC := tyS_cases ht
  simp only at tyC
  have up_pt : ∀ (j i : Nat) (v w : Int), v = w → (i ≠ j → S 135 i = f i) → up S 135 j v 135 i = pt f j w i := by
    intro j i v w e hi
    unfold up pt
    by_cases cc : i = j
    · rw [if_pos ⟨rfl, cc⟩, if_pos cc, e]
    · rw [if_neg (fun x => cc x.2), if_neg cc]; exact hi cc
  have bin : 3000 ≤ c → c < 3009 → c ≠ 3006 → 2 ≤ h → (okV (ty (h - 2)) (f (h - 2)) → okV (ty (h - 1)) (f (h - 1)) → (-1000000 ≤ f (h - 2) ∧ f (h - 2) ≤ 1000000) ∧ (-1000000 ≤ f (h - 1) ∧ f (h - 1) ≤ 1000000)) → ∃ S', (if 3000 ≤ c then (
          if c = 3006 then (
            rdA S 135 900 (w32 ((h : Int) - 1)) fun v8 =>
            wrA S 135 900 (w32 ((h : Int) - 1)) (w32 (1 - v8)) fun S10 =>
            some ((h : Int), S10)
          ) else (
            if c = 3009 then (
              lt (w32 ((h : Int) + (-2))) fun x12 =>
              rdA S 135 900 (w32 (x12 - 1)) fun v13 =>
              Option.bind (
                if v13 = 1 then (
                  rdA S 135 900 x12 fun v16 =>
                  some v16
                ) else (
                  rdA S 135 900 (w32 (x12 + 1)) fun v18 =>
                  some v18
                )
                : Option (Int)) fun q15 =>
              wrA S 135 900 (w32 (x12 - 1)) q15 fun S21 =>
              some (x12, S21)
            ) else (
              lt (w32 ((h : Int) + (-1))) fun x23 =>
              rdA S 135 900 (w32 (x23 - 1)) fun v24 =>
              rdA S 135 900 x23 fun v26 =>
              Option.bind (fX12_between c v24 v26) fun q28 =>
              wrA S 135 900 (w32 (x23 - 1)) q28 fun S29 =>
              some (x23, S29)
            )
          )
        ) else (
          Option.bind (
            if 1000 ≤ c then (
              rdA S 136 6 (w32 (c - 1000)) fun v34 =>
              some v34
            ) else (
              some c
            )
            : Option (Int)) fun q33 =>
          wrA S 135 900 (h : Int) q33 fun S37 =>
          lt (w32 ((h : Int) + 1)) fun x39 =>
          some (x39, S37)
        )
        : Option (Int × SS)) = some (((evS wd c (h, f)).1 : Int), S') ∧ S' 131 = S 131 ∧ S' 136 = S 136 ∧ ∀ i, i < (evS wd c (h, f)).1 → S' 135 i = (evS wd c (h, f)).2 i := by
    intro c1 c2 c3 c4 c5
    obtain ⟨⟨p1, p2⟩, p3, p4⟩ := c5 (hv _ (by omega)) (hv _ (by omega))
    have w1 : w32 ((h : Int) + (-1)) = ((h - 1 : Nat) : Int) := by rw [w32_eq (by omega) (by omega)]; omega
    have w2 : w32 (((h - 1 : Nat) : Int) - 1) = ((h - 2 : Nat) : Int) := by rw [w32_eq (by omega) (by omega)]; omega
    have ee : evS wd c (h, f) = (h - 1, pt f (h - 2) (btw c (f (h - 2)) (f (h - 1)))) := by
      unfold evS; rw [if_neg (by omega), if_neg c3, if_neg (by omega)]
    rw [ee, if_pos c1, if_neg c3, if_neg (by omega), lt_ok, w1, w2, rdA_ok (by omega) (by omega), rdA_ok (by omega) (by omega), Int.toNat_natCast, Int.toNat_natCast, hs _ (by omega), hs _ (by omega), between_ok ⟨c1, c2, c3⟩ p1 p2 p3 p4, bnd_s, wrA_ok (by omega) (by omega), Int.toNat_natCast]
    exact ⟨_, rfl, up_row (by decide), up_row (by decide), fun i hi => up_pt _ _ _ _ rfl (fun _ => hs i (by simp only at hi; omega))⟩
  obtain ⟨a1, a2, a3, rfl⟩ | ⟨a1, a2, a3, a4, a5, rfl⟩ | ⟨a1, a2, a3, a4, a5, rfl⟩ | ⟨rfl, a3, a4, rfl⟩ | ⟨a1, a2, a3, a4, a5, rfl⟩ | ⟨rfl, a3, a4, a5, a6, rfl⟩ := tyC
  · have w1 : w32 ((h : Int) + 1) = ((h + 1 : Nat) : Int) := by rw [w32_eq (by omega) (by omega)]; omega
    have ee : evS wd c (h, f) = (h + 1, pt f h (if c < 1000 then c else wd (c - 1000).toNat)) := by
      unfold evS; rw [if_pos (by omega)]
    have er : (if 1000 ≤ c then (rdA S 136 6 (w32 (c - 1000)) fun v34 => some v34) else some c : Option Int) = some (if c < 1000 then c else wd (c - 1000).toNat) := by
      by_cases cc : c < 1000
      · rw [if_neg (by omega), if_pos cc]
      · rw [if_pos (by omega), if_neg cc, w32_eq (by omega) (by omega), rdA_ok (by omega) (by omega), hw _ (by omega)]
    rw [ee, if_neg (by omega), er, bnd_s, wrA_ok (by omega) (by omega), Int.toNat_natCast, lt_ok, w1]
    refine ⟨_, rfl, up_row (by decide), up_row (by decide), fun i hi => up_pt _ _ _ _ rfl (fun c => hs i (by simp only at hi; omega))⟩
  · exact bin a1 (by omega) (by omega) (by omega) (fun x y => by rw [a5] at x; rw [a4] at y; exact ⟨x.2 rfl, y.2 rfl⟩)
  · exact bin (by omega) (by omega) (by omega) (by omega) (fun x y => by rw [a5] at x; rw [a4] at y; exact ⟨x.2 rfl, y.2 rfl⟩)
  · have w1 : w32 ((h : Int) - 1) = ((h - 1 : Nat) : Int) := by rw [w32_eq (by omega) (by omega)]; omega
    have ee : evS wd 3006 (h, f) = (h, pt f (h - 1) (1 - f (h - 1))) := by
      unfold evS; rw [if_neg (by omega), if_pos rfl]
    have hb := hv (h - 1) (by omega)
    rw [a4] at hb
    have hb := hb.1 rfl
    rw [ee, if_pos (by omega), if_pos rfl, w1, rdA_ok (by omega) (by omega), Int.toNat_natCast, hs _ (by omega), wrA_ok (by omega) (by omega), Int.toNat_natCast, w32_eq (by omega) (by omega)]
    exact ⟨_, rfl, up_row (by decide), up_row (by decide), fun i hi => up_pt _ _ _ _ rfl (fun _ => hs i (by simp only at hi; omega))⟩
  · exact bin (by omega) (by omega) (by omega) (by omega) (fun x y => by rw [a5] at x; rw [a4] at y; have := x.1 rfl; have := y.1 rfl; omega)
  · have w1 : w32 ((h : Int) + (-2)) = ((h - 2 : Nat) : Int) := by rw [w32_eq (by omega) (by omega)]; omega
    have w2 : w32 (((h - 2 : Nat) : Int) - 1) = ((h - 3 : Nat) : Int) := by rw [w32_eq (by omega) (by omega)]; omega
    have w3 : w32 (((h - 2 : Nat) : Int) + 1) = ((h - 1 : Nat) : Int) := by rw [w32_eq (by omega) (by omega)]; omega
    have ee : evS wd 3009 (h, f) = (h - 2, pt f (h - 3) (if f (h - 3) = 1 then f (h - 2) else f (h - 1))) := by
      unfold evS; rw [if_neg (by omega), if_neg (by omega), if_pos rfl]
    have er : (if f (h - 3) = 1 then (rdA S 135 900 ((h - 2 : Nat) : Int) fun v16 => some v16) else (rdA S 135 900 ((h - 1 : Nat) : Int) fun v18 => some v18) : Option Int) = some (if f (h - 3) = 1 then f (h - 2) else f (h - 1)) := by
      by_cases cc : f (h - 3) = 1
      · rw [if_pos cc, if_pos cc, rdA_ok (by omega) (by omega), Int.toNat_natCast, hs _ (by omega)]
      · rw [if_neg cc, if_neg cc, rdA_ok (by omega) (by omega), Int.toNat_natCast, hs _ (by omega)]
    rw [ee, if_pos (by omega), if_neg (by omega), if_pos rfl, lt_ok, w1, w2, w3, rdA_ok (by omega) (by omega), Int.toNat_natCast, hs _ (by omega), er, bnd_s, wrA_ok (by omega) (by omega), Int.toNat_natCast]
    exact ⟨_, rfl, up_row (by decide), up_row (by decide), fun i hi => up_pt _ _ _ _ rfl (fun _ => hs i (by simp only at hi; omega))⟩
theorem rk_loop {R wd : Nat → Int} {l : Nat} {ty : Nat → Bool} (hl : l ≤ 1) (h0 : 0 ≤ R (6 + l)) (h1 : 1 ≤ R (8 + l)) (h2 : R (6 + l) + R (8 + l) ≤ 900)
    (hT : tyR (codeP R l) (R (8 + l)).toNat = some (1, ty)) (hw : ∀ j, j < 6 → -1000000 ≤ wd j ∧ wd j ≤ 1000000) :
    ∀ (m n k : Nat) (S : SS), m + k = (R (8 + l)).toNat → m < n → S 131 = R → (∀ j, j < 6 → S 136 j = wd j) → (∀ i, i < (evR wd (codeP R l) k).1 → S 135 i = (evR wd (codeP R l) k).2 i) →
    ∃ S', fX12_reckons_L64 (l : Int) n ((evR wd (codeP R l) k).1 : Int) (k : Int) S = some S' ∧ S' 135 0 = (evR wd (codeP R l) (R (8 + l)).toNat).2 0 := by
  have w8 : w32 (8 + (l : Int)) = ((8 + l : Nat) : Int) := by rw [w32_eq (by omega) (by omega)]; omega
  have w6 : w32 (6 + (l : Int)) = ((6 + l : Nat) : Int) := by rw [w32_eq (by omega) (by omega)]; omega
  intro m
  induction m with
  | zero =>
    intro n k S hk hn h131 h136 hs
    obtain ⟨n, rfl⟩ : ∃ n', n = n' + 1 := ⟨n - 1, by omega⟩
    have ek : k = (R (8 + l)).toNat := by omega
    unfold fX12_reckons_L64
    rw [w8, rdA_ok (by omega) (by omega), Int.toNat_natCast, h131, if_pos (by omega)]
    refine ⟨_, rfl, ?_⟩
    rw [← ek]
    refine hs 0 ?_
    rw [ek, (ev_ok hw _ _ hT).1]
    exact Nat.one_pos
  | succ m ih =>
    intro n k S hk hn h131 h136 hs
    obtain ⟨n, rfl⟩ : ∃ n', n = n' + 1 := ⟨n - 1, by omega⟩
    have hT' : tyR (codeP R l) (k + 1 + m) = some (1, ty) := by
      have e : k + 1 + m = (R (8 + l)).toNat := by omega
      rw [e]
      exact hT
    obtain ⟨q1, t1⟩ := tyR_le (d := m) (n := k + 1) hT'
    obtain ⟨⟨h0', ty0⟩, t0, ts⟩ := tyR_pre t1
    obtain ⟨e1, e2⟩ := ev_ok hw _ _ t0
    simp only at e1 e2
    subst e1
    have hq : (evR wd (codeP R l) k).1 ≤ k := by
      have : ∀ k q, tyR (codeP R l) k = some q → q.1 ≤ k := by
        intro k
        induction k with
        | zero => intro q h; cases h; exact Nat.le_refl _
        | succ k ih =>
          intro q h
          obtain ⟨q0, t0, ts⟩ := tyR_pre h
          have := ih _ t0
          obtain ⟨_, _, _, rfl⟩ | ⟨_, _, _, _, _, rfl⟩ | ⟨_, _, _, _, _, rfl⟩ | ⟨_, _, _, rfl⟩ | ⟨_, _, _, _, _, rfl⟩ | ⟨_, _, _, _, _, rfl⟩ := tyS_cases ts <;> first | omega | (simp only; omega)
      exact this _ _ t0
    unfold fX12_reckons_L64
    have wk : w32 (w32 (201 + R (6 + l)) + (k : Int)) = ((201 + (R (6 + l)).toNat + k : Nat) : Int) := by
      rw [w32_eq (x := 201 + R (6 + l)) (by omega) (by omega), w32_eq (by omega) (by omega)]; omega
    rw [w8, rdA_ok (by omega) (by omega), Int.toNat_natCast, h131, if_neg (by omega), w6, rdA_ok (by omega) (by omega), Int.toNat_natCast, h131, wk, rdA_ok (by omega) (by omega), Int.toNat_natCast, h131]
    have k1 : m + (k + 1) = (R (8 + l)).toNat := by omega
    have k2 : m < n := by omega
    obtain ⟨S', b1, b2, b3, b4⟩ := rk_step (f := (evR wd (codeP R l) k).2) (S := S) ts (by omega) e2 h136 hs
    have wk1 : w32 ((k : Int) + 1) = ((k + 1 : Nat) : Int) := by rw [w32_eq (by omega) (by omega)]; omega
    rw [show R (201 + (R (6 + l)).toNat + k) = codeP R l k from rfl, b1, bnd_s, lt_ok, wk1]
    exact ih n (k + 1) S' k1 k2 (b2.trans h131) (fun j hj => (congrFun b3 j).trans (h136 j hj)) b4
