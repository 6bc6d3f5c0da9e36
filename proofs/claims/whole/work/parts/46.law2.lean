/-! the class's loop over a law's code -/
def voB (h c : Int) (S : SS) : Option (Int × SS) :=
  if 2000 ≤ c then (
    if c = 3015 then (
      if h < 1 then (
        some (h, S)
      ) else (
        rdA S 32 64 (w32 (h - 1)) fun v4 =>
        wrA S 32 64 (w32 (h - 1)) (w32 (1 - v4)) fun S6 =>
        some (h, S6)
      )
    ) else (
      if c = 3010 then (
        if h < 3 then (
          some (h, S)
        ) else (
          rdA S 32 64 (w32 (h - 3)) fun v9 =>
          Option.bind (
            if v9 = 0 then (
              rdA S 32 64 (w32 (h - 1)) fun v12 =>
              some v12
            ) else (
              rdA S 32 64 (w32 (h - 2)) fun v14 =>
              some v14
            )
            : Option (Int)) fun q11 =>
          wrA S 32 64 (w32 (h - 3)) q11 fun S17 =>
          lt (w32 (h + (-2))) fun x19 =>
          some (x19, S17)
        )
      ) else (
        if h < 2 then (
          some (h, S)
        ) else (
          rdA S 32 64 (w32 (h - 2)) fun v21 =>
          rdA S 32 64 (w32 (h - 1)) fun v23 =>
          Option.bind (fX4_joined (w32 (c - 2000)) v21 v23) fun q25 =>
          wrA S 32 64 (w32 (h - 2)) q25 fun S26 =>
          lt (w32 (h + (-1))) fun x28 =>
          some (x28, S26)
        )
      )
    )
  ) else (
    if 64 ≤ h then (
      some (h, S)
    ) else (
      Option.bind (
        if 1000 ≤ c then (
          Option.bind (fX4_meaning c S) fun q33 =>
          some q33
        ) else (
          some c
        )
        : Option (Int)) fun q32 =>
      wrA S 32 64 h q32 fun S35 =>
      lt (w32 (h + 1)) fun x37 =>
      some (x37, S35)
    )
  )
theorem up_pt32 {S : SS} {f : Nat → Int} {j i : Nat} {v : Int} (hi : i ≠ j → S 32 i = f i) : up S 32 j v 32 i = pt f j v i := by
  unfold up pt
  by_cases cc : i = j
  · rw [if_pos ⟨rfl, cc⟩, if_pos cc]
  · rw [if_neg (fun x => cc x.2), if_neg cc]; exact hi cc
theorem vo_bin {wd : Nat → Int} {h : Nat} {f : Nat → Int} {S : SS} {c m j : Int} (ec : c = 2000 + j) (hj : jmRel j m) (c4 : 2 ≤ h) (h40 : h ≤ 40) (p1 : -1000000 ≤ f (h - 2)) (p2 : f (h - 2) ≤ 1000000) (p3 : -1000000 ≤ f (h - 1)) (p4 : f (h - 1) ≤ 1000000) (hs : ∀ i, i < h → S 32 i = f i) : ∃ S', voB (h : Int) c S = some (((evS wd m (h, f)).1 : Int), S') ∧ S' 31 = S 31 ∧ S' 6 = S 6 ∧ ∀ i, i < (evS wd m (h, f)).1 → S' 32 i = (evS wd m (h, f)).2 i := by
  have w1 : w32 ((h : Int) - 1) = ((h - 1 : Nat) : Int) := by rw [w32_eq (by omega) (by omega)]; omega
  have w2 : w32 ((h : Int) - 2) = ((h - 2 : Nat) : Int) := by rw [w32_eq (by omega) (by omega)]; omega
  have w3 : w32 ((h : Int) + (-1)) = ((h - 1 : Nat) : Int) := by rw [w32_eq (by omega) (by omega)]; omega
  have hm : 3000 ≤ m ∧ m < 3009 ∧ m ≠ 3006 ∧ j ≠ 1015 ∧ j ≠ 1010 ∧ 0 ≤ j ∧ j < 1100 := by unfold jmRel at hj; omega
  have w4 : w32 (c - 2000) = j := by rw [w32_eq (by omega) (by omega)]; omega
  have ee : evS wd m (h, f) = (h - 1, pt f (h - 2) (btw m (f (h - 2)) (f (h - 1)))) := by
    unfold evS; rw [if_neg (by omega), if_neg (by omega), if_neg (by omega)]
  unfold voB
  rw [ee, if_pos (by omega), if_neg (by omega), if_neg (by omega), if_neg (by omega), w1, w2, w3, w4, rdA_ok (by omega) (by omega), rdA_ok (by omega) (by omega), Int.toNat_natCast, Int.toNat_natCast, hs _ (by omega), hs _ (by omega), joined_ok hj p1 p2 p3 p4, bnd_s, wrA_ok (by omega) (by omega), Int.toNat_natCast, lt_ok]
  exact ⟨_, rfl, up_row (by decide), up_row (by decide), fun i hi => up_pt32 (fun _ => hs i (by simp only at hi; omega))⟩
theorem vo_push {wd : Nat → Int} {h : Nat} {f : Nat → Int} {S : SS} {c m v : Int} (c1 : c < 2000) (c2 : m < 3000) (hv' : (if 1000 ≤ c then (Option.bind (fX4_meaning c S) fun q33 => some q33) else some c : Option Int) = some v) (ev : v = (if m < 1000 then m else wd (m - 1000).toNat)) (c3 : h < 40) (hs : ∀ i, i < h → S 32 i = f i) : ∃ S', voB (h : Int) c S = some (((evS wd m (h, f)).1 : Int), S') ∧ S' 31 = S 31 ∧ S' 6 = S 6 ∧ ∀ i, i < (evS wd m (h, f)).1 → S' 32 i = (evS wd m (h, f)).2 i := by
  have w1 : w32 ((h : Int) + 1) = ((h + 1 : Nat) : Int) := by rw [w32_eq (by omega) (by omega)]; omega
  have ee : evS wd m (h, f) = (h + 1, pt f h v) := by
    unfold evS; rw [if_pos (by omega), ev]
  have n1 : ¬ 2000 ≤ c := by omega
  have n2 : ¬ (64 : Int) ≤ h := by omega
  have n3 : (0 : Int) ≤ h := by omega
  have n4 : (h : Int) < 64 := by omega
  unfold voB
  rw [ee, if_neg n1, if_neg n2, hv', bnd_s, wrA_ok n3 n4, Int.toNat_natCast, lt_ok, w1]
  exact ⟨_, rfl, up_row (by decide), up_row (by decide), fun i hi => up_pt32 (fun c => hs i (by simp only at hi; omega))⟩
theorem vo_not {wd : Nat → Int} {h : Nat} {f : Nat → Int} {S : SS} (a : 1 ≤ h) (h40 : h ≤ 40) (hb : f (h - 1) = 0 ∨ f (h - 1) = 1) (hs : ∀ i, i < h → S 32 i = f i) : ∃ S', voB (h : Int) 3015 S = some (((evS wd 3006 (h, f)).1 : Int), S') ∧ S' 31 = S 31 ∧ S' 6 = S 6 ∧ ∀ i, i < (evS wd 3006 (h, f)).1 → S' 32 i = (evS wd 3006 (h, f)).2 i := by
  have w1 : w32 ((h : Int) - 1) = ((h - 1 : Nat) : Int) := by rw [w32_eq (by omega) (by omega)]; omega
  have ee : evS wd 3006 (h, f) = (h, pt f (h - 1) (1 - f (h - 1))) := by
    unfold evS; rw [if_neg (by omega), if_pos rfl]
  unfold voB
  rw [ee, if_pos (by omega), if_pos rfl, if_neg (by omega), w1, rdA_ok (by omega) (by omega), Int.toNat_natCast, hs _ (by omega), wrA_ok (by omega) (by omega), Int.toNat_natCast, w32_eq (by omega) (by omega)]
  exact ⟨_, rfl, up_row (by decide), up_row (by decide), fun i hi => up_pt32 (fun _ => hs i (by simp only at hi; omega))⟩
theorem vo_if {wd : Nat → Int} {h : Nat} {f : Nat → Int} {S : SS} (a : 3 ≤ h) (h40 : h ≤ 40) (hb : f (h - 3) = 0 ∨ f (h - 3) = 1) (hs : ∀ i, i < h → S 32 i = f i) : ∃ S', voB (h : Int) 3010 S = some (((evS wd 3009 (h, f)).1 : Int), S') ∧ S' 31 = S 31 ∧ S' 6 = S 6 ∧ ∀ i, i < (evS wd 3009 (h, f)).1 → S' 32 i = (evS wd 3009 (h, f)).2 i := by
  have w1 : w32 ((h : Int) - 1) = ((h - 1 : Nat) : Int) := by rw [w32_eq (by omega) (by omega)]; omega
  have w2 : w32 ((h : Int) - 2) = ((h - 2 : Nat) : Int) := by rw [w32_eq (by omega) (by omega)]; omega
  have w3 : w32 ((h : Int) - 3) = ((h - 3 : Nat) : Int) := by rw [w32_eq (by omega) (by omega)]; omega
  have w4 : w32 ((h : Int) + (-2)) = ((h - 2 : Nat) : Int) := by rw [w32_eq (by omega) (by omega)]; omega
  have ee : evS wd 3009 (h, f) = (h - 2, pt f (h - 3) (if f (h - 3) = 1 then f (h - 2) else f (h - 1))) := by
    unfold evS; rw [if_neg (by omega), if_neg (by omega), if_pos rfl]
  have er : (if f (h - 3) = 0 then (rdA S 32 64 ((h - 1 : Nat) : Int) fun v16 => some v16) else (rdA S 32 64 ((h - 2 : Nat) : Int) fun v18 => some v18) : Option Int) = some (if f (h - 3) = 1 then f (h - 2) else f (h - 1)) := by
    by_cases cc : f (h - 3) = 0
    · rw [if_pos cc, if_neg (by omega), rdA_ok (by omega) (by omega), Int.toNat_natCast, hs _ (by omega)]
    · rw [if_neg cc, if_pos (by omega), rdA_ok (by omega) (by omega), Int.toNat_natCast, hs _ (by omega)]
  have n0 : ¬ ((h : Int) < 3) := by omega
  have n1 : (0 : Int) ≤ ((h - 3 : Nat) : Int) ∧ ((h - 3 : Nat) : Int) < 64 := by omega
  have n2 : h - 3 < h := by omega
  unfold voB
  rw [ee, if_pos (by decide), if_neg (by decide), if_pos rfl, if_neg n0, w1, w2, w3, w4, rdA_ok n1.1 n1.2, Int.toNat_natCast, hs _ n2, er, bnd_s, wrA_ok n1.1 n1.2, Int.toNat_natCast, lt_ok]
  exact ⟨_, rfl, up_row (by decide), up_row (by decide), fun i hi => up_pt32 (fun _ => hs i (by simp only at hi; omega))⟩
theorem vo_step {wd : Nat → Int} {h : Nat} {f : Nat → Int} {S : SS} {c m : Int} {ty : Nat → Bool} {q1 : Nat × (Nat → Bool)} (hc : codeRel c m) (ht : tyS m (h, ty) = some q1) (hv : ∀ i, i < h → okV (ty i) (f i)) (h40 : h ≤ 40)
    (hw0 : S 31 1 = wd 0) (hw1 : S 31 2 = wd 1) (hw2 : S 31 3 = wd 2) (hw3 : S 31 4 = wd 3) (hw4 : S 31 5 = wd 4) (hw5 : S 31 6 = wd 5) (hs : ∀ i, i < h → S 32 i = f i) : ∃ S', voB (h : Int) c S = some (((evS wd m (h, f)).1 : Int), S') ∧ S' 31 = S 31 ∧ S' 6 = S 6 ∧ ∀ i, i < (evS wd m (h, f)).1 → S' 32 i = (evS wd m (h, f)).2 i := by
  have T := tyS_cases ht
  simp only at T
  have num : 3000 ≤ m → m < 3006 → 2 ≤ h ∧ (-1000000 ≤ f (h - 2) ∧ f (h - 2) ≤ 1000000) ∧ (-1000000 ≤ f (h - 1) ∧ f (h - 1) ≤ 1000000) := by
    intro m0 m1
    obtain ⟨a1, a2, a3, _⟩ | ⟨a1, a2, a3, a4, a5, _⟩ | ⟨a1, a2, a3, a4, a5, _⟩ | ⟨a1, a3, a4, _⟩ | ⟨a1, a2, a3, a4, a5, _⟩ | ⟨a1, a3, a4, a5, a6, _⟩ := T
    · omega
    · have x := hv (h - 2) (by omega); have y := hv (h - 1) (by omega); rw [a5] at x; rw [a4] at y; exact ⟨by omega, x.2 rfl, y.2 rfl⟩
    · have x := hv (h - 2) (by omega); have y := hv (h - 1) (by omega); rw [a5] at x; rw [a4] at y; exact ⟨by omega, x.2 rfl, y.2 rfl⟩
    · omega
    · omega
    · omega
  have tru : 3007 ≤ m → m < 3009 → 2 ≤ h ∧ (-1000000 ≤ f (h - 2) ∧ f (h - 2) ≤ 1000000) ∧ (-1000000 ≤ f (h - 1) ∧ f (h - 1) ≤ 1000000) := by
    intro m0 m1
    obtain ⟨a1, a2, a3, _⟩ | ⟨a1, a2, a3, a4, a5, _⟩ | ⟨a1, a2, a3, a4, a5, _⟩ | ⟨a1, a3, a4, _⟩ | ⟨a1, a2, a3, a4, a5, _⟩ | ⟨a1, a3, a4, a5, a6, _⟩ := T
    · omega
    · omega
    · omega
    · omega
    · have x := hv (h - 2) (by omega); have y := hv (h - 1) (by omega); rw [a5] at x; rw [a4] at y; have := x.1 rfl; have := y.1 rfl; omega
    · omega
  have sm : m < 3000 → h < 40 := by
    intro m0
    obtain ⟨a1, a2, a3, _⟩ | ⟨a1, a2, a3, a4, a5, _⟩ | ⟨a1, a2, a3, a4, a5, _⟩ | ⟨a1, a3, a4, _⟩ | ⟨a1, a2, a3, a4, a5, _⟩ | ⟨a1, a3, a4, a5, a6, _⟩ := T <;> omega
  have nt : m = 3006 → 1 ≤ h ∧ (f (h - 1) = 0 ∨ f (h - 1) = 1) := by
    intro m0
    obtain ⟨a1, a2, a3, _⟩ | ⟨a1, a2, a3, a4, a5, _⟩ | ⟨a1, a2, a3, a4, a5, _⟩ | ⟨a1, a3, a4, _⟩ | ⟨a1, a2, a3, a4, a5, _⟩ | ⟨a1, a3, a4, a5, a6, _⟩ := T
    · omega
    · omega
    · omega
    · have y := hv (h - 1) (by omega); rw [a4] at y; exact ⟨a3, y.1 rfl⟩
    · omega
    · omega
  have fi : m = 3009 → 3 ≤ h ∧ (f (h - 3) = 0 ∨ f (h - 3) = 1) := by
    intro m0
    obtain ⟨a1, a2, a3, _⟩ | ⟨a1, a2, a3, a4, a5, _⟩ | ⟨a1, a2, a3, a4, a5, _⟩ | ⟨a1, a3, a4, _⟩ | ⟨a1, a2, a3, a4, a5, _⟩ | ⟨a1, a3, a4, a5, a6, _⟩ := T
    · omega
    · omega
    · omega
    · omega
    · omega
    · have y := hv (h - 3) (by omega); rw [a6] at y; exact ⟨a3, y.1 rfl⟩
  clear T ht hv
  obtain ⟨k1, k2, rfl⟩ | ⟨rfl, rfl⟩ | ⟨rfl, rfl⟩ | ⟨rfl, rfl⟩ | ⟨rfl, rfl⟩ | ⟨rfl, rfl⟩ | ⟨rfl, rfl⟩ | ⟨rfl, rfl⟩ | ⟨rfl, rfl⟩ | ⟨rfl, rfl⟩ | ⟨rfl, rfl⟩ | ⟨rfl, rfl⟩ | ⟨rfl, rfl⟩ | ⟨rfl, rfl⟩ | ⟨rfl, rfl⟩ | ⟨rfl, rfl⟩ | ⟨rfl, rfl⟩ := hc
  · exact vo_push (v := m) (by omega) (by omega) (by rw [if_neg (by omega)]) (by rw [if_pos (by omega)]) (sm (by omega)) hs
  · exact vo_push (v := wd 0) (by decide) (by decide) (by rw [← hw0]; rfl) rfl (sm (by decide)) hs
  · exact vo_push (v := wd 1) (by decide) (by decide) (by rw [← hw1]; rfl) rfl (sm (by decide)) hs
  · exact vo_push (v := wd 2) (by decide) (by decide) (by rw [← hw2]; rfl) rfl (sm (by decide)) hs
  · exact vo_push (v := wd 3) (by decide) (by decide) (by rw [← hw3]; rfl) rfl (sm (by decide)) hs
  · exact vo_push (v := wd 4) (by decide) (by decide) (by rw [← hw4]; rfl) rfl (sm (by decide)) hs
  · exact vo_push (v := wd 5) (by decide) (by decide) (by rw [← hw5]; rfl) rfl (sm (by decide)) hs
  · obtain ⟨n1, ⟨n2, n3⟩, n4, n5⟩ := num (by decide) (by decide)
    exact vo_bin (j := 43) (by decide) (by unfold jmRel; decide) n1 h40 n2 n3 n4 n5 hs
  · obtain ⟨n1, ⟨n2, n3⟩, n4, n5⟩ := num (by decide) (by decide)
    exact vo_bin (j := 45) (by decide) (by unfold jmRel; decide) n1 h40 n2 n3 n4 n5 hs
  · obtain ⟨n1, ⟨n2, n3⟩, n4, n5⟩ := num (by decide) (by decide)
    exact vo_bin (j := 42) (by decide) (by unfold jmRel; decide) n1 h40 n2 n3 n4 n5 hs
  · obtain ⟨n1, ⟨n2, n3⟩, n4, n5⟩ := num (by decide) (by decide)
    exact vo_bin (j := 61) (by decide) (by unfold jmRel; decide) n1 h40 n2 n3 n4 n5 hs
  · obtain ⟨n1, ⟨n2, n3⟩, n4, n5⟩ := num (by decide) (by decide)
    exact vo_bin (j := 60) (by decide) (by unfold jmRel; decide) n1 h40 n2 n3 n4 n5 hs
  · obtain ⟨n1, ⟨n2, n3⟩, n4, n5⟩ := num (by decide) (by decide)
    exact vo_bin (j := 62) (by decide) (by unfold jmRel; decide) n1 h40 n2 n3 n4 n5 hs
  · obtain ⟨n1, n2⟩ := nt rfl
    exact vo_not n1 h40 n2 hs
  · obtain ⟨n1, ⟨n2, n3⟩, n4, n5⟩ := tru (by decide) (by decide)
    exact vo_bin (j := 1016) (by decide) (by unfold jmRel; decide) n1 h40 n2 n3 n4 n5 hs
  · obtain ⟨n1, ⟨n2, n3⟩, n4, n5⟩ := tru (by decide) (by decide)
    exact vo_bin (j := 1017) (by decide) (by unfold jmRel; decide) n1 h40 n2 n3 n4 n5 hs
  · obtain ⟨n1, n2⟩ := fi rfl
    exact vo_if n1 h40 n2 hs
theorem ty_40 {code : Nat → Int} : ∀ k q, tyR code k = some q → q.1 ≤ 40 := by
  intro k
  induction k with
  | zero => intro q h; cases h; exact Nat.zero_le _
  | succ k ih =>
    intro q h
    obtain ⟨q0, t0, ts⟩ := tyR_pre h
    have := ih _ t0
    obtain ⟨_, _, _, rfl⟩ | ⟨_, _, _, _, _, rfl⟩ | ⟨_, _, _, _, _, rfl⟩ | ⟨_, _, _, rfl⟩ | ⟨_, _, _, _, _, rfl⟩ | ⟨_, _, _, _, _, rfl⟩ := tyS_cases ts <;> first | omega | (simp only; omega)
theorem vo_loop {R wd K : Nat → Int} {l : Nat} {ty : Nat → Bool} (h0 : 0 ≤ R (6 + l)) (h1 : 1 ≤ R (8 + l)) (h2 : R (6 + l) + R (8 + l) ≤ R 200) (h3 : R 200 ≤ 900)
    (hT : tyR (codeP R l) (R (8 + l)).toNat = some (1, ty)) (hw : ∀ j, j < 6 → -1000000 ≤ wd j ∧ wd j ≤ 1000000) (hK : ∀ k : Nat, (k : Int) < R 200 → codeRel (K k) (R (201 + k))) :
    ∀ (m n k : Nat) (S : SS), m + k = (R (8 + l)).toNat → m < n → S 6 = K → (S 31 1 = wd 0 ∧ S 31 2 = wd 1 ∧ S 31 3 = wd 2 ∧ S 31 4 = wd 3 ∧ S 31 5 = wd 4 ∧ S 31 6 = wd 5) → (∀ i, i < (evR wd (codeP R l) k).1 → S 32 i = (evR wd (codeP R l) k).2 i) →
    ∃ S', fX4_valueOf_900_L6 6 (R (6 + l) + R (8 + l)) n ((evR wd (codeP R l) k).1 : Int) (R (6 + l) + k) S = some (1, S') ∧ S' 32 0 = (evR wd (codeP R l) (R (8 + l)).toNat).2 0 := by
  intro m
  induction m with
  | zero =>
    intro n k S hk hn h6 h31 hs
    obtain ⟨n, rfl⟩ : ∃ n', n = n' + 1 := ⟨n - 1, by omega⟩
    have ek : k = (R (8 + l)).toNat := by omega
    have e1 : (evR wd (codeP R l) k).1 = 1 := by rw [ek, (ev_ok hw _ _ hT).1]
    unfold fX4_valueOf_900_L6
    rw [if_pos (by omega), e1]
    refine ⟨_, rfl, ?_⟩
    rw [← ek]
    exact hs 0 (by omega)
  | succ m ih =>
    intro n k S hk hn h6 h31 hs
    obtain ⟨n, rfl⟩ : ∃ n', n = n' + 1 := ⟨n - 1, by omega⟩
    have hT' : tyR (codeP R l) (k + 1 + m) = some (1, ty) := by
      have e : k + 1 + m = (R (8 + l)).toNat := by omega
      rw [e]
      exact hT
    obtain ⟨q1, t1⟩ := tyR_le (d := m) (n := k + 1) hT'
    obtain ⟨⟨h0', ty0⟩, t0, ts⟩ := tyR_pre t1
    obtain ⟨e1, e2⟩ := ev_ok hw _ _ t0
    simp only at e1 e2
    subst e1
    have hc := hK ((R (6 + l)).toNat + k) (by omega)
    rw [show R (201 + ((R (6 + l)).toNat + k)) = codeP R l k from congrArg R (by omega)] at hc
    have ek : (R (6 + l) + (k : Int)).toNat = (R (6 + l)).toNat + k := by omega
    have wk1 : w32 (R (6 + l) + (k : Int) + 1) = R (6 + l) + ((k + 1 : Nat) : Int) := by rw [w32_eq (by omega) (by omega)]; omega
    have k1 : m + (k + 1) = (R (8 + l)).toNat := by omega
    have k2 : m < n := by omega
    unfold fX4_valueOf_900_L6
    rw [if_neg (by omega), if_neg (by omega), if_neg (by omega), rdA_ok (by omega) (by omega), h6, ek]
    obtain ⟨S', b1, b2, b3, b4⟩ := vo_step (f := (evR wd (codeP R l) k).2) (S := S) hc ts e2 (ty_40 _ _ t0) h31.1 h31.2.1 h31.2.2.1 h31.2.2.2.1 h31.2.2.2.2.1 h31.2.2.2.2.2 hs
    unfold voB at b1
    rw [b1, bnd_s, lt_ok, wk1]
    exact ih n (k + 1) S' k1 k2 (b3.trans h6) (by rw [b2]; exact h31) b4
