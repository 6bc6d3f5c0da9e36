theorem often_0 {l1 l2 l3 l4 l5 : Int} : ∀ (m n k : Nat) (S : SS), m + k = 20 → m < n → ∃ S', fX12_mostOften_L15 l1 l2 l3 l4 l5 n k S = some S' ∧ ∀ j, j < 20 → S' 146 j = if k ≤ j then 0 else S 146 j := by
  intro m
  induction m with
  | zero =>
    intro n k S hk hn
    obtain ⟨n, rfl⟩ := suc_of hn
    unfold fX12_mostOften_L15
    rw [if_pos (by omega)]
    exact ⟨S, rfl, fun j hj => by rw [if_neg (by omega)]⟩
  | succ m ih =>
    intro n k S hk hn
    obtain ⟨n, rfl⟩ := suc_of hn
    unfold fX12_mostOften_L15
    rw [if_neg (by omega), wrA_ok (by omega) (by omega), Int.toNat_natCast, lt_ok, w32_k (by omega)]
    obtain ⟨S', q1, q2⟩ := ih n (k + 1) (up S 146 k 0) (by omega) (by omega)
    refine ⟨S', q1, fun j hj => ?_⟩
    rw [q2 j hj, up_at]
    by_cases cj : j = k
    · rw [if_neg (by omega), if_pos cj, if_pos (by omega)]
    · by_cases c2 : k ≤ j
      · rw [if_pos (by omega), if_pos c2]
      · rw [if_neg (by omega), if_neg cj, if_neg c2]
theorem often_L {R v : Nat → Int} {g s told l4 : Int} (hB : townB R) (hg : 0 ≤ g ∧ g < R 3) (hs : 0 ≤ s ∧ s < R 2) (hb : bdV v (R 1)) : ∀ (m n k : Nat) (S : SS) (b0 : Int), m + k = 10 → m < n → S 131 = rowV R (setB v b0) → (∀ j, j < 20 → S 146 j = (maS (yrP R v g s) told k).2 j) → ∃ S' b1, fX12_mostOften_L39 g s told l4 n (maS (yrP R v g s) told k).1 k S = some ((maS (yrP R v g s) told 10).1, S') ∧ S' 131 = rowV R (setB v b1) := by
  have h1 := hB.1
  have h2 := hB.2.1
  have h3 := hB.2.2.1
  have yb := hb.2.1 g.toNat (by omega)
  intro m
  induction m with
  | zero =>
    intro n k S b0 hk hn hR h146
    obtain ⟨n, rfl⟩ := suc_of hn
    have ek : k = 10 := by omega
    subst ek
    unfold fX12_mostOften_L39
    rw [if_pos (by omega)]
    exact ⟨S, b0, rfl, hR⟩
  | succ m ih =>
    intro n k S b0 hk hn hR h146
    obtain ⟨n, rfl⟩ := suc_of hn
    have e : maS (yrP R v g s) told (k + 1) = if bit told k = true then (if (maS (yrP R v g s) told k).1 < (maS (yrP R v g s) told k).2 (yrP R v g s k).toNat + 1 then (maS (yrP R v g s) told k).2 (yrP R v g s k).toNat + 1 else (maS (yrP R v g s) told k).1, pt (maS (yrP R v g s) told k).2 (yrP R v g s k).toNat ((maS (yrP R v g s) told k).2 (yrP R v g s k).toNat + 1)) else maS (yrP R v g s) told k := rfl
    have yr := yrP_b (g := g) (s := s) (n := k) hB (by omega) hb
    have mb := (@maS_b (yrP R v g s) told k).2 (yrP R v g s k).toNat
    unfold fX12_mostOften_L39
    rw [if_neg (by omega), isIn_ok (by omega), bnd_s]
    by_cases c : bit told k = true
    · rw [if_pos c] at e
      have fu : ∀ a, a ≠ 131 → up S 131 48 (k : Int) a = S a := fun a ha => up_row ha
      have eu : up S 131 48 (k : Int) 131 = rowV R (setB v k) := by
        have := rowV_setB (n := (k : Int)) hR
        rw [setB2] at this
        exact this
      have bu : bdV (setB v k) (R 1) := bdV_setB (by omega) hb
      have t48 : up S 131 (48 : Int).toNat (k : Int) = up S 131 48 (k : Int) := rfl
      obtain ⟨S1, q1⟩ := whyGo_ok (S := up S 131 48 (k : Int)) (g := g) (s := s) (row_B eu hB) (row_bd eu bu) (by unfold cI; omega) (by unfold cI; omega)
      rw [row_goP eu hB] at q1
      have f1 : ∀ b, (b < 135 ∨ 136 < b) → S1 b = up S 131 48 (k : Int) b := fun b hb => w_fX12_whyGo q1 hb
      have e1 : S1 131 = rowV R (setB v k) := (f1 131 (by omega)).trans eu
      have gb := @goV_b R (setB v k) hB g s
      have st : ∃ S2, (if (if goV R (setB v k) g s < 0 then - goV R (setB v k) g s else 0) = 0 then (Option.bind (fX12_standOf g S1) fun q7 => Option.bind (fX12_goneTo g q7 s S1) fun q8 => some (Int.tmod q8.1 20, q8.2)) else (rdA S1 131 3303 (w32 (37 + g)) fun v9 => some (v9, S1)) : Option (Int × SS)) = some (yrP R v g s k, S2) ∧ ∀ b, (b < 135 ∨ 136 < b) → S2 b = S1 b := by
        unfold yrP
        by_cases d : goV R (setB v k) g s < 0
        · rw [if_pos d, if_neg (by omega), if_neg (c := 0 ≤ goV R (setB v k) g s) (by omega), w32_eq (x := 37 + g) (by omega) (by omega), rdA_ok (by omega) (by omega), e1, show (37 + g).toNat = 34 + (3 + g.toNat) by omega, rowV_at (by omega), setB_lo (by omega)]
          exact ⟨S1, rfl, fun _ _ => rfl⟩
        · have sp := spotP_b (row_bd e1 bu) hg.1 (show g < 3 by omega)
          have ge : aftP (S1 131) g s (spotP (S1 131) g) (S1 131 (40 + s).toNat) (S1 131 48) = goV R (setB v k) g s := by
            rw [← row_goP e1 hB]
            unfold goP
            have r2 : S1 131 2 = R 2 := by rw [e1]; exact rowV_t 2 (by omega)
            have r3 : S1 131 3 = R 3 := by rw [e1]; exact rowV_t 3 (by omega)
            rw [if_pos (by rw [r2, r3]; exact ⟨hg, hs⟩)]
          have r1 : S1 131 1 = R 1 := by rw [e1]; exact rowV_t 1 (by omega)
          have r2 : S1 131 2 = R 2 := by rw [e1]; exact rowV_t 2 (by omega)
          obtain ⟨S2, q2⟩ := goneTo_ok (S := S1) (g := g) (s := s) (at1 := spotP (S1 131) g) (sg := S1 131 (40 + s).toNat) (row_B e1 hB) (by omega) (by rw [r2]; exact hs) (by omega) (row_bd e1 bu).2.2.2 (by rw [ge]; omega)
          rw [ge] at q2
          rw [if_neg d, if_pos rfl, if_pos (c := 0 ≤ goV R (setB v k) g s) (by omega), standOf_ok (row_bd e1 bu) (row_B e1 hB) hg.1 (by omega), bnd_s, q2, bnd_s]
          simp only
          rw [tmod20 (by omega)]
          exact ⟨S2, rfl, fun b hb => w_fX12_goneTo q2 hb⟩
      obtain ⟨S2, z1, z2⟩ := st
      have fz : ∀ b, (b < 131 ∨ (131 < b ∧ b < 135) ∨ 136 < b) → S2 b = S b := fun b hb => ((z2 b (by omega)).trans (f1 b (by omega))).trans (fu b (by omega))
      have s146 : ∀ j, j < 20 → S2 146 j = (maS (yrP R v g s) told k).2 j := fun j hj => by rw [fz 146 (by omega)]; exact h146 j hj
      rw [if_pos c, wrA_ok (by decide) (by decide), t48, q1, bnd_s]
      simp only
      rw [z1, bnd_s]
      simp only
      have em : (if (maS (yrP R v g s) told k).2 (yrP R v g s k).toNat + 1 ≤ (maS (yrP R v g s) told k).1 then some (maS (yrP R v g s) told k).1 else some ((maS (yrP R v g s) told k).2 (yrP R v g s k).toNat + 1) : Option Int) = some (if (maS (yrP R v g s) told k).1 < (maS (yrP R v g s) told k).2 (yrP R v g s k).toNat + 1 then (maS (yrP R v g s) told k).2 (yrP R v g s k).toNat + 1 else (maS (yrP R v g s) told k).1) := by
        by_cases d : (maS (yrP R v g s) told k).1 < (maS (yrP R v g s) told k).2 (yrP R v g s k).toNat + 1
        · rw [if_pos d, if_neg (by omega)]
        · rw [if_neg d, if_pos (by omega)]
      rw [rdA_ok yr.1 (by omega), s146 _ (by omega), wrA_ok yr.1 (by omega), rdA_ok yr.1 (by omega), up_self, w32_eq (x := (maS (yrP R v g s) told k).2 (yrP R v g s k).toNat + 1) (by omega) (by omega), rdA_ok yr.1 (by omega), up_self, em, bnd_s, bnd_s]
      simp only
      rw [lt_ok, w32_k (by omega)]
      have r := ih n (k + 1) (up S2 146 (yrP R v g s k).toNat ((maS (yrP R v g s) told k).2 (yrP R v g s k).toNat + 1)) k (by omega) (by omega) (by rw [up_row (by decide), z2 131 (by omega)]; exact e1)
        (fun j hj => by
          rw [e, up_at]
          simp only
          unfold pt
          by_cases d : j = (yrP R v g s k).toNat
          · rw [if_pos d, if_pos d]
          · rw [if_neg d, if_neg d]; exact s146 j hj)
      rw [e] at r
      exact r
    · rw [if_neg c] at e
      rw [if_neg c, bnd_s, lt_ok, w32_k (by omega)]
      have r := ih n (k + 1) S b0 (by omega) (by omega) hR (by rw [e]; exact h146)
      rw [e] at r
      exact r
theorem mostOften_ok {S : SS} {g s told : Int} (hB : townB (S 131)) (hb : stBd (S 131) 34 (S 131 1)) (hg : 0 ≤ g ∧ g < S 131 3) (hs : 0 ≤ s ∧ s < S 131 2) : ∃ S', fX12_mostOften g s told S = some ((maS (yrP (S 131) (sft (S 131) 34) g s) told 10).1, S') ∧ S' 131 = S 131 ∧ ∀ a, a ≠ 131 ∧ (a < 135 ∨ 136 < a) ∧ a ≠ 146 → S' a = S a := by
  obtain ⟨S1, d1, d2⟩ := often_0 (l1 := g) (l2 := s) (l3 := told) (l4 := S 131 48) (l5 := 0) 20 FU 0 S (by omega) (by decide)
  have d1' : fX12_mostOften_L15 g s told (S 131 48) 0 FU 0 S = some S1 := d1
  have f1 : ∀ a, a ≠ 146 → S1 a = S a := fun a ha => w_fX12_mostOften_L15 ha _ _ _ _ d1
  have r0 : S1 131 = rowV (S 131) (setB (sft (S 131) 34) (sft (S 131) 34 14)) := by rw [setB_14, rowV_self]; exact f1 131 (by decide)
  obtain ⟨S2, b1, q1, q2⟩ := often_L (R := S 131) (v := sft (S 131) 34) (told := told) (l4 := S 131 48) hB hg hs (bdV_of hb) 10 FU 0 S1 _ (by omega) (by decide) r0 (fun j hj => by rw [d2 j hj, if_pos (Nat.zero_le j)]; rfl)
  have q1' : fX12_mostOften_L39 g s told (S 131 48) FU 0 0 S1 = some ((maS (yrP (S 131) (sft (S 131) 34) g s) told 10).1, S2) := q1
  have e131 : up S2 131 48 (S 131 48) 131 = S 131 := by
    have := rowV_setB (n := S 131 48) q2
    rw [setB2] at this
    have z : setB (sft (S 131) 34) (S 131 48) = sft (S 131) 34 := setB_14
    rw [z, rowV_self] at this
    exact this
  have e : fX12_mostOften g s told S = some ((maS (yrP (S 131) (sft (S 131) 34) g s) told 10).1, up S2 131 48 (S 131 48)) := by
    unfold fX12_mostOften
    rw [rdA_ok (by decide) (by decide)]
    have t : S 131 (48 : Int).toNat = S 131 48 := rfl
    rw [t, d1', bnd_s, q1', bnd_s, wrA_ok (by decide) (by decide)]
    rfl
  exact ⟨_, e, e131, fun a ha => w_fX12_mostOften e ha⟩
/-! the least of the streets -/
def lsS (F : Nat → Int) : Nat → Int × Int
  | 0 => (-1, 11)
  | k + 1 => if F k < (lsS F k).2 then ((k : Int), F k) else lsS F k
theorem att_c {R : Nat → Int} {g told : Int} {Z : Nat} (hg : 0 ≤ g ∧ g < R 3) (hZ : R 2 = Z) : ∀ (m n k : Nat) (S : SS), m + k = Z → m < n → Core S → Stand S → S 131 = R → ∃ S', fX11_attempt_L52 g told n (lsS (fun s => (maS (yrP R (sft R 34) g s) told 10).1) k).1 (lsS (fun s => (maS (yrP R (sft R 34) g s) told 10).1) k).2 k S = some ((lsS (fun s => (maS (yrP R (sft R 34) g s) told 10).1) Z).1, S') ∧ lanes S' := by
  intro m
  induction m with
  | zero =>
    intro n k S hk hn hC hS hR
    obtain ⟨n, rfl⟩ := suc_of hn
    have ek : k = Z := by omega
    unfold fX11_attempt_L52
    rw [hC.1.1.2.1, hR, hZ, if_pos (by omega), ek]
    exact ⟨S, rfl, hC.2.2⟩
  | succ m ih =>
    intro n k S hk hn hC hS hR
    obtain ⟨n, rfl⟩ := suc_of hn
    have h8 := hC.2.1.2.1
    rw [hR] at h8
    obtain ⟨S1, q1, q2, f1⟩ := mostAlike_ok (g := g) (s := (k : Int)) (told := told) hC hS (by rw [hR]; exact hg) (by rw [hR]; omega)
    rw [hR] at q1
    have e : (if (lsS (fun s => (maS (yrP R (sft R 34) g s) told 10).1) k).2 ≤ (maS (yrP R (sft R 34) g k) told 10).1 then some ((lsS (fun s => (maS (yrP R (sft R 34) g s) told 10).1) k).1, (lsS (fun s => (maS (yrP R (sft R 34) g s) told 10).1) k).2) else some ((k : Int), (maS (yrP R (sft R 34) g k) told 10).1) : Option (Int × Int)) = some (lsS (fun s => (maS (yrP R (sft R 34) g s) told 10).1) (k + 1)) := by
      show _ = some (if (maS (yrP R (sft R 34) g k) told 10).1 < (lsS (fun s => (maS (yrP R (sft R 34) g s) told 10).1) k).2 then ((k : Int), (maS (yrP R (sft R 34) g k) told 10).1) else lsS (fun s => (maS (yrP R (sft R 34) g s) told 10).1) k)
      by_cases c : (maS (yrP R (sft R 34) g k) told 10).1 < (lsS (fun s => (maS (yrP R (sft R 34) g s) told 10).1) k).2
      · rw [if_pos c, if_neg (by omega)]
      · rw [if_neg c, if_pos (by omega)]
    unfold fX11_attempt_L52
    rw [hC.1.1.2.1, hR, hZ, if_neg (by omega), q1, bnd_s]
    simp only
    rw [e, bnd_s, lt_ok, w32_k (by omega)]
    exact ih n (k + 1) S1 (by omega) (by omega) (core_fr (fun b hb => f1 b (by omega)) q2 hC) (stand_fr (f1 _ (by omega)) (f1 _ (by omega)) (f1 _ (by omega)) (f1 _ (by omega)) (f1 _ (by omega)) hS) ((f1 131 (by omega)).trans hR)
theorem att_m {R : Nat → Int} {g told : Int} {Z : Nat} (hB : townB R) (hb : stBd R 34 (R 1)) (hg : 0 ≤ g ∧ g < R 3) (hZ : R 2 = Z) (ht : told ≠ 0) : ∀ (m n k : Nat) (S : SS) (l : Int), m + k = Z → m < n → S 131 = R → (l = (lsS (fun s => (maS (yrP R (sft R 34) g s) told 10).1) k).2 ∨ (k = 0 ∧ l = 268435456)) → ∃ S', fX12_attempt_L42 g told n (lsS (fun s => (maS (yrP R (sft R 34) g s) told 10).1) k).1 l k S = some ((lsS (fun s => (maS (yrP R (sft R 34) g s) told 10).1) Z).1, S') ∧ S' 131 = R := by
  have h2 := hB.2.1
  intro m
  induction m with
  | zero =>
    intro n k S l hk hn hR hl
    obtain ⟨n, rfl⟩ := suc_of hn
    have ek : k = Z := by omega
    have r2 : S 131 (2 : Int).toNat = Z := by rw [hR]; exact hZ
    unfold fX12_attempt_L42
    rw [rdA_ok (by decide) (by decide), r2, if_pos (by omega), ek]
    exact ⟨S, rfl, hR⟩
  | succ m ih =>
    intro n k S l hk hn hR hl
    obtain ⟨n, rfl⟩ := suc_of hn
    have r2 : S 131 (2 : Int).toNat = Z := by rw [hR]; exact hZ
    obtain ⟨S1, q1, q2, f1⟩ := mostOften_ok (S := S) (g := g) (s := (k : Int)) (told := told) (by rw [hR]; exact hB) (by rw [hR]; exact hb) (by rw [hR]; exact hg) (by rw [hR]; omega)
    rw [hR] at q1 q2
    have mb := (@maS_b (yrP R (sft R 34) g k) told 10).1
    have e : (if (maS (yrP R (sft R 34) g k) told 10).1 < l then some ((k : Int), (maS (yrP R (sft R 34) g k) told 10).1) else some ((lsS (fun s => (maS (yrP R (sft R 34) g s) told 10).1) k).1, l) : Option (Int × Int)) = some (lsS (fun s => (maS (yrP R (sft R 34) g s) told 10).1) (k + 1)) := by
      show _ = some (if (maS (yrP R (sft R 34) g k) told 10).1 < (lsS (fun s => (maS (yrP R (sft R 34) g s) told 10).1) k).2 then ((k : Int), (maS (yrP R (sft R 34) g k) told 10).1) else lsS (fun s => (maS (yrP R (sft R 34) g s) told 10).1) k)
      obtain hl | ⟨hk0, hl⟩ := hl
      · rw [hl]
        by_cases c : (maS (yrP R (sft R 34) g k) told 10).1 < (lsS (fun s => (maS (yrP R (sft R 34) g s) told 10).1) k).2
        · rw [if_pos c, if_pos c]
        · rw [if_neg c, if_neg c]
      · have z : (lsS (fun s => (maS (yrP R (sft R 34) g s) told 10).1) k).2 = 11 := by rw [hk0]; rfl
        rw [if_pos (by omega), if_pos (by omega)]
    unfold fX12_attempt_L42
    rw [rdA_ok (by decide) (by decide), r2, if_neg (by omega), if_neg ht, q1, bnd_s]
    simp only
    rw [e, bnd_s, lt_ok, w32_k (by omega)]
    exact ih n (k + 1) S1 _ (by omega) (by omega) q2 (Or.inl rfl)
theorem k_attempt : K_attempt Inv := by
  intro t g y ct cg cy S hI
  obtain ⟨i0, hC, hS, _⟩ := id hI
  obtain ⟨_, hB, _⟩ := id hC
  have h2 := hB.2.1
  unfold fX11_attempt fX12_attempt
  obtain ⟨r, q, r0, e1, e2, e3⟩ | ⟨i, N, hi, rfl, hN, e1, e2, e3, hg, hy, ht, hm, hs, ok⟩ := took_both (t := t) (g := g) (y := y) hI
  · rw [e1, bnd_s, e2, bnd_s, if_neg r0]
    refine ⟨_, S, S, rfl, ?_, hI⟩
    rw [lt_ok, up_same i0, e3, bnd_s, if_neg r0]
  · obtain ⟨Z, hZ⟩ : ∃ Z : Nat, S 131 2 = Z := ⟨(S 131 2).toNat, by omega⟩
    obtain ⟨S1, q1, q2, f1⟩ := told_both (y := y) hI hi (by omega) hg ht hm hs ok
    have e131 : S1 131 = S 131 := f1 131 (by omega)
    -- the reference's set, from any state that keeps what it reads
    have mod : ∀ M : SS, M 131 = S 131 → M 148 = S 148 → M 149 = S 149 → ∃ S2, fX12_bollardsOf i g y M = some (orb (bolP (S 131) (sft (S 131) 34) (fun j => S 149 (40 * i + j)) g N y) 10, S2) ∧ S2 131 = S 131 ∧ ∀ a, a ≠ 131 ∧ (a < 135 ∨ 136 < a) → S2 a = M a := by
      intro M m1 m2 m3
      obtain ⟨S2, b1, b2, b3⟩ := bollardsOf_ok (S := M) (xs := fun j => S 149 (40 * i + j)) (g := g) (y := y) (N := N) hi (by omega) (by rw [m1]; exact hB) (by rw [m1]; exact hg) (by rw [m1]; exact ok) (by rw [m1]; exact hS.2) hy.1 (by rw [m2]; exact hs) (fun j _ => by rw [m3])
      rw [m1] at b1 b2
      exact ⟨S2, b1, b2, b3⟩
    generalize orb (bolP (S 131) (sft (S 131) 34) (fun j => S 149 (40 * i + j)) g N y) 10 = told at q1 mod
    rw [e1, bnd_s, e2, bnd_s, if_pos rfl, q1, bnd_s]
    simp only
    by_cases z : told = 0
    · rw [if_pos z]
      obtain ⟨S2, m1, m2, m3⟩ := mod S1 e131 (f1 148 (by omega)) (f1 149 (by omega))
      have l : fX12_attempt_L42 g told FU (-1) 268435456 0 S2 = some (-1, S2) := by
        have r2 : S2 131 (2 : Int).toNat = Z := by rw [m2]; exact hZ
        show fX12_attempt_L42 g told (999999 + 1) (-1) 268435456 0 S2 = some (-1, S2)
        unfold fX12_attempt_L42
        rw [rdA_ok (by decide) (by decide), r2]
        by_cases d : (Z : Int) ≤ 0
        · rw [if_pos d]
        · rw [if_neg d, if_pos z]
      refine ⟨_, S1, S2, rfl, ?_, inv_q hI q2 (fun a ha => by unfold keepA at ha; exact f1 a (by omega)) (fun a ha => ?_)⟩
      · rw [lt_ok, up_same (by rw [f1 130 (by omega)]; exact i0), e3 S1 e131 (f1 147 (by omega)) (f1 148 (by omega)) (f1 149 (by omega)), bnd_s, if_pos rfl, m1, bnd_s]
        simp only
        rw [lt_ok, l, bnd_s]
      · by_cases c : a = 131
        · rw [c, m2, e131]
        · unfold keepA at ha; exact m3 a (by omega)
    · rw [if_neg z, lt_ok]
      obtain ⟨S3, c1, c2⟩ := att_c (R := S 131) (g := g) (told := told) hg hZ Z FU 0 S1 (by omega) (by unfold FU; omega) (core_fr (fun b hb => f1 b (by omega)) q2 hC) (stand_fr (f1 _ (by omega)) (f1 _ (by omega)) (f1 _ (by omega)) (f1 _ (by omega)) (f1 _ (by omega)) hS) e131
      have c1' : fX11_attempt_L52 g told FU (-1) 11 0 S1 = some ((lsS (fun s => (maS (yrP (S 131) (sft (S 131) 34) g s) told 10).1) Z).1, S3) := c1
      have f3 : ∀ a, (a < 15 ∨ 18 < a) ∧ (a < 31 ∨ 33 < a) ∧ a ≠ 103 → S3 a = S1 a := fun a ha => w_fX11_attempt_L52 ha _ _ _ _ _ _ c1
      have fz : ∀ a, (a < 15 ∨ 18 < a) ∧ (a < 31 ∨ 33 < a) ∧ a ≠ 103 → S3 a = S a := fun a ha => (f3 a ha).trans (f1 a (by omega))
      rw [c1', bnd_s]
      obtain ⟨S4, m1, m2, m3⟩ := mod S3 (fz 131 (by omega)) (fz 148 (by omega)) (fz 149 (by omega))
      obtain ⟨S5, n1, n2⟩ := att_m (R := S 131) (g := g) (told := told) hB hS.2 hg hZ z Z FU 0 S4 268435456 (by omega) (by unfold FU; omega) m2 (Or.inr ⟨rfl, rfl⟩)
      have n1' : fX12_attempt_L42 g told FU (-1) 268435456 0 S4 = some ((lsS (fun s => (maS (yrP (S 131) (sft (S 131) 34) g s) told 10).1) Z).1, S5) := n1
      have f5 : ∀ a, a ≠ 131 ∧ (a < 135 ∨ 136 < a) ∧ a ≠ 146 → S5 a = S4 a := fun a ha => w_fX12_attempt_L42 ha _ _ _ _ _ _ n1
      refine ⟨_, S3, S5, rfl, ?_, inv_q hI c2 (fun a ha => by unfold keepA at ha; exact fz a (by omega)) (fun a ha => ?_)⟩
      · rw [lt_ok, up_same (by rw [fz 130 (by omega)]; exact i0), e3 S3 (fz 131 (by omega)) (fz 147 (by omega)) (fz 148 (by omega)) (fz 149 (by omega)), bnd_s, if_pos rfl, m1, bnd_s]
        simp only
        rw [lt_ok, n1', bnd_s]
      · by_cases c : a = 131
        · rw [c, n2, fz 131 (by omega)]
        · unfold keepA at ha; exact (f5 a (by omega)).trans (m3 a (by omega))
