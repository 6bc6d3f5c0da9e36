/-! sets of streets as numbers below 256 -/
theorem bv_xor {a b : Int} : BitVec.ofInt 32 (jxor a b) = BitVec.ofInt 32 a ^^^ BitVec.ofInt 32 b := by
  show BitVec.ofInt 32 ((BitVec.ofInt 32 a ^^^ BitVec.ofInt 32 b).toInt) = _
  exact BitVec.ofInt_toInt
theorem bit_m1 : ∀ k, k < 32 → bit (-1) k = true := by decide +kernel
theorem bit_not {x : Int} {k : Nat} (hk : k < 32) : bit (jxor x (-1)) k = !bit x k := by
  have := bit_m1 k hk
  unfold bit at this ⊢
  rw [bv_xor, BitVec.getLsbD_xor, this]
  cases (BitVec.ofInt 32 x).getLsbD k <;> rfl
theorem bit_all : ∀ Z, Z < 9 → ∀ k, k < 32 → bit (w32 ((jshl 1 (Z : Nat)) - 1)) k = decide (k < Z) := by decide +kernel
theorem bit_lo : ∀ Z, Z < 9 → ∀ x, x < 2 ^ Z → ∀ k, k < 32 → bit ((x : Nat) : Int) k = true → k < Z := by decide +kernel
theorem shl_pow : ∀ Z, Z < 9 → jshl 1 (Z : Nat) = ((2 ^ Z : Nat) : Int) := by decide +kernel
def openP (R : Nat → Int) : Int := orb (fun s => decide (R (40 + s) ≠ 3)) (R 2).toNat
theorem open_ok {R : Nat → Int} (h0 : 0 ≤ R 2) (h8 : R 2 ≤ 8) : jand (w32 ((jshl 1 (R 2)) - 1)) (jxor (shutP R) (-1)) = openP R := by
  have e : R 2 = (((R 2).toNat : Nat) : Int) := by omega
  refine orb_ext (by omega) (ii_c _) (fun k hk => ?_)
  have ba := bit_all (R 2).toNat (by omega) k hk
  rw [← e] at ba
  rw [bit_and, bit_not hk, ba]
  unfold shutP
  rw [bit_orb _ (by omega)]
  by_cases c : k < (R 2).toNat
  · simp [c]
  · simp [c]
theorem jand_0 {a b : Int} : jand a b = 0 ↔ ∀ k, k < 32 → ¬ (bit a k = true ∧ bit b k = true) := by
  constructor
  · intro h k hk ⟨h1, h2⟩
    have := @bit_and a b k
    rw [h, bit_0, h1, h2] at this
    cases this
  · intro h
    refine bit_ext (ii_c _) cI_0 (fun k hk => ?_)
    rw [bit_and, bit_0]
    by_cases c : bit a k = true
    · have : bit b k = false := by
        rw [Bool.eq_false_iff]; exact fun x => h k hk ⟨c, x⟩
      rw [this]; simp
    · rw [Bool.eq_false_iff.mpr c]; rfl
def subP (R : Nat → Int) (x : Int) : Prop := ∀ k, k < 32 → bit x k = true → bit (openP R) k = true
theorem sub_c {R : Nat → Int} {x : Int} : jand x (jxor (openP R) (-1)) = 0 ↔ subP R x := by
  rw [jand_0]
  constructor
  · intro h k hk hx
    by_cases c : bit (openP R) k = true
    · exact c
    · exact absurd ⟨hx, by rw [bit_not hk, Bool.eq_false_iff.mpr c]; rfl⟩ (h k hk)
  · intro h k hk ⟨h1, h2⟩
    rw [bit_not hk, h k hk h1] at h2
    cases h2
theorem sub_m {R : Nat → Int} (h0 : 0 ≤ R 2) (h8 : R 2 ≤ 8) {x : Nat} (hx : x < 2 ^ (R 2).toNat) : jand (x : Int) (shutP R) = 0 ↔ subP R x := by
  rw [jand_0]
  constructor
  · intro h k hk hb
    have lt := bit_lo (R 2).toNat (by omega) x hx k hk hb
    have := h k hk
    unfold openP
    rw [bit_orb _ (by omega), decide_eq_true lt, Bool.true_and]
    by_cases c : R (40 + k) = 3
    · exfalso
      refine this ⟨hb, ?_⟩
      unfold shutP
      rw [bit_orb _ (by omega), decide_eq_true lt, Bool.true_and]
      exact decide_eq_true c
    · exact decide_eq_true c
  · intro h k hk ⟨h1, h2⟩
    have o := h k hk h1
    unfold openP at o
    unfold shutP at h2
    rw [bit_orb _ (by omega), Bool.and_eq_true, decide_eq_true_eq, decide_eq_true_eq] at o h2
    exact o.2 h2.2
theorem open_b {R : Nat → Int} (h0 : 0 ≤ R 2) (h8 : R 2 ≤ 8) : ∃ W : Nat, openP R = W ∧ W < 2 ^ (R 2).toNat := by
  have key : ∀ (p : Nat → Bool) (n : Nat), n < 9 → ∃ W : Nat, orb p n = W ∧ W < 2 ^ n := by
    intro p n
    induction n with
    | zero => intro _; exact ⟨0, rfl, by decide⟩
    | succ n ih =>
      intro hn
      obtain ⟨W, w1, w2⟩ := ih (by omega)
      show ∃ W : Nat, (if p n = true then jor (orb p n) (jshl 1 n) else orb p n) = W ∧ _
      by_cases c : p n = true
      · rw [if_pos c, w1]
        have : ∀ n, n < 8 → ∀ W, W < 2 ^ n → jor ((W : Nat) : Int) (jshl 1 (n : Nat)) = ((W + 2 ^ n : Nat) : Int) := by decide +kernel
        refine ⟨W + 2 ^ n, this n (by omega) W w2, ?_⟩
        rw [Nat.pow_succ]; omega
      · rw [if_neg c]
        exact ⟨W, w1, by rw [Nat.pow_succ]; omega⟩
  exact key _ _ (by omega)
theorem sub_le {R : Nat → Int} {x W : Nat} (hW : openP R = W) (hx : x < 256) (hw : W < 256) (h : subP R x) : x ≤ W := by
  have e : BitVec.ofInt 32 (x : Int) &&& BitVec.ofInt 32 (W : Int) = BitVec.ofInt 32 (x : Int) := by
    refine BitVec.eq_of_getLsbD_eq (fun i hi => ?_)
    rw [BitVec.getLsbD_and]
    by_cases c : (BitVec.ofInt 32 (x : Int)).getLsbD i = true
    · have := h i hi c
      rw [hW] at this
      unfold bit at this
      rw [c, this]; rfl
    · rw [Bool.eq_false_iff.mpr c]; rfl
  have n := congrArg BitVec.toNat e
  rw [BitVec.toNat_and, BitVec.toNat_ofInt, BitVec.toNat_ofInt] at n
  have x1 : ((x : Int) % ((2 ^ 32 : Nat) : Int)).toNat = x := by omega
  have w1 : ((W : Int) % ((2 ^ 32 : Nat) : Int)).toNat = W := by omega
  rw [x1, w1] at n
  have := @Nat.and_le_right x W
  omega
def cntP (x : Int) : Int := ysum (fun k => if bit x k = true then 1 else 0) 20
theorem bitCount_ok : ∀ x, x < 256 → fJ6_bitCount_0f7a4 ((x : Nat) : Int) = some (cntP ((x : Nat) : Int)) := by decide +kernel
theorem bitsOf_L {x : Int} : ∀ (m n k : Nat), m + k = 20 → m < n → fX12_bitsOf_L4 x n (ysum (fun k => if bit x k = true then 1 else 0) k) k = some (cntP x) := by
  intro m
  induction m with
  | zero =>
    intro n k hk hn
    obtain ⟨n, rfl⟩ := suc_of hn
    have ek : k = 20 := by omega
    subst ek
    unfold fX12_bitsOf_L4
    rw [if_pos (by omega)]
    rfl
  | succ m ih =>
    intro n k hk hn
    obtain ⟨n, rfl⟩ := suc_of hn
    have b := @ysum_b (fun k => if bit x k = true then 1 else 0) k (fun i _ => by show 0 ≤ (if bit x i = true then (1 : Int) else 0) ∧ (if bit x i = true then (1 : Int) else 0) ≤ 19; split <;> omega)
    have b1 : 0 ≤ (if bit x k = true then (1 : Int) else 0) ∧ (if bit x k = true then (1 : Int) else 0) ≤ 1 := by split <;> omega
    unfold fX12_bitsOf_L4
    rw [if_neg (by omega), bit_shr (by omega), lt_ok, lt_ok, w32_k (by omega), w32_eq (by omega) (by omega)]
    exact ih n (k + 1) (by omega) (by omega)
theorem bitsOf_ok {x : Int} : fX12_bitsOf x = some (cntP x) := by
  have e : fX12_bitsOf_L4 x FU 0 0 = some (cntP x) := bitsOf_L 20 FU 0 (by omega) (by decide)
  unfold fX12_bitsOf
  rw [e, bnd_s]
theorem cnt_lt {R : Nat → Int} {x W : Nat} (hW : openP R = W) (hx : x < 256) (hw : W < 256) (h : subP R x) (hne : x ≠ W) : cntP x < cntP W := by
  have hex : ∃ k, k < 20 ∧ bit (x : Int) k = false ∧ bit (W : Int) k = true := by
    have hno : ¬ ∀ k, k < 32 → bit (x : Int) k = bit (W : Int) k := fun hh => hne (by
      have := bit_ext (x := (x : Int)) (y := (W : Int)) (by unfold cI; omega) (by unfold cI; omega) hh
      omega)
    have : ∃ k, k < 32 ∧ bit (x : Int) k ≠ bit (W : Int) k := by
      apply Classical.byContradiction
      intro hc
      exact hno (fun k hk => Classical.byContradiction (fun he => hc ⟨k, hk, he⟩))
    obtain ⟨k, k1, k2⟩ := this
    have hx0 : bit (x : Int) k = false := by
      rw [Bool.eq_false_iff]
      intro hb
      have := h k k1 hb
      rw [hW] at this
      exact k2 (by rw [hb, this])
    have hw1 : bit (W : Int) k = true := by
      cases hh : bit (W : Int) k with
      | false => rw [hx0, hh] at k2; exact absurd rfl k2
      | true => rfl
    have := bit_lo 8 (by omega) W (by omega) k k1 hw1
    exact ⟨k, by omega, hx0, hw1⟩
  obtain ⟨k0, a1, a2, a3⟩ := hex
  have le : ∀ n, n ≤ 20 → ysum (fun k => if bit (x : Int) k = true then (1 : Int) else 0) n + (if k0 < n then 1 else 0) ≤ ysum (fun k => if bit (W : Int) k = true then (1 : Int) else 0) n := by
    intro n
    induction n with
    | zero => intro _; show (0 : Int) + _ ≤ 0; rw [if_neg (by omega)]; omega
    | succ n ih =>
      intro hn
      have i := ih (by omega)
      show ysum _ n + (if bit (x : Int) n = true then (1 : Int) else 0) + _ ≤ ysum _ n + (if bit (W : Int) n = true then (1 : Int) else 0)
      have hh : (if bit (x : Int) n = true then (1 : Int) else 0) ≤ (if bit (W : Int) n = true then (1 : Int) else 0) := by
        by_cases c : bit (x : Int) n = true
        · have := h n (by omega) c
          rw [hW] at this
          rw [if_pos c, if_pos this]; omega
        · rw [if_neg c]; split <;> omega
      by_cases c : k0 = n
      · subst c
        rw [if_neg (by omega)] at i
        rw [a2, a3, if_neg (by decide), if_pos rfl, if_pos (by omega)]
        omega
      · by_cases c2 : k0 < n
        · rw [if_pos c2] at i; rw [if_pos (c := k0 < n + 1) (by omega)]; omega
        · rw [if_neg c2] at i; rw [if_neg (c := k0 < n + 1) (by omega)]; omega
  have := le 20 (Nat.le_refl _)
  rw [if_pos a1] at this
  show ysum _ 20 < ysum _ 20
  omega
