/-! sets of numbers as bits -/
def bit (x : Int) (k : Nat) : Bool := (BitVec.ofInt 32 x).getLsbD k
theorem bv_or {a b : Int} : BitVec.ofInt 32 (jor a b) = BitVec.ofInt 32 a ||| BitVec.ofInt 32 b := by
  show BitVec.ofInt 32 ((BitVec.ofInt 32 a ||| BitVec.ofInt 32 b).toInt) = _
  exact BitVec.ofInt_toInt
theorem bv_and {a b : Int} : BitVec.ofInt 32 (jand a b) = BitVec.ofInt 32 a &&& BitVec.ofInt 32 b := by
  show BitVec.ofInt 32 ((BitVec.ofInt 32 a &&& BitVec.ofInt 32 b).toInt) = _
  exact BitVec.ofInt_toInt
theorem bit_or {a b : Int} {k : Nat} : bit (jor a b) k = (bit a k || bit b k) := by
  unfold bit; rw [bv_or, BitVec.getLsbD_or]
theorem bit_and {a b : Int} {k : Nat} : bit (jand a b) k = (bit a k && bit b k) := by
  unfold bit; rw [bv_and, BitVec.getLsbD_and]
theorem bit_shl : ∀ c, c < 20 → ∀ k, k < 32 → bit (jshl 1 (c : Nat)) k = decide (k = c) := by decide +kernel
theorem bit_0 {k : Nat} : bit 0 k = false := by
  unfold bit; simp
theorem bit_hi {x : Int} {k : Nat} (h : 32 ≤ k) : bit x k = false := by
  unfold bit; exact BitVec.getLsbD_of_ge _ _ h
theorem bit_ext {x y : Int} (hx : cI x) (hy : cI y) (h : ∀ k, k < 32 → bit x k = bit y k) : x = y := by
  have e : BitVec.ofInt 32 x = BitVec.ofInt 32 y := BitVec.eq_of_getLsbD_eq (fun i hi => h i hi)
  have e1 : (Int32.ofInt x).toInt = (Int32.ofInt y).toInt := by
    show (BitVec.ofInt 32 x).toInt = (BitVec.ofInt 32 y).toInt
    rw [e]
  rw [ii_to hx, ii_to hy] at e1
  exact e1
theorem bit_orb {p : Nat → Bool} : ∀ n, n ≤ 20 → ∀ k, bit (orb p n) k = (decide (k < n) && p k) := by
  intro n
  induction n with
  | zero => intro _ k; show bit 0 k = _; rw [bit_0]; simp
  | succ n ih =>
    intro hn k
    show bit (if p n = true then jor (orb p n) (jshl 1 n) else orb p n) k = _
    by_cases h32 : k < 32
    · by_cases c : p n = true
      · rw [if_pos c, bit_or, ih (by omega), bit_shl n (by omega) k h32]
        by_cases ck : k = n
        · subst ck; simp [c]
        · have : (k < n + 1) ↔ (k < n) := by omega
          simp [ck, this]
      · rw [if_neg c, ih (by omega)]
        by_cases ck : k = n
        · subst ck; simp [Bool.eq_false_iff.mpr c]
        · have : (k < n + 1) ↔ (k < n) := by omega
          simp [this]
    · rw [bit_hi (by omega)]
      have : ¬ k < n + 1 := by omega
      simp [this]
theorem orb_ext {x : Int} {p : Nat → Bool} {n : Nat} (hn : n ≤ 20) (hx : cI x) (h : ∀ k, k < 32 → bit x k = (decide (k < n) && p k)) : x = orb p n :=
  bit_ext hx (orb_c n) (fun k hk => by rw [h k hk, bit_orb n hn])
theorem orb_ins {p : Nat → Bool} {n c : Nat} (hn : n ≤ 20) (hc : c < n) : jor (orb p n) (jshl 1 c) = orb (fun k => p k || decide (k = c)) n := by
  refine orb_ext hn (ii_c _) (fun k hk => ?_)
  rw [bit_or, bit_orb n hn, bit_shl c (by omega) k hk]
  by_cases ck : k = c
  · subst ck; simp [hc]
  · simp [ck]
theorem shr_n : ∀ k, k < 20 → ((Int32.ofInt (k : Nat) &&& 31).toBitVec.smod 32).toNat = k := by decide +kernel
theorem bit_shr {x : Int} {k : Nat} (hk : k < 20) : jand (jshr x k) 1 = if bit x k = true then 1 else 0 := by
  have e1 : BitVec.ofInt 32 (jshr x k) = (BitVec.ofInt 32 x).sshiftRight k := by
    have := shr_n k hk
    show BitVec.ofInt 32 (((BitVec.ofInt 32 x).sshiftRight ((Int32.ofInt (k : Nat) &&& 31).toBitVec.smod 32).toNat).toInt) = _
    rw [this]
    exact BitVec.ofInt_toInt
  have hb : ∀ j, j < 32 → bit (jand (jshr x k) 1) j = (decide (j = 0) && bit x k) := by
    intro j hj
    rw [bit_and]
    have h1 : bit 1 j = decide (j = 0) := by
      have : ∀ j, j < 32 → bit 1 j = decide (j = 0) := by decide +kernel
      exact this j hj
    rw [h1]
    by_cases c : j = 0
    · subst c
      unfold bit
      rw [e1, BitVec.getLsbD_sshiftRight]
      have : 0 + k < 32 := by omega
      have h0 : ¬ (32 ≤ 0) := by omega
      simp [show k < 32 by omega]
    · simp [c]
  by_cases c : bit x k = true
  · rw [if_pos c]
    refine bit_ext (ii_c _) (by unfold cI; omega) (fun j hj => ?_)
    rw [hb j hj, c]
    have : ∀ j, j < 32 → bit 1 j = decide (j = 0) := by decide +kernel
    rw [this j hj]; simp
  · rw [if_neg c]
    refine bit_ext (ii_c _) cI_0 (fun j hj => ?_)
    rw [hb j hj, bit_0, Bool.eq_false_iff.mpr c]; simp
