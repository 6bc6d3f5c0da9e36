/-! OWN PROGRAM LOGIC: numbers as Int, references as Nat (0 null), one memory of virtual cells -/
def w32 (x : Int) : Int := (x + 2147483648) % 4294967296 - 2147483648
def w64 (x : Int) : Int := (x + 9223372036854775808) % 18446744073709551616 - 9223372036854775808
def cI (x : Int) : Prop := -2147483648 ≤ x ∧ x < 2147483648
def cL (x : Int) : Prop := -9223372036854775808 ≤ x ∧ x < 9223372036854775808
theorem w32_c (x : Int) : cI (w32 x) := by unfold cI w32; omega
theorem w64_c (x : Int) : cL (w64 x) := by unfold cL w64; omega
theorem w32_id {x : Int} (h : cI x) : w32 x = x := by unfold cI at h; unfold w32; omega
theorem w64_id {x : Int} (h : cL x) : w64 x = x := by unfold cL at h; unfold w64; omega
theorem cI_L {x : Int} (h : cI x) : cL x := by unfold cI at h; unfold cL; omega
theorem ii_to {x : Int} (h : cI x) : (Int32.ofInt x).toInt = x := Int32.toInt_ofInt_of_le h.1 h.2
theorem ll_to {x : Int} (h : cL x) : (Int64.ofInt x).toInt = x := Int64.toInt_ofInt_of_le h.1 h.2
theorem ii_c (x : Int32) : cI x.toInt := ⟨x.le_toInt, x.toInt_lt⟩
theorem ll_c (x : Int64) : cL x.toInt := ⟨x.le_toInt, x.toInt_lt⟩
theorem ii_w (x : Int) : Int32.ofInt (w32 x) = Int32.ofInt x := by
  rw [Int32.ofInt_eq_iff_bmod_eq_toInt, Int32.toInt_ofInt]
  show Int.bmod (w32 x) (2 ^ 32) = Int.bmod x (2 ^ 32)
  apply Int.bmod_eq_bmod_iff_bmod_sub_eq_zero.mpr
  have : w32 x - x = (2 ^ 32 : Nat) * (-((x + 2147483648) / 4294967296)) := by unfold w32; omega
  rw [this]
  exact Int.bmod_eq_zero_of_dvd ⟨_, rfl⟩
theorem ll_w (x : Int) : Int64.ofInt (w64 x) = Int64.ofInt x := by
  rw [Int64.ofInt_eq_iff_bmod_eq_toInt, Int64.toInt_ofInt]
  show Int.bmod (w64 x) (2 ^ 64) = Int.bmod x (2 ^ 64)
  apply Int.bmod_eq_bmod_iff_bmod_sub_eq_zero.mpr
  have : w64 x - x = (2 ^ 64 : Nat) * (-((x + 9223372036854775808) / 18446744073709551616)) := by unfold w64; omega
  rw [this]
  exact Int.bmod_eq_zero_of_dvd ⟨_, rfl⟩
theorem ii_inj {x y : Int} (hx : cI x) (hy : cI y) : Int32.ofInt x = Int32.ofInt y ↔ x = y := by
  rw [← Int32.toInt_inj, ii_to hx, ii_to hy]
theorem ll_inj {x y : Int} (hx : cL x) (hy : cL y) : Int64.ofInt x = Int64.ofInt y ↔ x = y := by
  rw [← Int64.toInt_inj, ll_to hx, ll_to hy]
theorem ii_lt {x y : Int} (hx : cI x) (hy : cI y) : Int32.ofInt x < Int32.ofInt y ↔ x < y := by
  rw [Int32.lt_iff_toInt_lt, ii_to hx, ii_to hy]
theorem ii_le {x y : Int} (hx : cI x) (hy : cI y) : Int32.ofInt x ≤ Int32.ofInt y ↔ x ≤ y := by
  rw [Int32.le_iff_toInt_le, ii_to hx, ii_to hy]
theorem ll_lt {x y : Int} (hx : cL x) (hy : cL y) : Int64.ofInt x < Int64.ofInt y ↔ x < y := by
  rw [Int64.lt_iff_toInt_lt, ll_to hx, ll_to hy]
theorem ii_0 : Int32.ofInt 0 = 0 := by decide +kernel
theorem ll_0 : Int64.ofInt 0 = 0 := by decide +kernel
theorem cI_0 : cI 0 := by unfold cI; omega
theorem cL_0 : cL 0 := by unfold cL; omega
def jand (a b : Int) : Int := (Int32.ofInt a &&& Int32.ofInt b).toInt
def jor (a b : Int) : Int := (Int32.ofInt a ||| Int32.ofInt b).toInt
def jxor (a b : Int) : Int := (Int32.ofInt a ^^^ Int32.ofInt b).toInt
def jshl (a b : Int) : Int := (Int32.ofInt a <<< (Int32.ofInt b &&& 31)).toInt
def jshr (a b : Int) : Int := (Int32.ofInt a >>> (Int32.ofInt b &&& 31)).toInt
def jushr (a b : Int) : Int := (((Int32.ofInt a).toUInt32 >>> ((Int32.ofInt b).toUInt32 &&& Int32.toUInt32 31)).toInt32).toInt
def kand (a b : Int) : Int := (Int64.ofInt a &&& Int64.ofInt b).toInt
def kor (a b : Int) : Int := (Int64.ofInt a ||| Int64.ofInt b).toInt
def kshl (a b : Int) : Int := (Int64.ofInt a <<< ((Int32.ofInt b).toInt64 &&& 63)).toInt
def kshr (a b : Int) : Int := (Int64.ofInt a >>> ((Int32.ofInt b).toInt64 &&& 63)).toInt
def jb (a : Int) : Int := ((Int32.ofInt a).toInt8.toInt32).toInt
def js (a : Int) : Int := ((Int32.ofInt a).toInt16.toInt32).toInt
def jc (a : Int) : Int := (((Int32.ofInt a).toUInt32 % 65536).toInt32).toInt
def jz (a : Int) : Int := (vp_nar .boolean (Int32.ofInt a)).toInt
def lc (a b : Int) : Int := if a < b then -1 else if a = b then 0 else 1
theorem lc_c (a b : Int) : cI (lc a b) := by unfold cI lc; split <;> (try split) <;> omega
theorem tdiv_c {a b : Int} (ha : cI a) : w32 (a.tdiv b) = w32 (a.tdiv b) := rfl
theorem tmod_b (a b : Int) : (0 ≤ a → 0 ≤ a.tmod b ∧ a.tmod b ≤ a) ∧ (a ≤ 0 → a ≤ a.tmod b ∧ a.tmod b ≤ 0) := by
  have key : ∀ x : Int, 0 ≤ x → 0 ≤ x.tmod b ∧ x.tmod b ≤ x := by
    intro x hx
    obtain ⟨n, rfl⟩ := Int.eq_ofNat_of_zero_le hx
    rcases Int.le_total 0 b with hb | hb
    · obtain ⟨k, rfl⟩ := Int.eq_ofNat_of_zero_le hb
      rw [← Int.ofNat_tmod]
      have := Nat.mod_le n k
      omega
    · obtain ⟨k, hk⟩ := Int.eq_ofNat_of_zero_le (show 0 ≤ -b by omega)
      have : b = -(k : Int) := by omega
      rw [this, Int.tmod_neg, ← Int.ofNat_tmod]
      have := Nat.mod_le n k
      omega
  refine ⟨key a, fun h => ?_⟩
  have h2 := key (-a) (by omega)
  rw [Int.neg_tmod] at h2
  omega
theorem tmod_c {a b : Int} (ha : cI a) : cI (a.tmod b) := by
  have := tmod_b a b
  unfold cI at *
  rcases Int.le_total 0 a with h | h
  · have := this.1 h; omega
  · have := this.2 h; omega
theorem tmod_cL {a b : Int} (ha : cL a) : cL (a.tmod b) := by
  have := tmod_b a b
  unfold cL at *
  rcases Int.le_total 0 a with h | h
  · have := this.1 h; omega
  · have := this.2 h; omega
theorem ii_div {a b : Int} (ha : cI a) (hb : cI b) : Int32.ofInt a / Int32.ofInt b = Int32.ofInt (w32 (a.tdiv b)) := by
  rw [ii_w]
  exact (Int32.ofInt_tdiv (by have := ha.1; simpa using this) (by rw [show Int32.maxValue.toInt = 2147483647 from rfl]; have := ha.2; omega) (by have := hb.1; simpa using this) (by rw [show Int32.maxValue.toInt = 2147483647 from rfl]; have := hb.2; omega)).symm
theorem ll_div {a b : Int} (ha : cL a) (hb : cL b) : Int64.ofInt a / Int64.ofInt b = Int64.ofInt (w64 (a.tdiv b)) := by
  rw [ll_w]
  exact (Int64.ofInt_tdiv (by have := ha.1; simpa using this) (by rw [show Int64.maxValue.toInt = 9223372036854775807 from rfl]; have := ha.2; omega) (by have := hb.1; simpa using this) (by rw [show Int64.maxValue.toInt = 9223372036854775807 from rfl]; have := hb.2; omega)).symm
theorem ii_rem {a b : Int} (ha : cI a) (hb : cI b) : Int32.ofInt a - Int32.ofInt a / Int32.ofInt b * Int32.ofInt b = Int32.ofInt (a.tmod b) := by
  rw [ii_div ha hb, ii_w, ← Int32.ofInt_mul, ← Int32.ofInt_sub]
  congr 1
  rw [Int.tmod_def, Int.mul_comm]
theorem ll_rem {a b : Int} (ha : cL a) (hb : cL b) : Int64.ofInt a - Int64.ofInt a / Int64.ofInt b * Int64.ofInt b = Int64.ofInt (a.tmod b) := by
  rw [ll_div ha hb, ll_w, ← Int64.ofInt_mul, ← Int64.ofInt_sub]
  congr 1
  rw [Int.tmod_def, Int.mul_comm]
theorem ii_nat {n : Nat} (h : n < 2147483648) : Int32.ofInt n = Int32.ofNat n := Int32.ofInt_eq_ofNat
/-! values -/
abbrev VV : Type := Nat ⊕ (Int ⊕ Int)
abbrev vr (r : Nat) : VV := .inl r
abbrev vi (z : Int) : VV := .inr (.inl z)
abbrev vl (z : Int) : VV := .inr (.inr z)
def bI (b : Bool) : Int := if b = true then 1 else 0
def rfo (ad : Nat → Nat) (r : Nat) : Option Nat := if r = 0 then none else some (ad r)
def cv (ad : Nat → Nat) (v : VV) : Value := match v with
  | .inl r => va_rf (rfo ad r)
  | .inr (.inl z) => .int (Int32.ofInt z)
  | .inr (.inr z) => .long (Int64.ofInt z)
def cV (v : VV) : Prop := match v with
  | .inl _ => True
  | .inr (.inl z) => cI z
  | .inr (.inr z) => cL z
theorem cv_r {ad : Nat → Nat} {r : Nat} (h : r ≠ 0) : cv ad (vr r) = .ref (ad r) := by simp [cv, rfo, h, va_rf]
theorem cv_0 {ad : Nat → Nat} : cv ad (vr 0) = .null := by simp [cv, rfo, va_rf]
def is2 (v : VV) : Bool := match v with
  | .inr (.inr _) => true
  | _ => false
def cat (v : VV) : Nat := if is2 v = true then 2 else 1
theorem cv_cat (ad : Nat → Nat) (v : VV) : (cv ad v).category = cat v := by
  rcases v with r | z | z
  · by_cases h : r = 0
    · subst h; rw [cv_0]; rfl
    · rw [cv_r h]; rfl
  · rfl
  · rfl
/-! the static layout of the cells -/
def shT : List (Nat × Nat) := [(99, 0), (11, 16), (8, 14), (20, 8), (20, 8), (20, 8), (20, 900), (6, 4), (20, 8), (20, 3), (20, 3), (6, 4), (20, 8), (20, 3), (20, 3), (6, 4), (20, 8), (20, 3), (20, 3), (3, 11), (22, 900), (8, 14), (20, 8), (20, 8), (20, 8), (20, 900), (6, 4), (20, 8), (20, 3), (20, 3), (5, 4), (4, 7), (20, 64), (20, 960), (0, 4), (10, 10), (20, 120), (20, 120), (20, 120), (20, 120), (20, 6), (20, 120), (20, 120), (10, 10), (20, 120), (20, 120), (20, 120), (20, 120), (20, 6), (20, 120), (20, 120), (7, 4), (21, 120), (21, 120), (1, 4), (6, 4), (20, 8), (20, 3), (20, 3), (2, 3), (24, 10), (6, 4), (20, 8), (20, 3), (20, 3), (6, 4), (20, 8), (20, 3), (20, 3), (6, 4), (20, 8), (20, 3), (20, 3), (6, 4), (20, 8), (20, 3), (20, 3), (6, 4), (20, 8), (20, 3), (20, 3), (6, 4), (20, 8), (20, 3), (20, 3), (6, 4), (20, 8), (20, 3), (20, 3), (6, 4), (20, 8), (20, 3), (20, 3), (6, 4), (20, 8), (20, 3), (20, 3), (6, 4), (20, 8), (20, 3), (20, 3), (25, 4), (26, 2), (20, 20), (9, 3), (21, 40), (9, 3), (21, 40), (9, 3), (21, 40), (9, 3), (21, 40), (8, 14), (20, 8), (20, 8), (20, 8), (20, 900), (6, 4), (20, 8), (20, 3), (20, 3), (8, 14), (20, 8), (20, 8), (20, 8), (20, 900), (6, 4), (20, 8), (20, 3), (20, 3), (12, 33), (20, 3303), (23, 2), (20, 900), (20, 1101), (20, 900), (20, 6), (20, 15), (20, 960), (20, 120), (20, 120), (20, 120), (21, 120), (21, 120), (20, 1920), (20, 120), (20, 20), (20, 4), (20, 4), (21, 160)]
def sh (r : Nat) : Nat × Nat := shT.getD r (99, 0)
def fT : List (List Nat) := [[2, 2, 0, 0], [2, 2, 0, 0], [2, 0, 0], [2, 2, 0, 0, 0, 0, 0, 0, 3, 0, 0], [2, 0, 0, 0, 0, 0, 0], [2, 2, 2, 0], [2, 2, 2, 0], [2, 2, 2, 1], [2, 2, 2, 2, 2, 0, 0, 0, 0, 0, 0, 0, 0, 0], [2, 0, 0], [2, 2, 2, 2, 2, 2, 2, 2, 0, 0], [2, 2, 2, 2, 2, 2, 2, 2, 2, 2, 2, 2, 2, 2, 2, 0], [0, 2, 2, 2, 2, 0, 0, 0, 0, 0, 0, 0, 0, 0, 0, 0, 2, 2, 2, 0, 0, 2, 2, 2, 2, 2, 2, 2, 2, 2, 2, 2, 2]]
/-- 0 int, 1 long, 2 a reference, 3 boolean -/
def fty (ci j : Nat) : Nat := (fT.getD ci []).getD j 9
def refT : List (List Nat) := [[], [2, 7, 11, 15, 19, 30, 34, 35, 43, 51, 54, 59, 101, 102, 103, 0], [3, 4, 5, 6, 7, 0, 0, 0, 0, 0, 0, 0, 0, 0], [], [], [], [], [8, 9, 10, 0], [], [], [], [12, 13, 14, 0], [], [], [], [16, 17, 18, 0], [], [], [], [20, 21, 0, 0, 0, 0, 0, 0, 0, 0, 0], [], [22, 23, 24, 25, 26, 0, 0, 0, 0, 0, 0, 0, 0, 0], [], [], [], [], [27, 28, 29, 0], [], [], [], [2, 31, 33, 0], [32, 0, 0, 0, 0, 0, 0], [], [], [2, 30, 0, 0], [30, 36, 37, 38, 39, 40, 41, 42, 0, 0], [], [], [], [], [], [], [], [30, 44, 45, 46, 47, 48, 49, 50, 0, 0], [], [], [], [], [], [], [], [30, 52, 53, 0], [], [], [30, 55, 0, 0], [56, 57, 58, 0], [], [], [], [60, 0, 0], [61, 65, 69, 73, 77, 81, 85, 89, 93, 97], [62, 63, 64, 0], [], [], [], [66, 67, 68, 0], [], [], [], [70, 71, 72, 0], [], [], [], [74, 75, 76, 0], [], [], [], [78, 79, 80, 0], [], [], [], [82, 83, 84, 0], [], [], [], [86, 87, 88, 0], [], [], [], [90, 91, 92, 0], [], [], [], [94, 95, 96, 0], [], [], [], [98, 99, 100, 0], [], [], [], [104, 106, 108, 110], [112, 121], [], [105, 0, 0], [], [107, 0, 0], [], [109, 0, 0], [], [111, 0, 0], [], [113, 114, 115, 116, 117, 0, 0, 0, 0, 0, 0, 0, 0, 0], [], [], [], [], [118, 119, 120, 0], [], [], [], [122, 123, 124, 125, 126, 0, 0, 0, 0, 0, 0, 0, 0, 0], [], [], [], [], [127, 128, 129, 0], [], [], [], [0, 131, 132, 133, 134, 0, 0, 0, 0, 0, 0, 0, 0, 0, 0, 0, 135, 136, 137, 0, 0, 138, 139, 140, 141, 142, 143, 144, 145, 146, 147, 148, 149], [], [], [], [], [], [], [], [], [], [], [], [], [], [], [], [], [], [], []]
def refs (r j : Nat) : Nat := (refT.getD r []).getD j 0
/-! memory: how many cells, what references they hold, what numbers -/
abbrev MM : Type := Nat × (Nat → Nat → Nat) × (Nat → Nat → Int)
def up {α : Type} (S : Nat → Nat → α) (r j : Nat) (v : α) : Nat → Nat → α := fun a i => if a = r ∧ i = j then v else S a i
def fval (ad : Nat → Nat) (M : MM) (ci r j : Nat) : Value := if fty ci j = 1 then .long (Int64.ofInt (M.2.2 r j)) else if fty ci j = 2 then va_rf (rfo ad (M.2.1 r j)) else .int (Int32.ofInt (M.2.2 r j))
def ec (ad : Nat → Nat) (cy : Nat → ClassId) (M : MM) (r : Nat) : va_E :=
  if (sh r).1 < 13 then .inr ((sh r).1, (List.range (sh r).2).map (fun j => fval ad M (sh r).1 r j))
  else if (sh r).1 = 21 then .inl (cy (sh r).1, (sh r).2, .inr (.inl (fun j => Int64.ofInt (M.2.2 r j))))
  else if 24 ≤ (sh r).1 then .inl (cy (sh r).1, (sh r).2, .inr (.inr (.inr (.inr (fun j => rfo ad (M.2.1 r j))))))
  else .inl (cy (sh r).1, (sh r).2, .inl (fun j => Int32.ofInt (M.2.2 r j)))
def sty (r j : Nat) : Nat := if (sh r).1 < 13 then fty (sh r).1 j else if (sh r).1 = 21 then 1 else if 24 ≤ (sh r).1 then 2 else 0
def Can (S : Nat → Nat → Int) : Prop := ∀ r j, (sty r j = 1 → cL (S r j)) ∧ (sty r j ≠ 1 → cI (S r j))
theorem Can.up1 {S : Nat → Nat → Int} (h : Can S) {r j : Nat} {v : Int} (hv : (sty r j = 1 → cL v) ∧ (sty r j ≠ 1 → cI v)) : Can (up S r j v) := by
  intro a i
  unfold up
  split
  · rename_i h1
    rw [h1.1, h1.2]; exact hv
  · exact h a i
/-! the surroundings: launch, class numbers, array classes, the heap at the law's entry, addresses -/
abbrev GG : Type := Launch × va_G × (Nat → ClassId) × Heap × (Nat → Nat)
abbrev GG.l (G : GG) : Launch := G.1
abbrev GG.D (G : GG) : va_G := G.2.1
abbrev GG.cy (G : GG) : Nat → ClassId := G.2.2.1
abbrev GG.h0 (G : GG) : Heap := G.2.2.2.1
abbrev GG.ad (G : GG) : Nat → Nat := G.2.2.2.2
def tysG (cy : Nat → ClassId) : List (ClassId × FieldType) := [(cy 20, .int), (cy 21, .long), (cy 22, .byte), (cy 23, .boolean), (cy 24, .object RX6), (cy 25, .object RX9), (cy 26, .object RX8)]
def lw_good : List Cond := lw_tbl.filter goodWord
def isNest (w : Cond) : Bool := match w with
  | .fieldLinkNest .. => true
  | .methodLinkNest .. => true
  | .arrayOver (.object _) => true
  | _ => false
def lw_nest : List Cond := lw_tbl.filter isNest
theorem gd_mem {w : Cond} (h : w ∈ lw_tbl) (hg : goodWord w = true) : w ∈ lw_good := List.mem_filter.mpr ⟨h, hg⟩
theorem ns_mem {w : Cond} (h : w ∈ lw_tbl) (hg : isNest w = true) : w ∈ lw_nest := List.mem_filter.mpr ⟨h, hg⟩
def okG (G : GG) : Prop := ∀ r, 1 ≤ r → r ≤ 100000 → G.ad r = G.h0.size + (r - 1)
def ALo (G : GG) : Nat → Prop := fun q => G.h0.size ≤ q
def Rep (G : GG) (M : MM) (H : Heap) : Prop := H.size = G.h0.size + M.1 ∧ M.1 ≤ 100000 ∧ (∀ q, q < G.h0.size → H[q]? = G.h0[q]?) ∧ ∀ r, 1 ≤ r → r ≤ M.1 → va_at G.D vwCl (G.ad r, ec G.ad G.cy M r) H
/-- the three texts: WORDS, SIGNS of both classes, KEYS -/
def stT (i : Nat) : String := match i with
  | 0 => "town street goer year bollards shifts may years back sign if then else end against not and or "
  | 1 => ";:+-*()[]=<>"
  | _ => " town street years back sign goer year bollards shifts may if then else end against and or not "
def stLen : List Nat := [94, 12, 95]
def stByt : List (List Int32) := [[116, 111, 119, 110, 32, 115, 116, 114, 101, 101, 116, 32, 103, 111, 101, 114, 32, 121, 101, 97, 114, 32, 98, 111, 108, 108, 97, 114, 100, 115, 32, 115, 104, 105, 102, 116, 115, 32, 109, 97, 121, 32, 121, 101, 97, 114, 115, 32, 98, 97, 99, 107, 32, 115, 105, 103, 110, 32, 105, 102, 32, 116, 104, 101, 110, 32, 101, 108, 115, 101, 32, 101, 110, 100, 32, 97, 103, 97, 105, 110, 115, 116, 32, 110, 111, 116, 32, 97, 110, 100, 32, 111, 114, 32], [59, 58, 43, 45, 42, 40, 41, 91, 93, 61, 60, 62], [32, 116, 111, 119, 110, 32, 115, 116, 114, 101, 101, 116, 32, 121, 101, 97, 114, 115, 32, 98, 97, 99, 107, 32, 115, 105, 103, 110, 32, 103, 111, 101, 114, 32, 121, 101, 97, 114, 32, 98, 111, 108, 108, 97, 114, 100, 115, 32, 115, 104, 105, 102, 116, 115, 32, 109, 97, 121, 32, 105, 102, 32, 116, 104, 101, 110, 32, 101, 108, 115, 101, 32, 101, 110, 100, 32, 97, 103, 97, 105, 110, 115, 116, 32, 97, 110, 100, 32, 111, 114, 32, 110, 111, 116, 32]]
/-- the script: what stands in the cell 100031 at the law's entry -/
def scL (G : GG) : Nat := match G.h0[G.ad 100031]? with
  | some c => c.slots.size
  | none => 0
def scX (G : GG) (j : Nat) : Int := match G.h0[G.ad 100031]? with
  | some c => (match c.slots[j]? with
    | some (.int v) => v.toInt
    | _ => 0)
  | none => 0
def Scr (G : GG) (U : State) : Prop := scL G ≤ 100000 → ∃ c : Cell, G.h0[G.ad 100031]? = some c ∧ U.isArrayOf c .int ∧ c.vm ≠ .unknown ∧ ∀ j, j < c.slots.size → ∃ v : Int32, c.slots[j]? = some (.int v)
def Str (G : GG) (U : State) : Prop := vk_S 3 stLen stByt (fun i => G.ad (100001 + i)) (fun i => G.ad (100011 + i)) (ALo G) U G.h0 ∧ (vk_R RX3 97 (stT 0) (G.ad 100001) U ∧ vk_R RX3 89 (stT 1) (G.ad 100002) U ∧ vk_R RX12 86 (stT 2) (G.ad 100003) U ∧ vk_R RX12 124 (stT 1) (G.ad 100002) U) ∧ va_Z "java/lang/String" "COMPACT_STRINGS" "Z" (.int 1) (ALo G) U G.h0 ∧ (∃ r : Nat, va_Z "jdk/internal/util/Preconditions" "SIOOBE_FORMATTER" "Ljava/util/function/BiFunction;" (cv G.ad (vr r)) (ALo G) U G.h0) ∧ Scr G U
/-- what stands of the machine's tables at a state -/
def EnvU (G : GG) (U : State) : Prop := okG G ∧ va_K G.D vwCl (tysG G.cy) U ∧ (∀ w ∈ lw_nest, va_Nw w U) ∧ Str G U
theorem EnvU.warm {G : GG} {s U : State} (h : EnvU G s) (hW : s.WarmedH U.vm) : EnvU G U := by
  refine ⟨h.1, va_K.moved hW.alike h.2.1, fun w hw => ?_, ?_⟩
  rotate_left
  · obtain ⟨q1, ⟨q2, q3, q4, q5⟩, q6, ⟨r, q7⟩, q8⟩ := h.2.2.2
    refine ⟨q1.moved hW.alike, ⟨q2.warm hW, q3.warm hW, q4.warm hW, q5.warm hW⟩, q6.moved hW.alike, ⟨r, q7.moved hW.alike⟩, fun hb => ?_⟩
    obtain ⟨c, a1, a2, a3, a4⟩ := q8 hb
    exact ⟨c, a1, State.isArrayOf_alike hW.alike a2, a3, a4⟩
  have h1 := h.2.2.1 w hw
  have h2 := (List.mem_filter.mp hw).2
  unfold isNest at h2
  split at h2
  · exact va_Nw.warmF hW h1
  · exact va_Nw.warmM hW h1
  · exact va_AO.moved hW.alike h1
  · cases h2
theorem EnvU.same {G : GG} {s U : State} (h : EnvU G s) (hv : s.vm = U.vm) : EnvU G U := by
  have ha : s.vm.Alike U.vm := by rw [hv]; exact Vm.Alike.refl _
  refine ⟨h.1, va_K.moved ha h.2.1, fun w hw => ?_, ?_⟩
  rotate_left
  · obtain ⟨q1, ⟨q2, q3, q4, q5⟩, q6, ⟨r, q7⟩, q8⟩ := h.2.2.2
    refine ⟨q1.moved ha, ⟨q2.same hv.symm, q3.same hv.symm, q4.same hv.symm, q5.same hv.symm⟩, q6.moved ha, ⟨r, q7.moved ha⟩, fun hb => ?_⟩
    obtain ⟨c, a1, a2, a3, a4⟩ := q8 hb
    exact ⟨c, a1, State.isArrayOf_alike ha a2, a3, a4⟩
  have h1 := h.2.2.1 w hw
  have h2 := (List.mem_filter.mp hw).2
  unfold isNest at h2
  split at h2
  · exact va_Nw.same rfl hv h1
  · exact va_Nw.same rfl hv h1
  · exact va_AO.moved ha h1
  · cases h2
/-- a method: its name, bytes, locals, answer's type, cells and slots that it makes -/
abbrev YY : Type := MethodName × ByteArray × Nat × Option FieldType × Nat × Nat
def rmD (d mc ms : Nat) : Room := { frames := d, cells := mc, slots := ms, locals := 40 * d }
def wsY (Y : YY) : List Cond := Cond.code Y.1 Y.2.1 Y.2.2.1 Y.2.2.2.1 :: lw_good
def fre (G : GG) : Addr → Prop := fun q => G.h0.size ≤ q
def QcG (G : GG) (Φ : Option VV → MM → Prop) : Array Value → State → Outcome → State → Prop := fun _ st o t => st.heap.size ≤ t.heap.size ∧ ∃ (r : Option VV) (M : MM), o = .returned (r.map (cv G.ad)) ∧ Rep G M t.heap ∧ Can M.2.2 ∧ (∀ v ∈ r.toList, cV v) ∧ Φ r M
def PcG (G : GG) (av : List VV) (M : MM) : Array Value → State → Prop := fun args U => args = (av.map (cv G.ad)).toArray ∧ EnvU G U ∧ Rep G M U.heap ∧ Can M.2.2 ∧ ∀ v ∈ av, cV v
def Runs (G : GG) (Y : YY) (d : Nat) (av : List VV) (M : MM) (Φ : Option VV → MM → Prop) : Prop := Met G.l Y.1 (wsY Y) (rmD d Y.2.2.2.2.1 Y.2.2.2.2.2) (PcG G av M) (QcG G Φ) Y.2.2.2.2.1 Y.2.2.2.2.2 (fre G)
def Ctx (G : GG) (Y : YY) (p : Program) (s : State) (m : MethodId) (args : Array Value) (meth : Method) (c : Code) : Prop :=
  p.tables.exec = Jvm.exec ∧ c.code = Y.2.1 ∧ c.maxLocals = Y.2.2.1 ∧ meth.sig.returnType = Y.2.2.2.1 ∧ meth.locks = false ∧ s.vm.findClass Y.1.cls = some m.cls ∧ meth.name = Y.1.name ∧ (∀ w ∈ lw_good, w.before args s = true) ∧ EnvU G s
def cvl (ad : Nat → Nat) (ls : List (Nat × VV)) : List (Nat × Value) := ls.map (fun q => (q.1, cv ad q.2))
/-- from this point of a method it comes to a return with Φ -/
def At (G : GG) (Y : YY) (d : Nat) (pc : Nat) (ls : List (Nat × VV)) (st : List VV) (M : MM) (k sl : Nat) (Φ : Option VV → MM → Prop) : Prop :=
  ∀ (p : Program) (e : Env) (s : State) (m : MethodId) (args : Array Value) (below : List Frame) (meth : Method) (c : Code) (H : Heap) (locs : List Loc) (lz : Array Slot),
    Ctx G Y p s m args meth c → Rep G M H → Can M.2.2 → (∀ v ∈ st, cV v) → (∀ q ∈ ls, cV q.2) → lv_has lz Y.2.2.1 (cvl G.ad ls) → va_S (ALo G) s.heap H locs →
    W p G.l e (rmD d Y.2.2.2.2.1 Y.2.2.2.2.2) s m args below meth c H locs k sl (MQ below (QcG G Φ) args s Y.2.2.2.2.1 Y.2.2.2.2.2 (fre G)) (F0 m pc lz (st.map (cv G.ad)))
