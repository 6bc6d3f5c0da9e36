/-! what the decompiled functions are written in -/
abbrev SS : Type := Nat → Nat → Int
def rdA {α : Type} (S : SS) (a N : Nat) (i : Int) (k : Int → Option α) : Option α := if 0 ≤ i ∧ i < N then k (S a i.toNat) else none
def wrA {α : Type} (S : SS) (a N : Nat) (i v : Int) (k : SS → Option α) : Option α := if 0 ≤ i ∧ i < N then k (up S a i.toNat v) else none
def rdR {α : Type} (a N : Nat) (i : Int) (k : Nat → Option α) : Option α := if 0 ≤ i ∧ i < N then k (refs a i.toNat) else none
def nz {α : Type} (b : Int) (k : Option α) : Option α := if b = 0 then none else k
def gsh {α : Type} (r : Nat) (s : Nat × Nat) (k : Option α) : Option α := if sh r = s then k else none
def lt {α β : Type} (e : β) (k : β → Option α) : Option α := k e
def cpy (S : SS) (a : Nat) (i : Int) (b : Nat) (j n : Int) : SS := fun r x => if r = b ∧ j.toNat ≤ x ∧ x < j.toNat + n.toNat then S a (i.toNat + (x - j.toNat)) else S r x
def acp {α : Type} (S : SS) (a A : Nat) (i : Int) (b B : Nat) (j n : Int) (k : SS → Option α) : Option α := if a ≠ b ∧ (0 ≤ i ∧ 0 ≤ j ∧ 0 ≤ n ∧ i + n ≤ A ∧ j + n ≤ B) then k (cpy S a i b j n) else none
theorem rdA_e {α : Type} {S : SS} {a N : Nat} {i : Int} {k : Int → Option α} {r : α} (h : rdA S a N i k = some r) : ∃ v, v = S a i.toNat ∧ (0 ≤ i ∧ i < N) ∧ k v = some r := by
  unfold rdA at h
  split at h
  · exact ⟨_, rfl, by assumption, h⟩
  · cases h
theorem wrA_e {α : Type} {S : SS} {a N : Nat} {i v : Int} {k : SS → Option α} {r : α} (h : wrA S a N i v k = some r) : ∃ S', S' = up S a i.toNat v ∧ (0 ≤ i ∧ i < N) ∧ k S' = some r := by
  unfold wrA at h
  split at h
  · exact ⟨_, rfl, by assumption, h⟩
  · cases h
theorem rdR_e {α : Type} {a N : Nat} {i : Int} {k : Nat → Option α} {r : α} (h : rdR a N i k = some r) : ∃ v, v = refs a i.toNat ∧ (0 ≤ i ∧ i < N) ∧ k v = some r := by
  unfold rdR at h
  split at h
  · exact ⟨_, rfl, by assumption, h⟩
  · cases h
theorem nz_e {α : Type} {b : Int} {k : Option α} {r : α} (h : nz b k = some r) : b ≠ 0 ∧ k = some r := by
  unfold nz at h
  split at h
  · cases h
  · exact ⟨by assumption, h⟩
theorem gsh_e {α : Type} {x : Nat} {s : Nat × Nat} {k : Option α} {r : α} (h : gsh x s k = some r) : sh x = s ∧ k = some r := by
  unfold gsh at h
  split at h
  · exact ⟨by assumption, h⟩
  · cases h
theorem lt_e {α β : Type} {e : β} {k : β → Option α} {r : α} (h : lt e k = some r) : ∃ x, x = e ∧ k x = some r := ⟨_, rfl, h⟩
theorem acp_e {α : Type} {S : SS} {a A : Nat} {i : Int} {b B : Nat} {j n : Int} {k : SS → Option α} {r : α} (h : acp S a A i b B j n k = some r) : ∃ S', S' = cpy S a i b j n ∧ (a ≠ b ∧ (0 ≤ i ∧ 0 ≤ j ∧ 0 ≤ n ∧ i + n ≤ A ∧ j + n ≤ B)) ∧ k S' = some r := by
  unfold acp at h
  split at h
  · exact ⟨_, rfl, by assumption, h⟩
  · cases h
theorem ite_e {α : Type} {c : Prop} [Decidable c] {A B : Option α} {r : α} (h : (if c then A else B) = some r) : (c ∧ A = some r) ∨ (¬ c ∧ B = some r) := by
  by_cases hc : c
  · rw [if_pos hc] at h; exact Or.inl ⟨hc, h⟩
  · rw [if_neg hc] at h; exact Or.inr ⟨hc, h⟩
theorem bnd_e {α β : Type} {x : Option β} {f : β → Option α} {r : α} (h : x.bind f = some r) : ∃ q, x = some q ∧ f q = some r := by
  cases x with
  | none => cases h
  | some q => exact ⟨q, rfl, h⟩
theorem At.nm {G : GG} {Y : YY} {d pc : Nat} {ls : List (Nat × VV)} {st : List VV} {M : MM} {k sl : Nat} {Φ : Option VV → MM → Prop} {x e : Int} (hx : x = e) (h : At G Y d pc ls (vi x :: st) M k sl Φ) : At G Y d pc ls (vi e :: st) M k sl Φ := hx ▸ h
theorem At.nml {G : GG} {Y : YY} {d pc : Nat} {ls : List (Nat × VV)} {st : List VV} {M : MM} {k sl : Nat} {Φ : Option VV → MM → Prop} {x e : Int} (hx : x = e) (h : At G Y d pc ls (vl x :: st) M k sl Φ) : At G Y d pc ls (vl e :: st) M k sl Φ := hx ▸ h
theorem At.nmr {G : GG} {Y : YY} {d pc : Nat} {ls : List (Nat × VV)} {st : List VV} {M : MM} {k sl : Nat} {Φ : Option VV → MM → Prop} {x e : Nat} (hx : x = e) (h : At G Y d pc ls (vr x :: st) M k sl Φ) : At G Y d pc ls (vr e :: st) M k sl Φ := hx ▸ h
theorem At.nmS {G : GG} {Y : YY} {d pc : Nat} {ls : List (Nat × VV)} {st : List VV} {S S' : SS} {k sl : Nat} {Φ : Option VV → MM → Prop} (hx : S' = S) (h : At G Y d pc ls st (mm S') k sl Φ) : At G Y d pc ls st (mm S) k sl Φ := hx ▸ h
def FU : Nat := 1000000
theorem sh_1 : sh 1 = (11, 16) := by decide +kernel
theorem sh_2 : sh 2 = (8, 14) := by decide +kernel
theorem sh_3 : sh 3 = (20, 8) := by decide +kernel
theorem sh_4 : sh 4 = (20, 8) := by decide +kernel
theorem sh_5 : sh 5 = (20, 8) := by decide +kernel
theorem sh_6 : sh 6 = (20, 900) := by decide +kernel
theorem sh_7 : sh 7 = (6, 4) := by decide +kernel
theorem sh_8 : sh 8 = (20, 8) := by decide +kernel
theorem sh_9 : sh 9 = (20, 3) := by decide +kernel
theorem sh_10 : sh 10 = (20, 3) := by decide +kernel
theorem sh_11 : sh 11 = (6, 4) := by decide +kernel
theorem sh_12 : sh 12 = (20, 8) := by decide +kernel
theorem sh_13 : sh 13 = (20, 3) := by decide +kernel
theorem sh_14 : sh 14 = (20, 3) := by decide +kernel
theorem sh_15 : sh 15 = (6, 4) := by decide +kernel
theorem sh_16 : sh 16 = (20, 8) := by decide +kernel
theorem sh_17 : sh 17 = (20, 3) := by decide +kernel
theorem sh_18 : sh 18 = (20, 3) := by decide +kernel
theorem sh_19 : sh 19 = (3, 11) := by decide +kernel
theorem sh_20 : sh 20 = (22, 900) := by decide +kernel
theorem sh_21 : sh 21 = (8, 14) := by decide +kernel
theorem sh_22 : sh 22 = (20, 8) := by decide +kernel
theorem sh_23 : sh 23 = (20, 8) := by decide +kernel
theorem sh_24 : sh 24 = (20, 8) := by decide +kernel
theorem sh_25 : sh 25 = (20, 900) := by decide +kernel
theorem sh_26 : sh 26 = (6, 4) := by decide +kernel
theorem sh_27 : sh 27 = (20, 8) := by decide +kernel
theorem sh_28 : sh 28 = (20, 3) := by decide +kernel
theorem sh_29 : sh 29 = (20, 3) := by decide +kernel
theorem sh_30 : sh 30 = (5, 4) := by decide +kernel
theorem sh_31 : sh 31 = (4, 7) := by decide +kernel
theorem sh_32 : sh 32 = (20, 64) := by decide +kernel
theorem sh_33 : sh 33 = (20, 960) := by decide +kernel
theorem sh_34 : sh 34 = (0, 4) := by decide +kernel
theorem sh_35 : sh 35 = (10, 10) := by decide +kernel
theorem sh_36 : sh 36 = (20, 120) := by decide +kernel
theorem sh_37 : sh 37 = (20, 120) := by decide +kernel
theorem sh_38 : sh 38 = (20, 120) := by decide +kernel
theorem sh_39 : sh 39 = (20, 120) := by decide +kernel
theorem sh_40 : sh 40 = (20, 6) := by decide +kernel
theorem sh_41 : sh 41 = (20, 120) := by decide +kernel
theorem sh_42 : sh 42 = (20, 120) := by decide +kernel
theorem sh_43 : sh 43 = (10, 10) := by decide +kernel
theorem sh_44 : sh 44 = (20, 120) := by decide +kernel
theorem sh_45 : sh 45 = (20, 120) := by decide +kernel
theorem sh_46 : sh 46 = (20, 120) := by decide +kernel
theorem sh_47 : sh 47 = (20, 120) := by decide +kernel
theorem sh_48 : sh 48 = (20, 6) := by decide +kernel
theorem sh_49 : sh 49 = (20, 120) := by decide +kernel
theorem sh_50 : sh 50 = (20, 120) := by decide +kernel
theorem sh_51 : sh 51 = (7, 4) := by decide +kernel
theorem sh_52 : sh 52 = (21, 120) := by decide +kernel
theorem sh_53 : sh 53 = (21, 120) := by decide +kernel
theorem sh_54 : sh 54 = (1, 4) := by decide +kernel
theorem sh_55 : sh 55 = (6, 4) := by decide +kernel
theorem sh_56 : sh 56 = (20, 8) := by decide +kernel
theorem sh_57 : sh 57 = (20, 3) := by decide +kernel
theorem sh_58 : sh 58 = (20, 3) := by decide +kernel
theorem sh_59 : sh 59 = (2, 3) := by decide +kernel
theorem sh_60 : sh 60 = (24, 10) := by decide +kernel
theorem sh_61 : sh 61 = (6, 4) := by decide +kernel
theorem sh_62 : sh 62 = (20, 8) := by decide +kernel
theorem sh_63 : sh 63 = (20, 3) := by decide +kernel
theorem sh_64 : sh 64 = (20, 3) := by decide +kernel
theorem sh_65 : sh 65 = (6, 4) := by decide +kernel
theorem sh_66 : sh 66 = (20, 8) := by decide +kernel
theorem sh_67 : sh 67 = (20, 3) := by decide +kernel
theorem sh_68 : sh 68 = (20, 3) := by decide +kernel
theorem sh_69 : sh 69 = (6, 4) := by decide +kernel
theorem sh_70 : sh 70 = (20, 8) := by decide +kernel
theorem sh_71 : sh 71 = (20, 3) := by decide +kernel
theorem sh_72 : sh 72 = (20, 3) := by decide +kernel
theorem sh_73 : sh 73 = (6, 4) := by decide +kernel
theorem sh_74 : sh 74 = (20, 8) := by decide +kernel
theorem sh_75 : sh 75 = (20, 3) := by decide +kernel
theorem sh_76 : sh 76 = (20, 3) := by decide +kernel
theorem sh_77 : sh 77 = (6, 4) := by decide +kernel
theorem sh_78 : sh 78 = (20, 8) := by decide +kernel
theorem sh_79 : sh 79 = (20, 3) := by decide +kernel
theorem sh_80 : sh 80 = (20, 3) := by decide +kernel
theorem sh_81 : sh 81 = (6, 4) := by decide +kernel
theorem sh_82 : sh 82 = (20, 8) := by decide +kernel
theorem sh_83 : sh 83 = (20, 3) := by decide +kernel
theorem sh_84 : sh 84 = (20, 3) := by decide +kernel
theorem sh_85 : sh 85 = (6, 4) := by decide +kernel
theorem sh_86 : sh 86 = (20, 8) := by decide +kernel
theorem sh_87 : sh 87 = (20, 3) := by decide +kernel
theorem sh_88 : sh 88 = (20, 3) := by decide +kernel
theorem sh_89 : sh 89 = (6, 4) := by decide +kernel
theorem sh_90 : sh 90 = (20, 8) := by decide +kernel
theorem sh_91 : sh 91 = (20, 3) := by decide +kernel
theorem sh_92 : sh 92 = (20, 3) := by decide +kernel
theorem sh_93 : sh 93 = (6, 4) := by decide +kernel
theorem sh_94 : sh 94 = (20, 8) := by decide +kernel
theorem sh_95 : sh 95 = (20, 3) := by decide +kernel
theorem sh_96 : sh 96 = (20, 3) := by decide +kernel
theorem sh_97 : sh 97 = (6, 4) := by decide +kernel
theorem sh_98 : sh 98 = (20, 8) := by decide +kernel
theorem sh_99 : sh 99 = (20, 3) := by decide +kernel
theorem sh_100 : sh 100 = (20, 3) := by decide +kernel
theorem sh_101 : sh 101 = (25, 4) := by decide +kernel
theorem sh_102 : sh 102 = (26, 2) := by decide +kernel
theorem sh_103 : sh 103 = (20, 20) := by decide +kernel
theorem sh_104 : sh 104 = (9, 3) := by decide +kernel
theorem sh_105 : sh 105 = (21, 40) := by decide +kernel
theorem sh_106 : sh 106 = (9, 3) := by decide +kernel
theorem sh_107 : sh 107 = (21, 40) := by decide +kernel
theorem sh_108 : sh 108 = (9, 3) := by decide +kernel
theorem sh_109 : sh 109 = (21, 40) := by decide +kernel
theorem sh_110 : sh 110 = (9, 3) := by decide +kernel
theorem sh_111 : sh 111 = (21, 40) := by decide +kernel
theorem sh_112 : sh 112 = (8, 14) := by decide +kernel
theorem sh_113 : sh 113 = (20, 8) := by decide +kernel
theorem sh_114 : sh 114 = (20, 8) := by decide +kernel
theorem sh_115 : sh 115 = (20, 8) := by decide +kernel
theorem sh_116 : sh 116 = (20, 900) := by decide +kernel
theorem sh_117 : sh 117 = (6, 4) := by decide +kernel
theorem sh_118 : sh 118 = (20, 8) := by decide +kernel
theorem sh_119 : sh 119 = (20, 3) := by decide +kernel
theorem sh_120 : sh 120 = (20, 3) := by decide +kernel
theorem sh_121 : sh 121 = (8, 14) := by decide +kernel
theorem sh_122 : sh 122 = (20, 8) := by decide +kernel
theorem sh_123 : sh 123 = (20, 8) := by decide +kernel
theorem sh_124 : sh 124 = (20, 8) := by decide +kernel
theorem sh_125 : sh 125 = (20, 900) := by decide +kernel
theorem sh_126 : sh 126 = (6, 4) := by decide +kernel
theorem sh_127 : sh 127 = (20, 8) := by decide +kernel
theorem sh_128 : sh 128 = (20, 3) := by decide +kernel
theorem sh_129 : sh 129 = (20, 3) := by decide +kernel
theorem sh_130 : sh 130 = (12, 33) := by decide +kernel
theorem sh_131 : sh 131 = (20, 3303) := by decide +kernel
theorem sh_132 : sh 132 = (23, 2) := by decide +kernel
theorem sh_133 : sh 133 = (20, 900) := by decide +kernel
theorem sh_134 : sh 134 = (20, 1101) := by decide +kernel
theorem sh_135 : sh 135 = (20, 900) := by decide +kernel
theorem sh_136 : sh 136 = (20, 6) := by decide +kernel
theorem sh_137 : sh 137 = (20, 15) := by decide +kernel
theorem sh_138 : sh 138 = (20, 960) := by decide +kernel
theorem sh_139 : sh 139 = (20, 120) := by decide +kernel
theorem sh_140 : sh 140 = (20, 120) := by decide +kernel
theorem sh_141 : sh 141 = (20, 120) := by decide +kernel
theorem sh_142 : sh 142 = (21, 120) := by decide +kernel
theorem sh_143 : sh 143 = (21, 120) := by decide +kernel
theorem sh_144 : sh 144 = (20, 1920) := by decide +kernel
theorem sh_145 : sh 145 = (20, 120) := by decide +kernel
theorem sh_146 : sh 146 = (20, 20) := by decide +kernel
theorem sh_147 : sh 147 = (20, 4) := by decide +kernel
theorem sh_148 : sh 148 = (20, 4) := by decide +kernel
theorem sh_149 : sh 149 = (21, 160) := by decide +kernel
theorem rf_1_0 : refs 1 0 = 2 := by decide +kernel
theorem rf_1_1 : refs 1 1 = 7 := by decide +kernel
theorem rf_1_2 : refs 1 2 = 11 := by decide +kernel
theorem rf_1_3 : refs 1 3 = 15 := by decide +kernel
theorem rf_1_4 : refs 1 4 = 19 := by decide +kernel
theorem rf_1_5 : refs 1 5 = 30 := by decide +kernel
theorem rf_1_6 : refs 1 6 = 34 := by decide +kernel
theorem rf_1_7 : refs 1 7 = 35 := by decide +kernel
theorem rf_1_8 : refs 1 8 = 43 := by decide +kernel
theorem rf_1_9 : refs 1 9 = 51 := by decide +kernel
theorem rf_1_10 : refs 1 10 = 54 := by decide +kernel
theorem rf_1_11 : refs 1 11 = 59 := by decide +kernel
theorem rf_1_12 : refs 1 12 = 101 := by decide +kernel
theorem rf_1_13 : refs 1 13 = 102 := by decide +kernel
theorem rf_1_14 : refs 1 14 = 103 := by decide +kernel
theorem rf_2_0 : refs 2 0 = 3 := by decide +kernel
theorem rf_2_1 : refs 2 1 = 4 := by decide +kernel
theorem rf_2_2 : refs 2 2 = 5 := by decide +kernel
theorem rf_2_3 : refs 2 3 = 6 := by decide +kernel
theorem rf_2_4 : refs 2 4 = 7 := by decide +kernel
theorem rf_7_0 : refs 7 0 = 8 := by decide +kernel
theorem rf_7_1 : refs 7 1 = 9 := by decide +kernel
theorem rf_7_2 : refs 7 2 = 10 := by decide +kernel
theorem rf_11_0 : refs 11 0 = 12 := by decide +kernel
theorem rf_11_1 : refs 11 1 = 13 := by decide +kernel
theorem rf_11_2 : refs 11 2 = 14 := by decide +kernel
theorem rf_15_0 : refs 15 0 = 16 := by decide +kernel
theorem rf_15_1 : refs 15 1 = 17 := by decide +kernel
theorem rf_15_2 : refs 15 2 = 18 := by decide +kernel
theorem rf_19_0 : refs 19 0 = 20 := by decide +kernel
theorem rf_19_1 : refs 19 1 = 21 := by decide +kernel
theorem rf_21_0 : refs 21 0 = 22 := by decide +kernel
theorem rf_21_1 : refs 21 1 = 23 := by decide +kernel
theorem rf_21_2 : refs 21 2 = 24 := by decide +kernel
theorem rf_21_3 : refs 21 3 = 25 := by decide +kernel
theorem rf_21_4 : refs 21 4 = 26 := by decide +kernel
theorem rf_26_0 : refs 26 0 = 27 := by decide +kernel
theorem rf_26_1 : refs 26 1 = 28 := by decide +kernel
theorem rf_26_2 : refs 26 2 = 29 := by decide +kernel
theorem rf_30_0 : refs 30 0 = 2 := by decide +kernel
theorem rf_30_1 : refs 30 1 = 31 := by decide +kernel
theorem rf_30_2 : refs 30 2 = 33 := by decide +kernel
theorem rf_31_0 : refs 31 0 = 32 := by decide +kernel
theorem rf_34_0 : refs 34 0 = 2 := by decide +kernel
theorem rf_34_1 : refs 34 1 = 30 := by decide +kernel
theorem rf_35_0 : refs 35 0 = 30 := by decide +kernel
theorem rf_35_1 : refs 35 1 = 36 := by decide +kernel
theorem rf_35_2 : refs 35 2 = 37 := by decide +kernel
theorem rf_35_3 : refs 35 3 = 38 := by decide +kernel
theorem rf_35_4 : refs 35 4 = 39 := by decide +kernel
theorem rf_35_5 : refs 35 5 = 40 := by decide +kernel
theorem rf_35_6 : refs 35 6 = 41 := by decide +kernel
theorem rf_35_7 : refs 35 7 = 42 := by decide +kernel
theorem rf_43_0 : refs 43 0 = 30 := by decide +kernel
theorem rf_43_1 : refs 43 1 = 44 := by decide +kernel
theorem rf_43_2 : refs 43 2 = 45 := by decide +kernel
theorem rf_43_3 : refs 43 3 = 46 := by decide +kernel
theorem rf_43_4 : refs 43 4 = 47 := by decide +kernel
theorem rf_43_5 : refs 43 5 = 48 := by decide +kernel
theorem rf_43_6 : refs 43 6 = 49 := by decide +kernel
theorem rf_43_7 : refs 43 7 = 50 := by decide +kernel
theorem rf_51_0 : refs 51 0 = 30 := by decide +kernel
theorem rf_51_1 : refs 51 1 = 52 := by decide +kernel
theorem rf_51_2 : refs 51 2 = 53 := by decide +kernel
theorem rf_54_0 : refs 54 0 = 30 := by decide +kernel
theorem rf_54_1 : refs 54 1 = 55 := by decide +kernel
theorem rf_55_0 : refs 55 0 = 56 := by decide +kernel
theorem rf_55_1 : refs 55 1 = 57 := by decide +kernel
theorem rf_55_2 : refs 55 2 = 58 := by decide +kernel
theorem rf_59_0 : refs 59 0 = 60 := by decide +kernel
theorem rf_61_0 : refs 61 0 = 62 := by decide +kernel
theorem rf_61_1 : refs 61 1 = 63 := by decide +kernel
theorem rf_61_2 : refs 61 2 = 64 := by decide +kernel
theorem rf_65_0 : refs 65 0 = 66 := by decide +kernel
theorem rf_65_1 : refs 65 1 = 67 := by decide +kernel
theorem rf_65_2 : refs 65 2 = 68 := by decide +kernel
theorem rf_69_0 : refs 69 0 = 70 := by decide +kernel
theorem rf_69_1 : refs 69 1 = 71 := by decide +kernel
theorem rf_69_2 : refs 69 2 = 72 := by decide +kernel
theorem rf_73_0 : refs 73 0 = 74 := by decide +kernel
theorem rf_73_1 : refs 73 1 = 75 := by decide +kernel
theorem rf_73_2 : refs 73 2 = 76 := by decide +kernel
theorem rf_77_0 : refs 77 0 = 78 := by decide +kernel
theorem rf_77_1 : refs 77 1 = 79 := by decide +kernel
theorem rf_77_2 : refs 77 2 = 80 := by decide +kernel
theorem rf_81_0 : refs 81 0 = 82 := by decide +kernel
theorem rf_81_1 : refs 81 1 = 83 := by decide +kernel
theorem rf_81_2 : refs 81 2 = 84 := by decide +kernel
theorem rf_85_0 : refs 85 0 = 86 := by decide +kernel
theorem rf_85_1 : refs 85 1 = 87 := by decide +kernel
theorem rf_85_2 : refs 85 2 = 88 := by decide +kernel
theorem rf_89_0 : refs 89 0 = 90 := by decide +kernel
theorem rf_89_1 : refs 89 1 = 91 := by decide +kernel
theorem rf_89_2 : refs 89 2 = 92 := by decide +kernel
theorem rf_93_0 : refs 93 0 = 94 := by decide +kernel
theorem rf_93_1 : refs 93 1 = 95 := by decide +kernel
theorem rf_93_2 : refs 93 2 = 96 := by decide +kernel
theorem rf_97_0 : refs 97 0 = 98 := by decide +kernel
theorem rf_97_1 : refs 97 1 = 99 := by decide +kernel
theorem rf_97_2 : refs 97 2 = 100 := by decide +kernel
theorem rf_104_0 : refs 104 0 = 105 := by decide +kernel
theorem rf_106_0 : refs 106 0 = 107 := by decide +kernel
theorem rf_108_0 : refs 108 0 = 109 := by decide +kernel
theorem rf_110_0 : refs 110 0 = 111 := by decide +kernel
theorem rf_112_0 : refs 112 0 = 113 := by decide +kernel
theorem rf_112_1 : refs 112 1 = 114 := by decide +kernel
theorem rf_112_2 : refs 112 2 = 115 := by decide +kernel
theorem rf_112_3 : refs 112 3 = 116 := by decide +kernel
theorem rf_112_4 : refs 112 4 = 117 := by decide +kernel
theorem rf_117_0 : refs 117 0 = 118 := by decide +kernel
theorem rf_117_1 : refs 117 1 = 119 := by decide +kernel
theorem rf_117_2 : refs 117 2 = 120 := by decide +kernel
theorem rf_121_0 : refs 121 0 = 122 := by decide +kernel
theorem rf_121_1 : refs 121 1 = 123 := by decide +kernel
theorem rf_121_2 : refs 121 2 = 124 := by decide +kernel
theorem rf_121_3 : refs 121 3 = 125 := by decide +kernel
theorem rf_121_4 : refs 121 4 = 126 := by decide +kernel
theorem rf_126_0 : refs 126 0 = 127 := by decide +kernel
theorem rf_126_1 : refs 126 1 = 128 := by decide +kernel
theorem rf_126_2 : refs 126 2 = 129 := by decide +kernel
theorem rf_130_1 : refs 130 1 = 131 := by decide +kernel
theorem rf_130_2 : refs 130 2 = 132 := by decide +kernel
theorem rf_130_3 : refs 130 3 = 133 := by decide +kernel
theorem rf_130_4 : refs 130 4 = 134 := by decide +kernel
theorem rf_130_16 : refs 130 16 = 135 := by decide +kernel
theorem rf_130_17 : refs 130 17 = 136 := by decide +kernel
theorem rf_130_18 : refs 130 18 = 137 := by decide +kernel
theorem rf_130_21 : refs 130 21 = 138 := by decide +kernel
theorem rf_130_22 : refs 130 22 = 139 := by decide +kernel
theorem rf_130_23 : refs 130 23 = 140 := by decide +kernel
theorem rf_130_24 : refs 130 24 = 141 := by decide +kernel
theorem rf_130_25 : refs 130 25 = 142 := by decide +kernel
theorem rf_130_26 : refs 130 26 = 143 := by decide +kernel
theorem rf_130_27 : refs 130 27 = 144 := by decide +kernel
theorem rf_130_28 : refs 130 28 = 145 := by decide +kernel
theorem rf_130_29 : refs 130 29 = 146 := by decide +kernel
theorem rf_130_30 : refs 130 30 = 147 := by decide +kernel
theorem rf_130_31 : refs 130 31 = 148 := by decide +kernel
theorem rf_130_32 : refs 130 32 = 149 := by decide +kernel
theorem rfO_6_0 {r : Nat} (h : sh r = (6, 4)) : refs r 0 = r + 1 := by
  have h1 := le149 h
  revert h
  have : ∀ r, r < 150 → sh r = (6, 4) → refs r 0 = r + 1 := by decide +kernel
  exact this r (by omega)
theorem shO_6_0 {r : Nat} (h : sh r = (6, 4)) : sh (r + 1) = (20, 8) := by
  have h1 := le149 h
  revert h
  have : ∀ r, r < 150 → sh r = (6, 4) → sh (r + 1) = (20, 8) := by decide +kernel
  exact this r (by omega)
theorem rfO_6_1 {r : Nat} (h : sh r = (6, 4)) : refs r 1 = r + 2 := by
  have h1 := le149 h
  revert h
  have : ∀ r, r < 150 → sh r = (6, 4) → refs r 1 = r + 2 := by decide +kernel
  exact this r (by omega)
theorem shO_6_1 {r : Nat} (h : sh r = (6, 4)) : sh (r + 2) = (20, 3) := by
  have h1 := le149 h
  revert h
  have : ∀ r, r < 150 → sh r = (6, 4) → sh (r + 2) = (20, 3) := by decide +kernel
  exact this r (by omega)
theorem rfO_6_2 {r : Nat} (h : sh r = (6, 4)) : refs r 2 = r + 3 := by
  have h1 := le149 h
  revert h
  have : ∀ r, r < 150 → sh r = (6, 4) → refs r 2 = r + 3 := by decide +kernel
  exact this r (by omega)
theorem shO_6_2 {r : Nat} (h : sh r = (6, 4)) : sh (r + 3) = (20, 3) := by
  have h1 := le149 h
  revert h
  have : ∀ r, r < 150 → sh r = (6, 4) → sh (r + 3) = (20, 3) := by decide +kernel
  exact this r (by omega)
theorem rfO_8_0 {r : Nat} (h : sh r = (8, 14)) : refs r 0 = r + 1 := by
  have h1 := le149 h
  revert h
  have : ∀ r, r < 150 → sh r = (8, 14) → refs r 0 = r + 1 := by decide +kernel
  exact this r (by omega)
theorem shO_8_0 {r : Nat} (h : sh r = (8, 14)) : sh (r + 1) = (20, 8) := by
  have h1 := le149 h
  revert h
  have : ∀ r, r < 150 → sh r = (8, 14) → sh (r + 1) = (20, 8) := by decide +kernel
  exact this r (by omega)
theorem rfO_8_1 {r : Nat} (h : sh r = (8, 14)) : refs r 1 = r + 2 := by
  have h1 := le149 h
  revert h
  have : ∀ r, r < 150 → sh r = (8, 14) → refs r 1 = r + 2 := by decide +kernel
  exact this r (by omega)
theorem shO_8_1 {r : Nat} (h : sh r = (8, 14)) : sh (r + 2) = (20, 8) := by
  have h1 := le149 h
  revert h
  have : ∀ r, r < 150 → sh r = (8, 14) → sh (r + 2) = (20, 8) := by decide +kernel
  exact this r (by omega)
theorem rfO_8_2 {r : Nat} (h : sh r = (8, 14)) : refs r 2 = r + 3 := by
  have h1 := le149 h
  revert h
  have : ∀ r, r < 150 → sh r = (8, 14) → refs r 2 = r + 3 := by decide +kernel
  exact this r (by omega)
theorem shO_8_2 {r : Nat} (h : sh r = (8, 14)) : sh (r + 3) = (20, 8) := by
  have h1 := le149 h
  revert h
  have : ∀ r, r < 150 → sh r = (8, 14) → sh (r + 3) = (20, 8) := by decide +kernel
  exact this r (by omega)
theorem rfO_8_3 {r : Nat} (h : sh r = (8, 14)) : refs r 3 = r + 4 := by
  have h1 := le149 h
  revert h
  have : ∀ r, r < 150 → sh r = (8, 14) → refs r 3 = r + 4 := by decide +kernel
  exact this r (by omega)
theorem shO_8_3 {r : Nat} (h : sh r = (8, 14)) : sh (r + 4) = (20, 900) := by
  have h1 := le149 h
  revert h
  have : ∀ r, r < 150 → sh r = (8, 14) → sh (r + 4) = (20, 900) := by decide +kernel
  exact this r (by omega)
theorem rfO_8_4 {r : Nat} (h : sh r = (8, 14)) : refs r 4 = r + 5 := by
  have h1 := le149 h
  revert h
  have : ∀ r, r < 150 → sh r = (8, 14) → refs r 4 = r + 5 := by decide +kernel
  exact this r (by omega)
theorem shO_8_4 {r : Nat} (h : sh r = (8, 14)) : sh (r + 5) = (6, 4) := by
  have h1 := le149 h
  revert h
  have : ∀ r, r < 150 → sh r = (8, 14) → sh (r + 5) = (6, 4) := by decide +kernel
  exact this r (by omega)
theorem rfO_9_0 {r : Nat} (h : sh r = (9, 3)) : refs r 0 = r + 1 := by
  have h1 := le149 h
  revert h
  have : ∀ r, r < 150 → sh r = (9, 3) → refs r 0 = r + 1 := by decide +kernel
  exact this r (by omega)
theorem shO_9_0 {r : Nat} (h : sh r = (9, 3)) : sh (r + 1) = (21, 40) := by
  have h1 := le149 h
  revert h
  have : ∀ r, r < 150 → sh r = (9, 3) → sh (r + 1) = (21, 40) := by decide +kernel
  exact this r (by omega)
theorem rfO_10_0 {r : Nat} (h : sh r = (10, 10)) : refs r 0 = 30 := by
  have h1 := le149 h
  revert h
  have : ∀ r, r < 150 → sh r = (10, 10) → refs r 0 = 30 := by decide +kernel
  exact this r (by omega)
theorem rfO_10_1 {r : Nat} (h : sh r = (10, 10)) : refs r 1 = r + 1 := by
  have h1 := le149 h
  revert h
  have : ∀ r, r < 150 → sh r = (10, 10) → refs r 1 = r + 1 := by decide +kernel
  exact this r (by omega)
theorem shO_10_1 {r : Nat} (h : sh r = (10, 10)) : sh (r + 1) = (20, 120) := by
  have h1 := le149 h
  revert h
  have : ∀ r, r < 150 → sh r = (10, 10) → sh (r + 1) = (20, 120) := by decide +kernel
  exact this r (by omega)
theorem rfO_10_2 {r : Nat} (h : sh r = (10, 10)) : refs r 2 = r + 2 := by
  have h1 := le149 h
  revert h
  have : ∀ r, r < 150 → sh r = (10, 10) → refs r 2 = r + 2 := by decide +kernel
  exact this r (by omega)
theorem shO_10_2 {r : Nat} (h : sh r = (10, 10)) : sh (r + 2) = (20, 120) := by
  have h1 := le149 h
  revert h
  have : ∀ r, r < 150 → sh r = (10, 10) → sh (r + 2) = (20, 120) := by decide +kernel
  exact this r (by omega)
theorem rfO_10_3 {r : Nat} (h : sh r = (10, 10)) : refs r 3 = r + 3 := by
  have h1 := le149 h
  revert h
  have : ∀ r, r < 150 → sh r = (10, 10) → refs r 3 = r + 3 := by decide +kernel
  exact this r (by omega)
theorem shO_10_3 {r : Nat} (h : sh r = (10, 10)) : sh (r + 3) = (20, 120) := by
  have h1 := le149 h
  revert h
  have : ∀ r, r < 150 → sh r = (10, 10) → sh (r + 3) = (20, 120) := by decide +kernel
  exact this r (by omega)
theorem rfO_10_4 {r : Nat} (h : sh r = (10, 10)) : refs r 4 = r + 4 := by
  have h1 := le149 h
  revert h
  have : ∀ r, r < 150 → sh r = (10, 10) → refs r 4 = r + 4 := by decide +kernel
  exact this r (by omega)
theorem shO_10_4 {r : Nat} (h : sh r = (10, 10)) : sh (r + 4) = (20, 120) := by
  have h1 := le149 h
  revert h
  have : ∀ r, r < 150 → sh r = (10, 10) → sh (r + 4) = (20, 120) := by decide +kernel
  exact this r (by omega)
theorem rfO_10_5 {r : Nat} (h : sh r = (10, 10)) : refs r 5 = r + 5 := by
  have h1 := le149 h
  revert h
  have : ∀ r, r < 150 → sh r = (10, 10) → refs r 5 = r + 5 := by decide +kernel
  exact this r (by omega)
theorem shO_10_5 {r : Nat} (h : sh r = (10, 10)) : sh (r + 5) = (20, 6) := by
  have h1 := le149 h
  revert h
  have : ∀ r, r < 150 → sh r = (10, 10) → sh (r + 5) = (20, 6) := by decide +kernel
  exact this r (by omega)
theorem rfO_10_6 {r : Nat} (h : sh r = (10, 10)) : refs r 6 = r + 6 := by
  have h1 := le149 h
  revert h
  have : ∀ r, r < 150 → sh r = (10, 10) → refs r 6 = r + 6 := by decide +kernel
  exact this r (by omega)
theorem shO_10_6 {r : Nat} (h : sh r = (10, 10)) : sh (r + 6) = (20, 120) := by
  have h1 := le149 h
  revert h
  have : ∀ r, r < 150 → sh r = (10, 10) → sh (r + 6) = (20, 120) := by decide +kernel
  exact this r (by omega)
theorem rfO_10_7 {r : Nat} (h : sh r = (10, 10)) : refs r 7 = r + 7 := by
  have h1 := le149 h
  revert h
  have : ∀ r, r < 150 → sh r = (10, 10) → refs r 7 = r + 7 := by decide +kernel
  exact this r (by omega)
theorem shO_10_7 {r : Nat} (h : sh r = (10, 10)) : sh (r + 7) = (20, 120) := by
  have h1 := le149 h
  revert h
  have : ∀ r, r < 150 → sh r = (10, 10) → sh (r + 7) = (20, 120) := by decide +kernel
  exact this r (by omega)
theorem pl_J0 : plainName RJ0 = true := by decide +kernel
theorem pl_J1 : plainName RJ1 = true := by decide +kernel
theorem pl_J11 : plainName RJ11 = true := by decide +kernel
theorem pl_J2 : plainName RJ2 = true := by decide +kernel
theorem pl_J3 : plainName RJ3 = true := by decide +kernel
theorem pl_J6 : plainName RJ6 = true := by decide +kernel
theorem pl_J7 : plainName RJ7 = true := by decide +kernel
theorem pl_L : plainName RL = true := by decide +kernel
theorem pl_X0 : plainName RX0 = true := by decide +kernel
theorem pl_X1 : plainName RX1 = true := by decide +kernel
theorem pl_X10 : plainName RX10 = true := by decide +kernel
theorem pl_X11 : plainName RX11 = true := by decide +kernel
theorem pl_X12 : plainName RX12 = true := by decide +kernel
theorem pl_X2 : plainName RX2 = true := by decide +kernel
theorem pl_X3 : plainName RX3 = true := by decide +kernel
theorem pl_X4 : plainName RX4 = true := by decide +kernel
theorem pl_X5 : plainName RX5 = true := by decide +kernel
theorem pl_X6 : plainName RX6 = true := by decide +kernel
theorem pl_X7 : plainName RX7 = true := by decide +kernel
theorem pl_X8 : plainName RX8 = true := by decide +kernel
theorem pl_X9 : plainName RX9 = true := by decide +kernel
