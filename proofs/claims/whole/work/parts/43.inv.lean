/-! the pure picture: R is the reference's row of the town (cell 131) -/
def codeRel (c m : Int) : Prop := (0 ≤ c ∧ c < 1000 ∧ m = c) ∨ (c = 1001 ∧ m = 1000) ∨ (c = 1007 ∧ m = 1001) ∨ (c = 1003 ∧ m = 1002) ∨ (c = 1014 ∧ m = 1003) ∨ (c = 1004 ∧ m = 1004) ∨ (c = 1002 ∧ m = 1005) ∨ (c = 2043 ∧ m = 3000) ∨ (c = 2045 ∧ m = 3001) ∨ (c = 2042 ∧ m = 3002) ∨ (c = 2061 ∧ m = 3003) ∨ (c = 2060 ∧ m = 3004) ∨ (c = 2062 ∧ m = 3005) ∨ (c = 3015 ∧ m = 3006) ∨ (c = 3016 ∧ m = 3007) ∨ (c = 3017 ∧ m = 3008) ∨ (c = 3010 ∧ m = 3009)
def pt {α : Type} (f : Nat → α) (h : Nat) (v : α) : Nat → α := fun i => if i = h then v else f i
def tyS (m : Int) (q : Nat × (Nat → Bool)) : Option (Nat × (Nat → Bool)) :=
  if m < 3000 then (if 0 ≤ m ∧ m < 1006 ∧ q.1 < 40 then some (q.1 + 1, pt q.2 q.1 false) else none)
  else if m < 3003 then (if 2 ≤ q.1 ∧ q.2 (q.1 - 1) = false ∧ q.2 (q.1 - 2) = false then some (q.1 - 1, pt q.2 (q.1 - 2) false) else none)
  else if m < 3006 then (if 2 ≤ q.1 ∧ q.2 (q.1 - 1) = false ∧ q.2 (q.1 - 2) = false then some (q.1 - 1, pt q.2 (q.1 - 2) true) else none)
  else if m = 3006 then (if 1 ≤ q.1 ∧ q.2 (q.1 - 1) = true then some q else none)
  else if m < 3009 then (if 2 ≤ q.1 ∧ q.2 (q.1 - 1) = true ∧ q.2 (q.1 - 2) = true then some (q.1 - 1, q.2) else none)
  else if m = 3009 then (if 3 ≤ q.1 ∧ q.2 (q.1 - 1) = false ∧ q.2 (q.1 - 2) = false ∧ q.2 (q.1 - 3) = true then some (q.1 - 2, pt q.2 (q.1 - 3) false) else none)
  else none
def tyR (code : Nat → Int) : Nat → Option (Nat × (Nat → Bool))
  | 0 => some (0, fun _ => false)
  | n + 1 => (tyR code n).bind (tyS (code n))
def btw (m a b : Int) : Int :=
  if m = 3003 then (if a = b then 1 else 0) else if m = 3004 then (if a < b then 1 else 0) else if m = 3005 then (if b < a then 1 else 0)
  else if m = 3007 then jand a b else if m = 3008 then jor a b
  else if 1000000 < (if m = 3000 then a + b else if m = 3001 then a - b else a * b) then 1000000
  else if (if m = 3000 then a + b else if m = 3001 then a - b else a * b) < -1000000 then -1000000
  else (if m = 3000 then a + b else if m = 3001 then a - b else a * b)
def evS (wd : Nat → Int) (m : Int) (q : Nat × (Nat → Int)) : Nat × (Nat → Int) :=
  if m < 3000 then (q.1 + 1, pt q.2 q.1 (if m < 1000 then m else wd (m - 1000).toNat))
  else if m = 3006 then (q.1, pt q.2 (q.1 - 1) (1 - q.2 (q.1 - 1)))
  else if m = 3009 then (q.1 - 2, pt q.2 (q.1 - 3) (if q.2 (q.1 - 3) = 1 then q.2 (q.1 - 2) else q.2 (q.1 - 1)))
  else (q.1 - 1, pt q.2 (q.1 - 2) (btw m (q.2 (q.1 - 2)) (q.2 (q.1 - 1))))
def evR (wd : Nat → Int) (code : Nat → Int) : Nat → Nat × (Nat → Int)
  | 0 => (0, fun _ => 0)
  | n + 1 => evS wd (code n) (evR wd code n)
def wdP (R : Nat → Int) (g s year ag bol : Int) : Nat → Int := fun j => if j = 0 then s else if j = 1 then R (26 + s).toNat else if j = 2 then year else if j = 3 then ag else if j = 4 then bol else g
def codeP (R : Nat → Int) (l : Nat) : Nat → Int := fun k => R (201 + (R (6 + l)).toNat + k)
def lawP (R : Nat → Int) (l : Nat) (g s year ag bol : Int) : Int := (evR (wdP R g s year ag bol) (codeP R l) (R (8 + l)).toNat).2 0
def shP (R : Nat → Int) (g s side year bol : Int) : Int := if R 4 = 1 then lawP R 0 g s year side bol else if side = 1 then - R (26 + s).toNat else R (26 + s).toNat
def yearP (R : Nat → Int) (g s side year bol : Int) : Int :=
  if R 5 = 1 ∧ lawP R 1 g s year side bol = 0 then -3
  else if 0 ≤ year + shP R g s side year bol ∧ year + shP R g s side year bol ≤ 19 then year + shP R g s side year bol else -4
def sideP (R : Nat → Int) (s c sg : Int) : Int :=
  if c = R (10 + s).toNat then (if sg = 0 ∨ sg = 2 then 0 else -1) else if c = R (18 + s).toNat then (if sg = 1 ∨ sg = 2 then 1 else -1) else -1
def aftP (R : Nat → Int) (g s spot sg bol : Int) : Int :=
  if sideP R s (spot / 20) sg = -1 then -2
  else if yearP R g s (sideP R s (spot / 20) sg) (spot % 20) bol < 0 then yearP R g s (sideP R s (spot / 20) sg) (spot % 20) bol
  else (if sideP R s (spot / 20) sg = 0 then R (18 + s).toNat else R (10 + s).toNat) * 20 + yearP R g s (sideP R s (spot / 20) sg) (spot % 20) bol
/-! what holds between calls -/
def stEq (S : SS) (r : Nat) (Q : Nat → Int) (o : Nat) : Prop :=
  (∀ i, i < 3 → S (r + 2) i = Q (o + i)) ∧ (∀ i, i < 3 → S (r + 3) i = Q (o + 3 + i)) ∧ (∀ i, i < 8 → S (r + 1) i = Q (o + 6 + i)) ∧ S r 3 = Q (o + 14)
def stBd (Q : Nat → Int) (o : Nat) (C : Int) : Prop :=
  (∀ i, i < 3 → 0 ≤ Q (o + i) ∧ Q (o + i) < C) ∧ (∀ i, i < 3 → 0 ≤ Q (o + 3 + i) ∧ Q (o + 3 + i) ≤ 19) ∧ (∀ i, i < 8 → 0 ≤ Q (o + 6 + i) ∧ Q (o + 6 + i) ≤ 3) ∧ (0 ≤ Q (o + 14) ∧ Q (o + 14) ≤ 9)
def lawB (Q : Nat → Int) (l : Nat) (b : Bool) : Prop :=
  Q (4 + l) = 0 ∨ (Q (4 + l) = 1 ∧ 0 ≤ Q (6 + l) ∧ 1 ≤ Q (8 + l) ∧ Q (6 + l) + Q (8 + l) ≤ Q 200 ∧ ∃ ty, tyR (codeP Q l) (Q (8 + l)).toNat = some (1, ty) ∧ ty 0 = b)
def townB (Q : Nat → Int) : Prop :=
  (1 ≤ Q 1 ∧ Q 1 ≤ 6) ∧ (0 ≤ Q 2 ∧ Q 2 ≤ 8) ∧ (0 ≤ Q 3 ∧ Q 3 ≤ 3) ∧ cI (Q 0) ∧ (0 ≤ Q 200 ∧ Q 200 ≤ 900)
  ∧ (∀ s : Nat, (s : Int) < Q 2 → (0 ≤ Q (10 + s) ∧ Q (10 + s) < Q 1) ∧ (0 ≤ Q (18 + s) ∧ Q (18 + s) < Q 1) ∧ Q (10 + s) ≠ Q (18 + s) ∧ (-9 ≤ Q (26 + s) ∧ Q (26 + s) ≤ 9))
  ∧ lawB Q 0 false ∧ lawB Q 1 true
def townR (S : SS) (t : Nat) (Q : Nat → Int) : Prop :=
  (S t 5 = Q 1 ∧ S t 6 = Q 2 ∧ S t 7 = Q 3 ∧ S t 8 = Q 0 ∧ S t 9 = Q 200)
  ∧ (∀ s : Nat, (s : Int) < Q 2 → S (t + 1) s = Q (10 + s) ∧ S (t + 2) s = Q (18 + s) ∧ S (t + 3) s = Q (26 + s))
  ∧ (∀ k : Nat, (k : Int) < Q 200 → codeRel (S (t + 4) k) (Q (201 + k)))
  ∧ ((Q 4 = 0 ∧ S t 10 = S t 11) ∨ (Q 4 = 1 ∧ S t 10 = Q 6 ∧ S t 11 = Q 6 + Q 8))
  ∧ ((Q 5 = 0 ∧ S t 12 = S t 13) ∨ (Q 5 = 1 ∧ S t 12 = Q 7 ∧ S t 13 = Q 7 + Q 9))
def lanes (S : SS) : Prop :=
  S 30 3 = -1 ∨ ((0 ≤ S 30 3 ∧ S 30 3 ≤ 9) ∧ ∀ g s side year : Int, 0 ≤ g → g < S 131 3 → 0 ≤ s → s < S 131 2 → 0 ≤ side → side ≤ 1 → 0 ≤ year → year ≤ 19 →
    S 33 ((((g * 8 + s) * 2 + side) * 20 + year)).toNat = 0 ∨ S 33 ((((g * 8 + s) * 2 + side) * 20 + year)).toNat = yearP (S 131) g s side year (S 30 3) + 10)
def Core (S : SS) : Prop := townR S 2 (S 131) ∧ townB (S 131) ∧ lanes S
def kAt (S : SS) (i : Nat) : Nat := 61 + 4 * ((S 59 1 + i) % 10).toNat
def hist (S : SS) : Prop :=
  (S 59 2 = S 131 49 ∧ 0 ≤ S 131 49 ∧ S 131 49 ≤ 10 ∧ 0 ≤ S 59 1 ∧ S 59 1 < 10)
  ∧ ∀ i : Nat, (i : Int) < S 131 49 → stEq S (kAt S i) (S 131) (50 + 15 * i) ∧ stBd (S 131) (50 + 15 * i) (S 131 1)
def tape (S : SS) : Prop :=
  (S 19 2 = S 130 5 ∧ 0 ≤ S 130 5 ∧ S 130 5 ≤ 900) ∧ (∀ k : Nat, (k : Int) < S 130 5 → S 133 k = S 20 k % 256 ∧ -128 ≤ S 20 k ∧ S 20 k ≤ 127)
  ∧ S 19 9 = S 130 13 ∧ S 19 10 = S 130 14
def tray (S : SS) (i : Nat) : Prop :=
  (S 147 i = -1 ∧ S (104 + 2 * i) 2 = -1) ∨ ((0 ≤ S 147 i ∧ S 147 i ≤ 3 ∧ S (104 + 2 * i) 1 = S 147 i ∧ S (104 + 2 * i) 2 = S 148 i ∧ 0 ≤ S 148 i ∧ S 148 i ≤ 40)
    ∧ ∀ k : Nat, (k : Int) < S 148 i → S (105 + 2 * i) k = S 149 (40 * i + k) ∧ cL (S 149 (40 * i + k)))
def sft (Q : Nat → Int) (o : Nat) : Nat → Int := fun k => Q (o + k)
def imag (S : SS) (i : Nat) (b : Bool) : Prop :=
  (b = false ∧ S 132 i = 0) ∨ (b = true ∧ S 132 i = 1 ∧ townR S (112 + 9 * i) (sft (S 131) (1101 * (i + 1))) ∧ townB (sft (S 131) (1101 * (i + 1)))
    ∧ stEq S (117 + 9 * i) (sft (S 131) (1101 * (i + 1))) 34 ∧ stBd (sft (S 131) (1101 * (i + 1))) 34 (S 131 (1101 * (i + 1) + 1)))
def Imgs (S : SS) : Prop := ∃ b0 b1 : Bool, S 1 15 = (if b0 then 1 else 0) + (if b1 then 2 else 0) ∧ imag S 0 b0 ∧ imag S 1 b1
def Stand (S : SS) : Prop := stEq S 7 (S 131) 34 ∧ stBd (S 131) 34 (S 131 1)
def Trays (S : SS) : Prop := tray S 0 ∧ tray S 1 ∧ tray S 2 ∧ tray S 3
def Inv (S : SS) : Prop := S 130 0 = 0 ∧ Core S ∧ Stand S ∧ hist S ∧ tape S ∧ Trays S ∧ Imgs S
/-! the start -/
theorem s0_131 : ∀ k, S0 131 k = if k = 1 then 1 else 0 := by
  intro k
  by_cases h : k = 1
  · subst h; rfl
  · rw [if_neg h]
    show up (upI SL2) 131 1 1 131 k = 0
    unfold up
    rw [if_neg (by omega)]
    simp [upI, SL2, SL1, up]
theorem inv_S0 : Inv S0 := by
  have R := s0_131
  refine ⟨rfl, ⟨⟨⟨?_, ?_, ?_, ?_, ?_⟩, ?_, ?_, Or.inl ⟨?_, ?_⟩, Or.inl ⟨?_, ?_⟩⟩, ⟨?_, ?_, ?_, ?_, ?_, ?_, Or.inl ?_, Or.inl ?_⟩, Or.inl ?_⟩, ⟨⟨?_, ?_, ?_, ?_⟩, ⟨?_, ?_, ?_, ?_⟩⟩, ⟨⟨?_, ?_, ?_, ?_, ?_⟩, ?_⟩, ⟨⟨?_, ?_, ?_⟩, ?_, ?_, ?_⟩, ⟨Or.inl ⟨?_, ?_⟩, Or.inl ⟨?_, ?_⟩, Or.inl ⟨?_, ?_⟩, Or.inl ⟨?_, ?_⟩⟩, ⟨false, false, ?_, Or.inl ⟨rfl, ?_⟩, Or.inl ⟨rfl, ?_⟩⟩⟩
  all_goals first | rfl | decide | (intro s hs; rw [R] at hs; simp at hs; omega) | (unfold cI; rw [R]; decide) | (rw [R]; decide) | (intro k hk; have : S0 130 5 = 0 := rfl; omega) | skip
