theorem bnd_s {α β : Type} {a : α} {f : α → Option β} : Option.bind (some a) f = f a := rfl
theorem lc_s (a : Int) : lc a a = 0 := by unfold lc; simp
def Cal (Inv : SS → Prop) (f g : SS → Option (Int × SS)) : Prop := ∀ S, Inv S → ∃ r S1 S2, f S = some (r, S1) ∧ g S1 = some (r, S2) ∧ Inv S2
def CalV (Inv : SS → Prop) (f : SS → Option Int) (g : SS → Option (Int × SS)) : Prop := ∀ S, Inv S → ∃ r S2, f S = some r ∧ g S = some (r, S2) ∧ Inv S2
def K_feed (Inv : SS → Prop) : Prop := ∀ a b c d e : Int, cI a → cI b → cI c → cI d → cI e → Cal Inv (fX11_feed a b c d e) (fX12_feed a b c d e)
def K_town (Inv : SS → Prop) : Prop := ∀ a : Int, cI a → Cal Inv (fX11_town a) (fX12_town a)
def K_fault (Inv : SS → Prop) : Prop := ∀ a : Int, cI a → CalV Inv (fX11_fault a) (fX12_fault a)
def K_street (Inv : SS → Prop) : Prop := ∀ a b : Int, cI a → cI b → CalV Inv (fX11_street a b) (fX12_street a b)
def K_goer (Inv : SS → Prop) : Prop := ∀ a b : Int, cI a → cI b → Cal Inv (fX11_goer a b) (fX12_goer a b)
def K_why (Inv : SS → Prop) : Prop := ∀ a b : Int, cI a → cI b → Cal Inv (fX11_why a b) (fX12_why a b)
def K_by (Inv : SS → Prop) : Prop := ∀ a b c : Int, cI a → cI b → cI c → Cal Inv (fX11_by a b c) (fX12_by a b c)
def K_go (Inv : SS → Prop) : Prop := ∀ a b : Int, cI a → cI b → Cal Inv (fX11_go a b) (fX12_go a b)
def K_sign (Inv : SS → Prop) : Prop := ∀ a b : Int, cI a → cI b → Cal Inv (fX11_sign a b) (fX12_sign a b)
def K_bollards (Inv : SS → Prop) : Prop := ∀ a : Int, cI a → Cal Inv (fX11_bollards a) (fX12_bollards a)
def K_put (Inv : SS → Prop) : Prop := ∀ a b c : Int, cI a → cI b → cI c → Cal Inv (fX11_put a b c) (fX12_put a b c)
def K_undo (Inv : SS → Prop) : Prop := ∀ a : Int, cI a → Cal Inv (fX11_undo a) (fX12_undo a)
def K_judge (Inv : SS → Prop) : Prop := ∀ a b : Int, cI a → cI b → Cal Inv (fX11_judge a b) (fX12_judge a b)
def K_perform (Inv : SS → Prop) : Prop := ∀ a : Int, cI a → Cal Inv (fX11_perform a) (fX12_perform a)
def K_day (Inv : SS → Prop) : Prop := ∀ a b : Int, cI a → cI b → Cal Inv (fX11_day a b) (fX12_day a b)
def K_soonest (Inv : SS → Prop) : Prop := ∀ a b c : Int, cI a → cI b → cI c → Cal Inv (fX11_soonest a b c) (fX12_soonest a b c)
def K_way (Inv : SS → Prop) : Prop := ∀ a b c d : Int, cI a → cI b → cI c → cI d → Cal Inv (fX11_way a b c d) (fX12_way a b c d)
def K_rows (Inv : SS → Prop) : Prop := ∀ a b c d : Int, cI a → cI b → cI c → cI d → Cal Inv (fX11_rows a b c d) (fX12_rows a b c d)
def K_when (Inv : SS → Prop) : Prop := ∀ a b : Int, cI a → cI b → Cal Inv (fX11_when a b) (fX12_when a b)
def K_bound (Inv : SS → Prop) : Prop := ∀ a b : Int, cI a → cI b → Cal Inv (fX11_bound a b) (fX12_bound a b)
def K_reach (Inv : SS → Prop) : Prop := ∀ a : Int, cI a → Cal Inv (fX11_reach a) (fX12_reach a)
def K_meet (Inv : SS → Prop) : Prop := ∀ a b : Int, cI a → cI b → Cal Inv (fX11_meet a b) (fX12_meet a b)
def K_meetAt (Inv : SS → Prop) : Prop := ∀ a b c : Int, cI a → cI b → cI c → Cal Inv (fX11_meetAt a b c) (fX12_meetAt a b c)
def K_ring (Inv : SS → Prop) : Prop := ∀ a : Int, cI a → Cal Inv (fX11_ring a) (fX12_ring a)
def K_laws (Inv : SS → Prop) : Prop := ∀ a : Int, cI a → Cal Inv (fX11_laws a) (fX12_laws a)
def K_bylaw (Inv : SS → Prop) : Prop := ∀ a b : Int, cI a → cI b → Cal Inv (fX11_bylaw a b) (fX12_bylaw a b)
def K_shut (Inv : SS → Prop) : Prop := ∀ a b c : Int, cI a → cI b → cI c → Cal Inv (fX11_shut a b c) (fX12_shut a b c)
def K_needed (Inv : SS → Prop) : Prop := ∀ a b : Int, cI a → cI b → Cal Inv (fX11_needed a b) (fX12_needed a b)
def K_from (Inv : SS → Prop) : Prop := ∀ a b c : Int, cI a → cI b → cI c → Cal Inv (fX11_from a b c) (fX12_from a b c)
def K_bollardsBy (Inv : SS → Prop) : Prop := ∀ a b c : Int, cI a → cI b → cI c → Cal Inv (fX11_bollardsBy a b c) (fX12_bollardsBy a b c)
def K_attempt (Inv : SS → Prop) : Prop := ∀ a b c : Int, cI a → cI b → cI c → Cal Inv (fX11_attempt a b c) (fX12_attempt a b c)
def K_forces (Inv : SS → Prop) : Prop := ∀ a b : Int, cI a → cI b → Cal Inv (fX11_forces a b) (fX12_forces a b)
def K_best (Inv : SS → Prop) : Prop := ∀ a b : Int, cI a → cI b → Cal Inv (fX11_best a b) (fX12_best a b)
def K_chance (Inv : SS → Prop) : Prop := ∀ a b c d : Int, cI a → cI b → cI c → cI d → Cal Inv (fX11_chance a b c d) (fX12_chance a b c d)
def K_mean (Inv : SS → Prop) : Prop := ∀ a b c : Int, cI a → cI b → cI c → Cal Inv (fX11_mean a b c) (fX12_mean a b c)
def K_likeliest (Inv : SS → Prop) : Prop := ∀ a b : Int, cI a → cI b → Cal Inv (fX11_likeliest a b) (fX12_likeliest a b)
def K_numbers (Inv : SS → Prop) : Prop := ∀ a b c : Int, cI a → cI b → cI c → Cal Inv (fX11_numbers a b c) (fX12_numbers a b c)
def K_write (Inv : SS → Prop) : Prop := ∀ a b c d : Int, cI a → cI b → cI c → cI d → Cal Inv (fX11_write a b (kor (kshl c 32) (kand d 4294967295))) (fX12_write a b (kor (kshl c 32) (kand d 4294967295)))
def K_lists (Inv : SS → Prop) : Prop := ∀ a b c d : Int, cI a → cI b → cI c → cI d → Cal Inv (fX11_lists a b c d) (fX12_lists a b c d)
def K_image (Inv : SS → Prop) : Prop := ∀ a : Int, cI a → Cal Inv (fX11_image a) (fX12_image a)
def K_restore (Inv : SS → Prop) : Prop := ∀ a : Int, cI a → Cal Inv (fX11_restore a) (fX12_restore a)
def K_count (Inv : SS → Prop) : Prop := ∀ a : Int, cI a → CalV Inv (fX11_count a) (fX12_count a)
def AllCalls (Inv : SS → Prop) : Prop := K_feed Inv ∧ K_town Inv ∧ K_fault Inv ∧ K_street Inv ∧ K_goer Inv ∧ K_why Inv ∧ K_by Inv ∧ K_go Inv ∧ K_sign Inv ∧ K_bollards Inv ∧ K_put Inv ∧ K_undo Inv ∧ K_judge Inv ∧ K_perform Inv ∧ K_day Inv ∧ K_soonest Inv ∧ K_way Inv ∧ K_rows Inv ∧ K_when Inv ∧ K_bound Inv ∧ K_reach Inv ∧ K_meet Inv ∧ K_meetAt Inv ∧ K_ring Inv ∧ K_laws Inv ∧ K_bylaw Inv ∧ K_shut Inv ∧ K_needed Inv ∧ K_from Inv ∧ K_bollardsBy Inv ∧ K_attempt Inv ∧ K_forces Inv ∧ K_best Inv ∧ K_chance Inv ∧ K_mean Inv ∧ K_likeliest Inv ∧ K_numbers Inv ∧ K_write Inv ∧ K_lists Inv ∧ K_image Inv ∧ K_restore Inv ∧ K_count Inv
set_option maxRecDepth 100000 in
set_option maxHeartbeats 40000000 in
theorem law_loop {Inv : SS → Prop} (H : AllCalls Inv) {L : Nat} {A : Nat → Int} (hL : L ≤ 3072) (hA : ∀ j, cI (A j)) : ∀ (n : Nat) (l3 : Int) (S : SS), Inv S → 0 ≤ l3 → l3 ≤ L → (L : Int) + 1 ≤ l3 + n → ∃ S', fL_law_L18 L A n l3 S = some (0, S') := by
  obtain ⟨H0, H1, H2, H3, H4, H5, H6, H7, H8, H9, H10, H11, H12, H13, H14, H15, H16, H17, H18, H19, H20, H21, H22, H23, H24, H25, H26, H27, H28, H29, H30, H31, H32, H33, H34, H35, H36, H37, H38, H39, H40, H41⟩ := H
  intro n
  induction n with
  | zero => intro l3 S _ h1 h2 h3; exact absurd h3 (by simp; omega)
  | succ n ih =>
    intro l3 S hS h1 h2 h3
    have e0 : w32 ((L : Int) - 6) = L - 6 := w32_id (by unfold cI; omega)
    unfold fL_law_L18
    rw [e0]
    by_cases hc : (L : Int) - 6 < l3
    · rw [if_pos hc]; exact ⟨_, rfl⟩
    rw [if_neg hc]
    have R0 : ∀ k : Int → Option (Nat × SS), rdS L A l3 k = k (A l3.toNat) := fun k => by unfold rdS; rw [if_pos (by omega)]
    have W6 : w32 (l3 + 6) = l3 + 6 := w32_id (by unfold cI; omega)
    have R1 : ∀ k : Int → Option (Nat × SS), rdS L A (w32 (l3 + 1)) k = k (A (l3 + 1).toNat) := fun k => by rw [w32_id (by unfold cI; omega)]; unfold rdS; rw [if_pos (by omega)]
    have R2 : ∀ k : Int → Option (Nat × SS), rdS L A (w32 (l3 + 2)) k = k (A (l3 + 2).toNat) := fun k => by rw [w32_id (by unfold cI; omega)]; unfold rdS; rw [if_pos (by omega)]
    have R3 : ∀ k : Int → Option (Nat × SS), rdS L A (w32 (l3 + 3)) k = k (A (l3 + 3).toNat) := fun k => by rw [w32_id (by unfold cI; omega)]; unfold rdS; rw [if_pos (by omega)]
    have R4 : ∀ k : Int → Option (Nat × SS), rdS L A (w32 (l3 + 4)) k = k (A (l3 + 4).toNat) := fun k => by rw [w32_id (by unfold cI; omega)]; unfold rdS; rw [if_pos (by omega)]
    have R5 : ∀ k : Int → Option (Nat × SS), rdS L A (w32 (l3 + 5)) k = k (A (l3 + 5).toNat) := fun k => by rw [w32_id (by unfold cI; omega)]; unfold rdS; rw [if_pos (by omega)]
    have N : ∀ S', Inv S' → ∃ S'', (lt (w32 (l3 + 6)) fun x => fL_law_L18 L A n x S') = some (0, S'') := fun S' h' => by
      show ∃ S'', fL_law_L18 L A n (w32 (l3 + 6)) S' = some (0, S'')
      rw [W6]
      exact ih _ _ h' (by omega) (by omega) (by push_cast at h3; omega)
    rw [R0]
    by_cases c0 : jand (A l3.toNat) 63 = 0
    · obtain ⟨r, S1, S2, q1, q2, q3⟩ := H0 (A (l3 + 1).toNat) (A (l3 + 2).toNat) (A (l3 + 3).toNat) (A (l3 + 4).toNat) (A (l3 + 5).toNat) (hA _) (hA _) (hA _) (hA _) (hA _) S hS
      rw [if_pos c0]
      simp only [R1, R2, R3, R4, R5, q1, q2, bnd_s, if_true]
      exact N _ q3
    rw [if_neg c0]
    by_cases c1 : jand (A l3.toNat) 63 = 1
    · obtain ⟨r, S1, S2, q1, q2, q3⟩ := H1 (A (l3 + 1).toNat) (hA _) S hS
      rw [if_pos c1]
      simp only [R1, R2, R3, R4, R5, q1, q2, bnd_s, if_true]
      exact N _ q3
    rw [if_neg c1]
    by_cases c2 : jand (A l3.toNat) 63 = 2
    · obtain ⟨r, S2, q1, q2, q3⟩ := H2 (A (l3 + 1).toNat) (hA _) S hS
      rw [if_pos c2]
      simp only [R1, R2, R3, R4, R5, q1, q2, bnd_s, if_true]
      exact N _ q3
    rw [if_neg c2]
    by_cases c3 : jand (A l3.toNat) 63 = 3
    · obtain ⟨r, S2, q1, q2, q3⟩ := H3 (A (l3 + 1).toNat) (A (l3 + 2).toNat) (hA _) (hA _) S hS
      rw [if_pos c3]
      simp only [R1, R2, R3, R4, R5, q1, q2, bnd_s, if_true]
      exact N _ q3
    rw [if_neg c3]
    by_cases c4 : jand (A l3.toNat) 63 = 4
    · obtain ⟨r, S1, S2, q1, q2, q3⟩ := H4 (A (l3 + 1).toNat) (A (l3 + 2).toNat) (hA _) (hA _) S hS
      rw [if_pos c4]
      simp only [R1, R2, R3, R4, R5, q1, q2, bnd_s, if_true]
      exact N _ q3
    rw [if_neg c4]
    by_cases c5 : jand (A l3.toNat) 63 = 5
    · obtain ⟨r, S1, S2, q1, q2, q3⟩ := H5 (A (l3 + 1).toNat) (A (l3 + 2).toNat) (hA _) (hA _) S hS
      rw [if_pos c5]
      simp only [R1, R2, R3, R4, R5, q1, q2, bnd_s, if_true]
      exact N _ q3
    rw [if_neg c5]
    by_cases c6 : jand (A l3.toNat) 63 = 6
    · obtain ⟨r, S1, S2, q1, q2, q3⟩ := H6 (A (l3 + 1).toNat) (A (l3 + 2).toNat) (A (l3 + 3).toNat) (hA _) (hA _) (hA _) S hS
      rw [if_pos c6]
      simp only [R1, R2, R3, R4, R5, q1, q2, bnd_s, if_true]
      exact N _ q3
    rw [if_neg c6]
    by_cases c7 : jand (A l3.toNat) 63 = 7
    · obtain ⟨r, S1, S2, q1, q2, q3⟩ := H7 (A (l3 + 1).toNat) (A (l3 + 2).toNat) (hA _) (hA _) S hS
      rw [if_pos c7]
      simp only [R1, R2, R3, R4, R5, q1, q2, bnd_s, if_true]
      exact N _ q3
    rw [if_neg c7]
    by_cases c8 : jand (A l3.toNat) 63 = 8
    · obtain ⟨r, S1, S2, q1, q2, q3⟩ := H8 (A (l3 + 1).toNat) (A (l3 + 2).toNat) (hA _) (hA _) S hS
      rw [if_pos c8]
      simp only [R1, R2, R3, R4, R5, q1, q2, bnd_s, if_true]
      exact N _ q3
    rw [if_neg c8]
    by_cases c9 : jand (A l3.toNat) 63 = 9
    · obtain ⟨r, S1, S2, q1, q2, q3⟩ := H9 (A (l3 + 1).toNat) (hA _) S hS
      rw [if_pos c9]
      simp only [R1, R2, R3, R4, R5, q1, q2, bnd_s, if_true]
      exact N _ q3
    rw [if_neg c9]
    by_cases c10 : jand (A l3.toNat) 63 = 10
    · obtain ⟨r, S1, S2, q1, q2, q3⟩ := H10 (A (l3 + 1).toNat) (A (l3 + 2).toNat) (A (l3 + 3).toNat) (hA _) (hA _) (hA _) S hS
      rw [if_pos c10]
      simp only [R1, R2, R3, R4, R5, q1, q2, bnd_s, if_true]
      exact N _ q3
    rw [if_neg c10]
    by_cases c11 : jand (A l3.toNat) 63 = 11
    · obtain ⟨r, S1, S2, q1, q2, q3⟩ := H11 (A (l3 + 1).toNat) (hA _) S hS
      rw [if_pos c11]
      simp only [R1, R2, R3, R4, R5, q1, q2, bnd_s, if_true]
      exact N _ q3
    rw [if_neg c11]
    by_cases c12 : jand (A l3.toNat) 63 = 12
    · obtain ⟨r, S1, S2, q1, q2, q3⟩ := H12 (A (l3 + 1).toNat) (A (l3 + 2).toNat) (hA _) (hA _) S hS
      rw [if_pos c12]
      simp only [R1, R2, R3, R4, R5, q1, q2, bnd_s, if_true]
      exact N _ q3
    rw [if_neg c12]
    by_cases c13 : jand (A l3.toNat) 63 = 13
    · obtain ⟨r, S1, S2, q1, q2, q3⟩ := H13 (A (l3 + 1).toNat) (hA _) S hS
      rw [if_pos c13]
      simp only [R1, R2, R3, R4, R5, q1, q2, bnd_s, if_true]
      exact N _ q3
    rw [if_neg c13]
    by_cases c14 : jand (A l3.toNat) 63 = 14
    · obtain ⟨r, S1, S2, q1, q2, q3⟩ := H14 (A (l3 + 1).toNat) (A (l3 + 2).toNat) (hA _) (hA _) S hS
      rw [if_pos c14]
      simp only [R1, R2, R3, R4, R5, q1, q2, bnd_s, if_true]
      exact N _ q3
    rw [if_neg c14]
    by_cases c15 : jand (A l3.toNat) 63 = 15
    · obtain ⟨r, S1, S2, q1, q2, q3⟩ := H15 (A (l3 + 1).toNat) (A (l3 + 2).toNat) (A (l3 + 3).toNat) (hA _) (hA _) (hA _) S hS
      rw [if_pos c15]
      simp only [R1, R2, R3, R4, R5, q1, q2, bnd_s, if_true]
      exact N _ q3
    rw [if_neg c15]
    by_cases c16 : jand (A l3.toNat) 63 = 16
    · obtain ⟨r, S1, S2, q1, q2, q3⟩ := H16 (A (l3 + 1).toNat) (A (l3 + 2).toNat) (A (l3 + 3).toNat) (A (l3 + 4).toNat) (hA _) (hA _) (hA _) (hA _) S hS
      rw [if_pos c16]
      simp only [R1, R2, R3, R4, R5, q1, q2, bnd_s, if_true]
      exact N _ q3
    rw [if_neg c16]
    by_cases c17 : jand (A l3.toNat) 63 = 17
    · obtain ⟨r, S1, S2, q1, q2, q3⟩ := H17 (A (l3 + 1).toNat) (A (l3 + 2).toNat) (A (l3 + 3).toNat) (A (l3 + 4).toNat) (hA _) (hA _) (hA _) (hA _) S hS
      rw [if_pos c17]
      simp only [R1, R2, R3, R4, R5, q1, q2, bnd_s, lc_s, if_true]
      exact N _ q3
    rw [if_neg c17]
    by_cases c18 : jand (A l3.toNat) 63 = 18
    · obtain ⟨r, S1, S2, q1, q2, q3⟩ := H18 (A (l3 + 1).toNat) (A (l3 + 2).toNat) (hA _) (hA _) S hS
      rw [if_pos c18]
      simp only [R1, R2, R3, R4, R5, q1, q2, bnd_s, if_true]
      exact N _ q3
    rw [if_neg c18]
    by_cases c19 : jand (A l3.toNat) 63 = 19
    · obtain ⟨r, S1, S2, q1, q2, q3⟩ := H19 (A (l3 + 1).toNat) (A (l3 + 2).toNat) (hA _) (hA _) S hS
      rw [if_pos c19]
      simp only [R1, R2, R3, R4, R5, q1, q2, bnd_s, if_true]
      exact N _ q3
    rw [if_neg c19]
    by_cases c20 : jand (A l3.toNat) 63 = 20
    · obtain ⟨r, S1, S2, q1, q2, q3⟩ := H20 (A (l3 + 1).toNat) (hA _) S hS
      rw [if_pos c20]
      simp only [R1, R2, R3, R4, R5, q1, q2, bnd_s, if_true]
      exact N _ q3
    rw [if_neg c20]
    by_cases c21 : jand (A l3.toNat) 63 = 21
    · obtain ⟨r, S1, S2, q1, q2, q3⟩ := H21 (A (l3 + 1).toNat) (A (l3 + 2).toNat) (hA _) (hA _) S hS
      rw [if_pos c21]
      simp only [R1, R2, R3, R4, R5, q1, q2, bnd_s, if_true]
      exact N _ q3
    rw [if_neg c21]
    by_cases c22 : jand (A l3.toNat) 63 = 22
    · obtain ⟨r, S1, S2, q1, q2, q3⟩ := H22 (A (l3 + 1).toNat) (A (l3 + 2).toNat) (A (l3 + 3).toNat) (hA _) (hA _) (hA _) S hS
      rw [if_pos c22]
      simp only [R1, R2, R3, R4, R5, q1, q2, bnd_s, if_true]
      exact N _ q3
    rw [if_neg c22]
    by_cases c23 : jand (A l3.toNat) 63 = 23
    · obtain ⟨r, S1, S2, q1, q2, q3⟩ := H23 (A (l3 + 1).toNat) (hA _) S hS
      rw [if_pos c23]
      simp only [R1, R2, R3, R4, R5, q1, q2, bnd_s, if_true]
      exact N _ q3
    rw [if_neg c23]
    by_cases c24 : jand (A l3.toNat) 63 = 24
    · obtain ⟨r, S1, S2, q1, q2, q3⟩ := H24 (A (l3 + 1).toNat) (hA _) S hS
      rw [if_pos c24]
      simp only [R1, R2, R3, R4, R5, q1, q2, bnd_s, if_true]
      exact N _ q3
    rw [if_neg c24]
    by_cases c25 : jand (A l3.toNat) 63 = 25
    · obtain ⟨r, S1, S2, q1, q2, q3⟩ := H25 (A (l3 + 1).toNat) (A (l3 + 2).toNat) (hA _) (hA _) S hS
      rw [if_pos c25]
      simp only [R1, R2, R3, R4, R5, q1, q2, bnd_s, if_true]
      exact N _ q3
    rw [if_neg c25]
    by_cases c26 : jand (A l3.toNat) 63 = 26
    · obtain ⟨r, S1, S2, q1, q2, q3⟩ := H26 (A (l3 + 1).toNat) (A (l3 + 2).toNat) (A (l3 + 3).toNat) (hA _) (hA _) (hA _) S hS
      rw [if_pos c26]
      simp only [R1, R2, R3, R4, R5, q1, q2, bnd_s, if_true]
      exact N _ q3
    rw [if_neg c26]
    by_cases c27 : jand (A l3.toNat) 63 = 27
    · obtain ⟨r, S1, S2, q1, q2, q3⟩ := H27 (A (l3 + 1).toNat) (A (l3 + 2).toNat) (hA _) (hA _) S hS
      rw [if_pos c27]
      simp only [R1, R2, R3, R4, R5, q1, q2, bnd_s, if_true]
      exact N _ q3
    rw [if_neg c27]
    by_cases c28 : jand (A l3.toNat) 63 = 28
    · obtain ⟨r, S1, S2, q1, q2, q3⟩ := H28 (A (l3 + 1).toNat) (A (l3 + 2).toNat) (A (l3 + 3).toNat) (hA _) (hA _) (hA _) S hS
      rw [if_pos c28]
      simp only [R1, R2, R3, R4, R5, q1, q2, bnd_s, if_true]
      exact N _ q3
    rw [if_neg c28]
    by_cases c29 : jand (A l3.toNat) 63 = 29
    · obtain ⟨r, S1, S2, q1, q2, q3⟩ := H29 (A (l3 + 1).toNat) (A (l3 + 2).toNat) (A (l3 + 3).toNat) (hA _) (hA _) (hA _) S hS
      rw [if_pos c29]
      simp only [R1, R2, R3, R4, R5, q1, q2, bnd_s, if_true]
      exact N _ q3
    rw [if_neg c29]
    by_cases c30 : jand (A l3.toNat) 63 = 30
    · obtain ⟨r, S1, S2, q1, q2, q3⟩ := H30 (A (l3 + 1).toNat) (A (l3 + 2).toNat) (A (l3 + 3).toNat) (hA _) (hA _) (hA _) S hS
      rw [if_pos c30]
      simp only [R1, R2, R3, R4, R5, q1, q2, bnd_s, if_true]
      exact N _ q3
    rw [if_neg c30]
    by_cases c31 : jand (A l3.toNat) 63 = 31
    · obtain ⟨r, S1, S2, q1, q2, q3⟩ := H31 (A (l3 + 1).toNat) (A (l3 + 2).toNat) (hA _) (hA _) S hS
      rw [if_pos c31]
      simp only [R1, R2, R3, R4, R5, q1, q2, bnd_s, if_true]
      exact N _ q3
    rw [if_neg c31]
    by_cases c32 : jand (A l3.toNat) 63 = 32
    · obtain ⟨r, S1, S2, q1, q2, q3⟩ := H32 (A (l3 + 1).toNat) (A (l3 + 2).toNat) (hA _) (hA _) S hS
      rw [if_pos c32]
      simp only [R1, R2, R3, R4, R5, q1, q2, bnd_s, if_true]
      exact N _ q3
    rw [if_neg c32]
    by_cases c33 : jand (A l3.toNat) 63 = 33
    · obtain ⟨r, S1, S2, q1, q2, q3⟩ := H33 (A (l3 + 1).toNat) (A (l3 + 2).toNat) (A (l3 + 3).toNat) (A (l3 + 4).toNat) (hA _) (hA _) (hA _) (hA _) S hS
      rw [if_pos c33]
      simp only [R1, R2, R3, R4, R5, q1, q2, bnd_s, if_true]
      exact N _ q3
    rw [if_neg c33]
    by_cases c34 : jand (A l3.toNat) 63 = 34
    · obtain ⟨r, S1, S2, q1, q2, q3⟩ := H34 (A (l3 + 1).toNat) (A (l3 + 2).toNat) (A (l3 + 3).toNat) (hA _) (hA _) (hA _) S hS
      rw [if_pos c34]
      simp only [R1, R2, R3, R4, R5, q1, q2, bnd_s, if_true]
      exact N _ q3
    rw [if_neg c34]
    by_cases c35 : jand (A l3.toNat) 63 = 35
    · obtain ⟨r, S1, S2, q1, q2, q3⟩ := H35 (A (l3 + 1).toNat) (A (l3 + 2).toNat) (hA _) (hA _) S hS
      rw [if_pos c35]
      simp only [R1, R2, R3, R4, R5, q1, q2, bnd_s, if_true]
      exact N _ q3
    rw [if_neg c35]
    by_cases c36 : jand (A l3.toNat) 63 = 36
    · obtain ⟨r, S1, S2, q1, q2, q3⟩ := H36 (A (l3 + 1).toNat) (A (l3 + 2).toNat) (A (l3 + 3).toNat) (hA _) (hA _) (hA _) S hS
      rw [if_pos c36]
      simp only [R1, R2, R3, R4, R5, q1, q2, bnd_s, if_true]
      exact N _ q3
    rw [if_neg c36]
    by_cases c37 : jand (A l3.toNat) 63 = 37
    · obtain ⟨r, S1, S2, q1, q2, q3⟩ := H37 (A (l3 + 1).toNat) (A (l3 + 2).toNat) (A (l3 + 3).toNat) (A (l3 + 4).toNat) (hA _) (hA _) (hA _) (hA _) S hS
      rw [if_pos c37]
      simp only [R1, R2, R3, R4, R5, q1, q2, bnd_s, lc_s, if_true]
      exact N _ q3
    rw [if_neg c37]
    by_cases c38 : jand (A l3.toNat) 63 = 38
    · obtain ⟨r, S1, S2, q1, q2, q3⟩ := H38 (A (l3 + 1).toNat) (A (l3 + 2).toNat) (A (l3 + 3).toNat) (A (l3 + 4).toNat) (hA _) (hA _) (hA _) (hA _) S hS
      rw [if_pos c38]
      simp only [R1, R2, R3, R4, R5, q1, q2, bnd_s, if_true]
      exact N _ q3
    rw [if_neg c38]
    by_cases c39 : jand (A l3.toNat) 63 = 39
    · obtain ⟨r, S1, S2, q1, q2, q3⟩ := H39 (A (l3 + 1).toNat) (hA _) S hS
      rw [if_pos c39]
      simp only [R1, R2, R3, R4, R5, q1, q2, bnd_s, if_true]
      exact N _ q3
    rw [if_neg c39]
    by_cases c40 : jand (A l3.toNat) 63 = 40
    · obtain ⟨r, S1, S2, q1, q2, q3⟩ := H40 (A (l3 + 1).toNat) (hA _) S hS
      rw [if_pos c40]
      simp only [R1, R2, R3, R4, R5, q1, q2, bnd_s, if_true]
      exact N _ q3
    rw [if_neg c40]
    by_cases c41 : jand (A l3.toNat) 63 = 41
    · obtain ⟨r, S2, q1, q2, q3⟩ := H41 (A (l3 + 1).toNat) (hA _) S hS
      rw [if_pos c41]
      simp only [R1, R2, R3, R4, R5, q1, q2, bnd_s, if_true]
      exact N _ q3
    rw [if_neg c41]
    exact N _ hS
theorem pure_of {Inv : SS → Prop} (H : AllCalls Inv) (h0 : Inv S0) : PureFact := by
  intro L A hL hA
  obtain ⟨S', h⟩ := law_loop H hL hA FU 0 S0 h0 (by omega) (by omega) (by have : FU = 1000000 := rfl; omega)
  refine ⟨S', ?_⟩
  unfold fLaw
  rw [h]
  rfl
