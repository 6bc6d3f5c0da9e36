/-! shut -/
def valP (R : Nat → Int) (g c : Int) (x : Nat) : Prop := subP R x ∧ canB R g c x = false
/-- best of the sets below k, if there is one: the fewest, of like ones the least -/
def bestP (R : Nat → Int) (g c : Int) (k : Nat) (b : Int) : Prop := (b = -1 ∧ ∀ y, y < k → ¬ valP R g c y) ∨ ∃ x : Nat, b = x ∧ x < k ∧ valP R g c x ∧ ∀ y, y < k → valP R g c y → cntP x < cntP y ∨ (cntP x = cntP y ∧ x ≤ y)
theorem all_shut {R : Nat → Int} {g c : Int} {W : Nat} (hB : townB R) (hb : stBd R 34 (R 1)) (hg : 0 ≤ g ∧ g < 3) (hW : openP R = W) (hc : R (34 + g).toNat ≠ c) : valP R g c W := by
  have h2 := hB.2.1
  refine ⟨fun k _ h => by rw [hW]; exact h, ?_⟩
  rw [Bool.eq_false_iff]
  intro h
  obtain ⟨n, b, b1, b2⟩ := canB_iff.mp h
  have dead : ∀ a s, shG R g W a s = -1 := by
    intro a s
    unfold shG gr
    by_cases cs : (s : Int) < R 2
    · have e3 : sgB R (W : Int) s = 3 := by
        unfold sgB
        by_cases cb : bit (W : Int) s = true
        · rw [if_pos cb]
        · rw [if_neg cb]
          rw [← hW] at cb
          unfold openP at cb
          rw [bit_orb _ (by omega), decide_eq_true (show s < (R 2).toNat by omega), Bool.true_and] at cb
          by_cases z : R (40 + s) = 3
          · exact z
          · exact absurd (decide_eq_true z) cb
      rw [e3, aft3, if_neg (fun x => by omega)]
    · rw [if_neg (fun x => cs x.1)]
  cases n with
  | zero =>
    have e : (spotP R g).toNat = b := b1
    have sp := spotP_b hb hg.1 hg.2
    obtain ⟨c1, c2⟩ := bd_c hb hg.1 hg.2
    unfold spotP at e sp
    omega
  | succ n =>
    obtain ⟨u, s, _, _, e⟩ := b1
    rw [dead] at e
    omega
theorem shut_c {R : Nat → Int} {g c l3 : Int} {W : Nat} (hB : townB R) (hg : 0 ≤ g ∧ g < R 3) (hc : 0 ≤ c ∧ c < R 1) (hW : openP R = W) (hw : W < 256) (hv : valP R g c W) : ∀ (m n k : Nat) (S : SS) (x : Nat), m + k = W → m < n → Core S → Stand S → S 131 = R → (x = W ∨ x < k) → valP R g c x → (∀ y, y < k → valP R g c y → cntP x < cntP y ∨ (cntP x = cntP y ∧ (x ≤ y ∨ x = W))) → ∃ (S' : SS) (r : Nat), fX11_shut_L81 g c l3 W n x k S = some ((r : Int), S') ∧ lanes S' ∧ (r = W ∨ r < W) ∧ valP R g c r ∧ ∀ y, y < W → valP R g c y → cntP r < cntP y ∨ (cntP r = cntP y ∧ (r ≤ y ∨ r = W)) := by
  intro m
  induction m with
  | zero =>
    intro n k S x hk hn hC hS hR hx hvx hb
    obtain ⟨n, rfl⟩ := suc_of hn
    have ek : k = W := by omega
    unfold fX11_shut_L81
    rw [if_pos (by omega)]
    rw [ek] at hx hb
    exact ⟨S, x, rfl, hC.2.2, hx, hvx, hb⟩
  | succ m ih =>
    intro n k S x hk hn hC hS hR hx hvx hb
    obtain ⟨n, rfl⟩ := suc_of hn
    have same : (¬ (valP R g c k ∧ cntP k < cntP x)) → ∀ y, y < k + 1 → valP R g c y → cntP x < cntP y ∨ (cntP x = cntP y ∧ (x ≤ y ∨ x = W)) := by
      intro hno y hy hvy
      by_cases e : y = k
      · subst e
        have : ¬ cntP y < cntP x := fun h => hno ⟨hvy, h⟩
        by_cases z : cntP x = cntP y
        · exact Or.inr ⟨z, by omega⟩
        · exact Or.inl (by omega)
      · exact hb y (by omega) hvy
    have hxx : x = W ∨ x < k + 1 := by omega
    unfold fX11_shut_L81
    rw [if_neg (by omega), bitCount_ok k (by omega), bnd_s, bitCount_ok x (by omega), bnd_s]
    have e3 : (if cntP x ≤ cntP k then some 0 else some 1 : Option Int) = some (if cntP k < cntP x then 1 else 0) := by
      by_cases z : cntP k < cntP x
      · rw [if_neg (by omega), if_pos z]
      · rw [if_pos (by omega), if_neg z]
    rw [e3, bnd_s, ← hW]
    by_cases s1 : subP R k
    · rw [if_pos (sub_c.mpr s1)]
      by_cases z : cntP k < cntP x
      · obtain ⟨S1, q1, q2, f1⟩ := shutsOff_ok (S := S) (g := g) (c := c) (bits := (k : Int)) hC hS (by rw [hR]; exact hg) (by rw [hR]; exact hc)
        rw [hR] at q1
        rw [if_pos z, if_neg (by decide), q1, bnd_s]
        simp only
        have go := fun x' hx' hv' hb' => ih n (k + 1) S1 x' (by omega) (by omega) (core_fr (fun b hb => f1 b (by omega)) q2 hC) (stand_fr (f1 _ (by omega)) (f1 _ (by omega)) (f1 _ (by omega)) (f1 _ (by omega)) (f1 _ (by omega)) hS) ((f1 131 (by omega)).trans hR) hx' hv' hb'
        by_cases cb : (!canB R g c k) = true
        · rw [if_pos cb, bnd_s, lt_ok, w32_k (by omega), hW]
          have hvk : valP R g c k := ⟨s1, by cases h : canB R g c k with | false => rfl | true => rw [h] at cb; cases cb⟩
          refine go k (by omega) hvk (fun y hy hvy => ?_)
          by_cases e : y = k
          · subst e; exact Or.inr ⟨rfl, Or.inl (Nat.le_refl _)⟩
          · have := hb y (by omega) hvy
            exact Or.inl (by omega)
        · rw [if_neg cb, bnd_s, lt_ok, w32_k (by omega), hW]
          exact go x hxx hvx (same (fun h => cb (by rw [h.1.2]; rfl)))
      · rw [if_neg z, if_pos rfl, bnd_s, lt_ok, w32_k (by omega), hW]
        exact ih n (k + 1) S x (by omega) (by omega) hC hS hR hxx hvx (same (fun h => z h.2))
    · rw [if_neg (fun h => s1 (sub_c.mp h)), bnd_s, lt_ok, w32_k (by omega), hW]
      exact ih n (k + 1) S x (by omega) (by omega) hC hS hR hxx hvx (same (fun h => s1 h.1.1))
theorem shut_m {R : Nat → Int} {g c l3 : Int} (hB : townB R) (hb : stBd R 34 (R 1)) (hg : 0 ≤ g ∧ g < R 3) (hc : 0 ≤ c ∧ c < R 1) : ∀ (m n k : Nat) (S : SS) (b : Int), m + k = 2 ^ (R 2).toNat → m < n → S 131 = R → bestP R g c k b → ∃ (S' : SS) (r : Int), fX12_shut_L57 g c l3 n b k S = some (r, S') ∧ bestP R g c (2 ^ (R 2).toNat) r := by
  have h2 := hB.2.1
  have p8 : 2 ^ (R 2).toNat ≤ 256 := by
    have t := Nat.pow_le_pow_right (show 2 > 0 by decide) (show (R 2).toNat ≤ 8 by omega)
    exact t
  intro m
  induction m with
  | zero =>
    intro n k S b hk hn hR h
    obtain ⟨n, rfl⟩ := suc_of hn
    have ek : k = 2 ^ (R 2).toNat := by omega
    have r2 : S 131 (2 : Int).toNat = (((R 2).toNat : Nat) : Int) := by rw [hR]; show R 2 = _; omega
    unfold fX12_shut_L57
    rw [rdA_ok (by decide) (by decide), r2, shl_pow _ (by omega), if_pos (by omega)]
    rw [ek] at h
    exact ⟨S, b, rfl, h⟩
  | succ m ih =>
    intro n k S b hk hn hR h
    obtain ⟨n, rfl⟩ := suc_of hn
    have r2 : S 131 (2 : Int).toNat = (((R 2).toNat : Nat) : Int) := by rw [hR]; show R 2 = _; omega
    have sn : fX12_shutNow S = some (shutP R) := by rw [shutNow_ok (by rw [hR]; exact h2.1) (by rw [hR]; exact h2.2), hR]
    have bs : ∀ x : Nat, b = x → (¬ (valP R g c k ∧ cntP k < cntP x)) → bestP R g c k b → bestP R g c (k + 1) b := by
      rintro x hx hno (⟨b1, _⟩ | ⟨x', x1, x2, x3, x4⟩)
      · omega
      · have : x' = x := by omega
        subst this
        refine Or.inr ⟨x', x1, by omega, x3, fun y hy hvy => ?_⟩
        by_cases e : y = k
        · subst e
          have : ¬ cntP y < cntP x' := fun h => hno ⟨hvy, h⟩
          by_cases z : cntP x' = cntP y
          · exact Or.inr ⟨z, by omega⟩
          · exact Or.inl (by omega)
        · exact x4 y (by omega) hvy
    have bn : ¬ valP R g c k → bestP R g c k b → bestP R g c (k + 1) b := by
      rintro hno (⟨b1, b2⟩ | ⟨x, x1, x2, x3, x4⟩)
      · refine Or.inl ⟨b1, fun y hy hvy => ?_⟩
        by_cases e : y = k
        · subst e; exact hno hvy
        · exact b2 y (by omega) hvy
      · refine Or.inr ⟨x, x1, by omega, x3, fun y hy hvy => ?_⟩
        by_cases e : y = k
        · subst e; exact absurd hvy hno
        · exact x4 y (by omega) hvy
    have take : valP R g c k → (∀ x : Nat, b = x → cntP k < cntP x) → bestP R g c k b → bestP R g c (k + 1) (k : Int) := by
      rintro hvk hlt (⟨b1, b2⟩ | ⟨x, x1, x2, x3, x4⟩)
      · refine Or.inr ⟨k, rfl, by omega, hvk, fun y hy hvy => ?_⟩
        by_cases e : y = k
        · subst e; exact Or.inr ⟨rfl, Nat.le_refl _⟩
        · exact absurd hvy (b2 y (by omega))
      · refine Or.inr ⟨k, rfl, by omega, hvk, fun y hy hvy => ?_⟩
        by_cases e : y = k
        · subst e; exact Or.inr ⟨rfl, Nat.le_refl _⟩
        · have := x4 y (by omega) hvy
          have := hlt x x1
          exact Or.inl (by omega)
    unfold fX12_shut_L57
    rw [rdA_ok (by decide) (by decide), r2, shl_pow _ (by omega), if_neg (by omega), sn, bnd_s]
    by_cases s1 : subP R k
    · obtain ⟨S1, q1, f1⟩ := canCome_ok (S := S) (g := g) (c := c) (bits := (k : Int)) (by rw [hR]; exact hB) (by rw [hR]; exact hb) (by rw [hR]; exact hg) (by rw [hR]; exact hc)
      rw [hR] at q1
      have go := fun b' hb' => ih n (k + 1) S1 b' (by omega) (by omega) ((f1 131 (by omega)).trans hR) hb'
      have vk : canB R g c k = false → valP R g c k := fun h => ⟨s1, h⟩
      rw [if_pos ((sub_m h2.1 h2.2 (by omega)).mpr s1)]
      by_cases b1 : b = -1
      · rw [if_pos b1, q1, bnd_s]
        simp only
        by_cases cb : canB R g c k = true
        · rw [if_pos cb, bnd_s, lt_ok, w32_k (by omega)]
          exact go b (bn (fun h => by rw [h.2] at cb; cases cb) h)
        · rw [if_neg cb, bnd_s, lt_ok, w32_k (by omega)]
          exact go (k : Int) (take (vk (Bool.eq_false_iff.mpr cb)) (fun x hx => by omega) h)
      · obtain ⟨x, hx⟩ : ∃ x : Nat, b = x := by
          obtain ⟨z, _⟩ | ⟨x, x1, _⟩ := h
          · exact absurd z b1
          · exact ⟨x, x1⟩
        rw [if_neg b1, bitsOf_ok, bnd_s, bitsOf_ok, bnd_s]
        by_cases lt : cntP k < cntP b
        · rw [if_pos lt, q1, bnd_s]
          simp only
          by_cases cb : canB R g c k = true
          · rw [if_pos cb, bnd_s, lt_ok, w32_k (by omega)]
            exact go b (bn (fun h => by rw [h.2] at cb; cases cb) h)
          · rw [if_neg cb, bnd_s, lt_ok, w32_k (by omega)]
            exact go (k : Int) (take (vk (Bool.eq_false_iff.mpr cb)) (fun x' hx' => by rw [← hx']; exact lt) h)
        · rw [if_neg lt, bnd_s, lt_ok, w32_k (by omega)]
          exact ih n (k + 1) S b (by omega) (by omega) hR (bs x hx (fun z => lt (by rw [hx]; exact z.2)) h)
    · rw [if_neg (fun h => s1 ((sub_m h2.1 h2.2 (by omega)).mp h)), bnd_s, lt_ok, w32_k (by omega)]
      exact ih n (k + 1) S b (by omega) (by omega) hR (bn (fun h => s1 h.1) h)
