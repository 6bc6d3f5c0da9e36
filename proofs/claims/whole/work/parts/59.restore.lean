/-! another town: restore, feed -/
theorem becomes_ok {S : SS} {p : Nat} {Q : Nat → Int} (hp : 11 ≤ p) (hB : townB Q) (hR : townR S p Q) (hs : stEq S (p + 5) Q 34) : ∃ S', fX11_becomes p S = some S' ∧ townR S' 2 Q ∧ stEq S' 7 Q 34 ∧ S' 59 2 = 0 ∧ S' 59 1 = S 59 1 ∧ S' 30 3 = -1 := by
  have h5 := hB.2.2.2.2.1
  obtain ⟨S1, e1, e2, e3⟩ := @copyTown S 2 p (by omega) (by rw [hR.1.2.2.2.2]; exact h5.1) (by rw [hR.1.2.2.2.2]; exact h5.2)
  have f1 : ∀ a, (a < 2 ∨ 10 < a) → S1 a = S a := fun a ha => w_fX8_copyOf e1 (by omega)
  unfold fX11_becomes fX5_forget
  rw [e1, bnd_s, lt_ok, lt_ok, bnd_s]
  refine ⟨_, rfl, ?_, ?_, ?_, ?_, up_self⟩
  · refine townR_fr (S := S1) ?_ ?_ ?_ ?_ ?_ (e2 _ hB hR)
    all_goals rw [up_row (by omega), up_row (by omega)]
  · refine stEq_fr (S := S1) ?_ ?_ ?_ ?_ (e3 _ _ hs)
    all_goals rw [up_row (by omega), up_row (by omega)]
  · rw [up_row (by omega), up_self]
  · rw [up_row (by omega), up_at, if_neg (by decide), f1 59 (by omega)]
theorem new_town {S S1 S2 : SS} {Q : Nat → Int} (hI : Inv S) (hB : townB Q) (hb : stBd Q 34 (Q 1)) (r1 : townR S1 2 Q) (s1 : stEq S1 7 Q 34) (c0 : S1 59 2 = 0) (c1 : S1 59 1 = S 59 1) (c30 : S1 30 3 = -1)
    (f1 : ∀ a, (a = 1 ∨ (60 ≤ a ∧ a ≤ 102) ∨ (104 ≤ a ∧ a ≤ 129) ∨ a = 132 ∨ 147 ≤ a) → S1 a = S a) (f2 : ∀ a, (a ≤ 10 ∨ a = 30 ∨ (59 ≤ a ∧ a ≤ 102) ∨ (104 ≤ a ∧ a ≤ 129) ∨ a = 132 ∨ 147 ≤ a) → S2 a = S1 a)
    (q131 : ∀ k, S2 131 k = if k = 49 then 0 else if k < 1101 then Q k else S 131 k) (z : S2 130 0 = 0) (ht : tape S2) : Inv S2 := by
  obtain ⟨i0, hC, hS, hH, hT, hTr, hIm⟩ := id hI
  have eT : eqT Q (rowV Q (sft Q 34)) := rowV_t
  have lo : ∀ k, k < 1101 → S2 131 k = (fun j => if j = 49 then 0 else Q j) k := fun k hk => by
    rw [q131 k, if_pos (c := k < 1101) hk]
  have eN : eqT Q (fun j => if j = 49 then 0 else Q j) := fun k hk => by show (if k = 49 then 0 else Q k) = Q k; rw [if_neg (by omega)]
  have hB' : townB (fun j => if j = 49 then 0 else Q j) := townB_t eN hB
  have st34 : ∀ k, k < 15 → sft (fun j => if j = 49 then 0 else Q j) 34 k = sft Q 34 k := fun k hk => by
    show (if 34 + k = 49 then 0 else Q (34 + k)) = Q (34 + k); rw [if_neg (by omega)]
  have fz : ∀ a, (a = 1 ∨ (60 ≤ a ∧ a ≤ 102) ∨ (104 ≤ a ∧ a ≤ 129) ∨ a = 132 ∨ 147 ≤ a) → S2 a = S a := fun a h => (f2 a (by omega)).trans (f1 a h)
  have h1 : S2 131 1 = Q 1 := by rw [lo 1 (by omega)]; rfl
  refine ⟨z, ⟨?_, townB_w lo hB', Or.inl (by rw [f2 30 (by omega)]; exact c30)⟩, ⟨?_, ?_⟩, ?_, ht, ?_, ?_⟩
  · exact townR_w lo hB' (townR_t eN hB.2.1.2 (townR_fr (f2 _ (by omega)) (f2 _ (by omega)) (f2 _ (by omega)) (f2 _ (by omega)) (f2 _ (by omega)) r1))
  · exact stEq_w lo (stEq_of (stV_c st34 (stV_of (stEq_fr (f2 _ (by omega)) (f2 _ (by omega)) (f2 _ (by omega)) (f2 _ (by omega)) s1))))
  · rw [h1]; exact stBd_w lo (stBd_of (bdV_c st34 (bdV_of hb)))
  · have e49 : S2 131 49 = 0 := by rw [q131, if_pos rfl]
    refine ⟨⟨by rw [e49, f2 59 (by omega)]; exact c0, by omega, by omega, ?_, ?_⟩, fun i hi => by omega⟩
    · rw [f2 59 (by omega), c1]; exact hH.1.2.2.2.1
    · rw [f2 59 (by omega), c1]; exact hH.1.2.2.2.2
  · exact trays_fr (fun a h h' => fz a (by omega)) (fz _ (by omega)) (fz _ (by omega)) (fz _ (by omega)) hTr
  · exact imgs_fr (fz _ (by omega)) (fun a h h' => fz a (by omega)) (fz _ (by omega)) (fun k hk => by rw [q131, if_neg (by omega), if_neg (by omega)]) hIm
theorem k_restore : K_restore Inv := by
  intro t ct S hI
  obtain ⟨i0, hC, hS, hH, hT, hTr, hIm⟩ := id hI
  obtain ⟨b0, b1, hb, m0, m1⟩ := id hIm
  have ib := img_bits b0 b1
  unfold fX11_restore fX12_restore
  by_cases a : 0 ≤ t ∧ t ≤ 1
  · obtain ⟨i, rfl⟩ : ∃ i : Nat, t = i := ⟨t.toNat, by omega⟩
    have hm : ∃ b : Bool, jand (jshr (S 1 15) i) 1 = (if b then 1 else 0) ∧ imag S i b := by
      obtain rfl | rfl : i = 0 ∨ i = 1 := by omega
      · exact ⟨b0, by rw [hb]; exact ib.2.2.1, m0⟩
      · exact ⟨b1, by rw [hb]; exact ib.2.2.2, m1⟩
    obtain ⟨b, hb', hm⟩ := hm
    rw [imageAt_ok (by omega) (by omega), bnd_s, Int.toNat_natCast, if_neg (by omega), hb']
    obtain ⟨rfl, x2⟩ | ⟨rfl, x2, x3, x4, x5, x6⟩ := hm
    · rw [if_pos (by decide)]
      refine ⟨_, S, S, rfl, ?_, hI⟩
      rw [lt_ok, up_same i0, within_ok, bnd_s, if_pos (decide_eq_true a), rdA_ok (by omega) (by omega), Int.toNat_natCast, x2, if_pos rfl]
    · obtain ⟨S1, e1, e2, e3, e4, e5, e6⟩ := becomes_ok (S := S) (p := 112 + 9 * i) (by omega) x4 x3 (by rw [show 112 + 9 * i + 5 = 117 + 9 * i by omega]; exact x5)
      have f1 : ∀ a, (a < 2 ∨ 10 < a) ∧ a ≠ 30 ∧ a ≠ 59 → S1 a = S a := fun a ha => w_fX11_becomes e1 ha
      rw [if_neg (by decide)]
      unfold gsh
      rw [if_pos (refs102 i (by omega)).2, e1, bnd_s]
      obtain ⟨S2, l1, l2⟩ := restore_loop (i := i) (by omega) 1101 FU 0 S1 (by omega) (by decide)
      have l1' : fX12_restore_L32 i FU 0 S1 = some S2 := l1
      have f2 : ∀ a, a ≠ 131 → S2 a = S1 a := fun a ha => w_fX12_restore_L32 ha _ _ _ _ l1
      have fz : ∀ a, a ≠ 131 → up S2 131 49 0 a = S1 a := fun a ha => (up_row ha).trans (f2 a ha)
      rw [f1 131 (by omega)] at l2
      refine ⟨_, S1, up S2 131 49 0, rfl, ?_, ?_⟩
      · rw [lt_ok, up_same (by rw [f1 130 (by omega)]; exact i0), within_ok, bnd_s, if_pos (decide_eq_true a), rdA_ok (by omega) (by omega), Int.toNat_natCast, f1 132 (by omega), x2, if_neg (by decide), l1', bnd_s, wrA_ok (by decide) (by decide)]
        rfl
      · have e130 : up S2 131 49 0 130 = S 130 := (fz 130 (by omega)).trans (f1 130 (by omega))
        have ft : ∀ a, a = 19 ∨ a = 20 ∨ a = 133 → up S2 131 49 0 a = S a := fun a h => (fz a (by omega)).trans (f1 a (by omega))
        refine new_town hI x4 (Q := sft (S 131) (1101 * (i + 1))) x6 e2 e3 e4 e5 e6 (fun a h => f1 a (by omega)) (fun a h => fz a (by omega)) (fun k => ?_) (by rw [e130]; exact i0) ?_
        · rw [up_at]
          by_cases c : k = 49
          · rw [if_pos c, if_pos c]
          · rw [if_neg c, if_neg c, l2 k]
            by_cases d : k < 1101
            · rw [if_pos (by omega), if_pos d]; rfl
            · rw [if_neg (by omega), if_neg d]
        · exact tape_fr (ft _ (by omega)) (ft _ (by omega)) (ft _ (by omega)) (by rw [e130]) (by rw [e130]) (by rw [e130]) hT
  · rw [imageAt_no (by omega), bnd_s, if_pos rfl]
    refine ⟨_, S, S, rfl, ?_, hI⟩
    rw [lt_ok, up_same i0, within_ok, bnd_s, if_neg (by rw [decide_eq_true_eq]; exact a)]
/-! bytes -/
theorem jb_v {a : Int} (h : cI a) : jb a = Int.bmod a 256 := by
  unfold jb
  rw [Int8.toInt_toInt32, Int32.toInt_toInt8, ii_to h]
theorem jand255 {a : Int} (h : cI a) : jand a 255 = a % 256 := by
  unfold jand
  have e : (Int32.ofInt a &&& Int32.ofInt 255).toInt = (BitVec.ofInt 32 a &&& BitVec.ofInt 32 255).toInt := rfl
  have n : (BitVec.ofInt 32 a &&& BitVec.ofInt 32 255).toNat = (a % 256).toNat := by
    rw [BitVec.toNat_and, BitVec.toNat_ofInt, show (BitVec.ofInt 32 255).toNat = 2 ^ 8 - 1 from rfl, Nat.and_two_pow_sub_one_eq_mod]
    omega
  rw [e, BitVec.toInt_eq_toNat_of_lt (by rw [n]; omega), n]
  omega
theorem bmod_b {y : Int} : -128 ≤ Int.bmod y 256 ∧ Int.bmod y 256 ≤ 127 ∧ Int.bmod y 256 % 256 = y % 256 := by
  unfold Int.bmod
  simp only
  split <;> omega
theorem jbb {y : Int} (h : cI y) : jb (jb y) = Int.bmod y 256 := by
  have b := @bmod_b y
  rw [jb_v h, jb_v (by unfold cI; omega)]
  have b' := @bmod_b (Int.bmod y 256)
  omega
def byt (x : Int) (k : Nat) : Int := jshr x (24 - 8 * ((k % 4 : Nat) : Int))
def cby (x : Int) (k : Nat) : Int := jb (jb (byt x k))
theorem byt_ok {x : Int} {k : Nat} : jand (byt x k) 255 = cby x k % 256 ∧ -128 ≤ cby x k ∧ cby x k ≤ 127 := by
  have h : cI (byt x k) := ii_c _
  unfold cby
  rw [jand255 h, jbb h]
  have b := @bmod_b (byt x k)
  omega
theorem app_loop {x : Int} : ∀ (m n k : Nat) (T : Nat) (S : SS), m + k = 4 → m < n → S 19 2 = T → T + m ≤ 900 → ∃ S', fX3_append_L3 x n (8 * (m : Int) - 8) S = some S' ∧ S' 19 2 = ((T + m : Nat) : Int) ∧ (∀ j, j ≠ 2 → S' 19 j = S 19 j) ∧ ∀ j, S' 20 j = if T ≤ j ∧ j < T + m then cby x (k + (j - T)) else S 20 j := by
  intro m
  induction m with
  | zero =>
    intro n k T S hk hn hT hL
    obtain ⟨n, rfl⟩ := suc_of hn
    unfold fX3_append_L3
    rw [if_pos (by omega)]
    exact ⟨S, rfl, hT, fun j _ => rfl, fun j => by rw [if_neg (by omega)]⟩
  | succ m ih =>
    intro n k T S hk hn hT hL
    obtain ⟨n, rfl⟩ := suc_of hn
    unfold fX3_append_L3
    have es : (8 * ((m + 1 : Nat) : Int) - 8) = 24 - 8 * ((k % 4 : Nat) : Int) := by omega
    have en : w32 (8 * ((m + 1 : Nat) : Int) - 8 + (-8)) = 8 * (m : Int) - 8 := by rw [w32_eq (by omega) (by omega)]; omega
    rw [if_neg (by omega), hT, if_neg (by omega), wrA_ok (by omega) (by omega), Int.toNat_natCast, lt_ok, bnd_s, lt_ok, en, up_row (a := 19) (by decide), hT, w32_k (by omega), es]
    obtain ⟨S', e1, e2, e3, e4⟩ := ih n (k + 1) (T + 1) (up (up S 20 T (jb (jb (jshr x (24 - 8 * ((k % 4 : Nat) : Int)))))) 19 2 ((T + 1 : Nat) : Int)) (by omega) (by omega) up_self (by omega)
    refine ⟨S', e1, by rw [e2]; omega, fun j hj => ?_, fun j => ?_⟩
    · rw [e3 j hj, up_at, if_neg hj, up_row (by decide)]
    · rw [e4 j, up_row (a := 20) (by decide), up_at]
      by_cases c : j = T
      · rw [if_neg (by omega), if_pos c, if_pos (by omega), c, show k + (T - T) = k by omega]; rfl
      · by_cases c2 : T ≤ j ∧ j < T + (m + 1)
        · rw [if_pos (by omega), if_pos c2, show k + 1 + (j - (T + 1)) = k + (j - T) by omega]
        · rw [if_neg (by omega), if_neg c, if_neg c2]
theorem append_ok {x : Int} {T : Nat} {S : SS} (hT : S 19 2 = T) (hL : T + 4 ≤ 900) : ∃ S', fX3_append x S = some S' ∧ S' 19 2 = ((T + 4 : Nat) : Int) ∧ (∀ j, j ≠ 2 → S' 19 j = S 19 j) ∧ (∀ j, S' 20 j = if T ≤ j ∧ j < T + 4 then cby x (j - T) else S 20 j) ∧ ∀ a, (a < 19 ∨ 20 < a) → S' a = S a := by
  obtain ⟨S', e1, e2, e3, e4⟩ := @app_loop x 4 FU 0 T S (by omega) (by decide) hT (by omega)
  have e1' : fX3_append_L3 x FU 24 S = some S' := e1
  have e0 : fX3_append x S = some S' := by unfold fX3_append; rw [e1', bnd_s]
  exact ⟨S', e0, e2, e3, fun j => by rw [e4 j, show 0 + (j - T) = j - T by omega], fun a ha => w_fX3_append e0 ha⟩
def wd5 (a b c d e : Int) (k : Nat) : Int := if k < 4 then a else if k < 8 then b else if k < 12 then c else if k < 16 then d else e
theorem feed_loop {a b c d e : Int} : ∀ (m n k : Nat) (T : Nat) (S : SS), m + k = 20 → m < n → S 130 5 = ((T + k : Nat) : Int) → T ≤ 880 → ∃ S', fX12_feed_L24 a b c d e n k S = some S' ∧ S' 130 5 = ((T + 20 : Nat) : Int) ∧ (∀ j, j ≠ 5 → S' 130 j = S 130 j) ∧ ∀ j, S' 133 j = if T + k ≤ j ∧ j < T + 20 then jand (byt (wd5 a b c d e (j - T)) (j - T)) 255 else S 133 j := by
  intro m
  induction m with
  | zero =>
    intro n k T S hk hn hT hL
    obtain ⟨n, rfl⟩ := suc_of hn
    have ek : k = 20 := by omega
    subst ek
    unfold fX12_feed_L24
    rw [if_pos (by omega)]
    exact ⟨S, rfl, hT, fun j _ => rfl, fun j => by rw [if_neg (by omega)]⟩
  | succ m ih =>
    intro n k T S hk hn hT hL
    obtain ⟨n, rfl⟩ := suc_of hn
    have ew : (if (4 : Int) ≤ k then (if (8 : Int) ≤ k then (if (12 : Int) ≤ k then (if (16 : Int) ≤ k then some e else some d) else some c) else some b) else some a : Option Int) = some (wd5 a b c d e k) := by
      unfold wd5
      by_cases c4 : k < 4
      · rw [if_neg (by omega), if_pos c4]
      rw [if_pos (by omega), if_neg c4]
      by_cases c8 : k < 8
      · rw [if_neg (by omega), if_pos c8]
      rw [if_pos (by omega), if_neg c8]
      by_cases c12 : k < 12
      · rw [if_neg (by omega), if_pos c12]
      rw [if_pos (by omega), if_neg c12]
      by_cases c16 : k < 16
      · rw [if_neg (by omega), if_pos c16]
      rw [if_pos (by omega), if_neg c16]
    have em : Int.tmod (k : Int) 4 = ((k % 4 : Nat) : Int) := by rw [Int.tmod_eq_emod_of_nonneg (by omega)]; omega
    unfold fX12_feed_L24
    rw [if_neg (by omega), ew, bnd_s, hT, wrA_ok (by omega) (by omega), Int.toNat_natCast, lt_ok, lt_ok, em, w32_eq (x := 8 * ((k % 4 : Nat) : Int)) (by omega) (by omega), w32_eq (x := 24 - 8 * ((k % 4 : Nat) : Int)) (by omega) (by omega), up_row (a := 130) (by decide), hT, w32_k (k := k) (by omega), w32_k (k := T + k) (by omega)]
    obtain ⟨S', e1, e2, e3, e4⟩ := ih n (k + 1) T (up (up S 133 (T + k) (jand (jshr (wd5 a b c d e k) (24 - 8 * ((k % 4 : Nat) : Int))) 255)) 130 5 ((T + k + 1 : Nat) : Int)) (by omega) (by omega) (by rw [up_self]; omega) hL
    refine ⟨S', e1, e2, fun j hj => ?_, fun j => ?_⟩
    · rw [e3 j hj, up_at, if_neg hj, up_row (by decide)]
    · rw [e4 j, up_row (a := 133) (by decide), up_at]
      by_cases cj : j = T + k
      · rw [if_neg (by omega), if_pos cj, if_pos (by omega), show j - T = k by omega]; rfl
      · by_cases c2 : T + k ≤ j ∧ j < T + 20
        · rw [if_pos (by omega), if_pos c2]
        · rw [if_neg (by omega), if_neg cj, if_neg c2]
theorem k_feed : K_feed Inv := by
  intro a b c d e _ _ _ _ _ S hI
  obtain ⟨i0, hC, hS, hH, hT, hTr, hIm⟩ := id hI
  obtain ⟨⟨t1, t2, t3⟩, t4, t5, t6⟩ := id hT
  unfold fX11_feed fX12_feed
  by_cases cc : S 130 5 ≤ 880
  · obtain ⟨T, hTT⟩ : ∃ T : Nat, S 130 5 = T := ⟨(S 130 5).toNat, by omega⟩
    rw [t1, if_pos cc]
    obtain ⟨S1, a1, a2, a3, a4, a5⟩ := append_ok (x := a) (T := T) (S := S) (by rw [t1, hTT]) (by omega)
    obtain ⟨S2, b1, b2, b3, b4, b5⟩ := append_ok (x := b) (T := T + 4) (S := S1) a2 (by omega)
    obtain ⟨S3, c1, c2, c3, c4, c5⟩ := append_ok (x := c) (T := T + 4 + 4) (S := S2) b2 (by omega)
    obtain ⟨S4, d1, d2, d3, d4, d5⟩ := append_ok (x := d) (T := T + 4 + 4 + 4) (S := S3) c2 (by omega)
    obtain ⟨S5, e1, e2, e3, e4, e5⟩ := append_ok (x := e) (T := T + 4 + 4 + 4 + 4) (S := S4) d2 (by omega)
    rw [a1, bnd_s, b1, bnd_s, c1, bnd_s, d1, bnd_s, e1, bnd_s]
    have f : ∀ a, (a < 19 ∨ 20 < a) → S5 a = S a := fun a ha => ((((e5 a ha).trans (d5 a ha)).trans (c5 a ha)).trans (b5 a ha)).trans (a5 a ha)
    have g19 : ∀ j, j ≠ 2 → S5 19 j = S 19 j := fun j hj => ((((e3 j hj).trans (d3 j hj)).trans (c3 j hj)).trans (b3 j hj)).trans (a3 j hj)
    have cb : ∀ x k k', k % 4 = k' % 4 → cby x k = cby x k' := fun x k k' h => by unfold cby byt; rw [h]
    have g20 : ∀ j, S5 20 j = if T ≤ j ∧ j < T + 20 then cby (wd5 a b c d e (j - T)) (j - T) else S 20 j := by
      intro j
      rw [e4 j, d4 j, c4 j, b4 j, a4 j]
      by_cases q5 : T + 16 ≤ j ∧ j < T + 20
      · rw [if_pos (by omega), if_pos (by omega), cb e _ (j - T) (by omega)]; unfold wd5; rw [if_neg (by omega), if_neg (by omega), if_neg (by omega), if_neg (by omega)]
      rw [if_neg (by omega)]
      by_cases q4 : T + 12 ≤ j ∧ j < T + 16
      · rw [if_pos (by omega), if_pos (by omega), cb d _ (j - T) (by omega)]; unfold wd5; rw [if_neg (by omega), if_neg (by omega), if_neg (by omega), if_pos (by omega)]
      rw [if_neg (by omega)]
      by_cases q3 : T + 8 ≤ j ∧ j < T + 12
      · rw [if_pos (by omega), if_pos (by omega), cb c _ (j - T) (by omega)]; unfold wd5; rw [if_neg (by omega), if_neg (by omega), if_pos (by omega)]
      rw [if_neg (by omega)]
      by_cases q2 : T + 4 ≤ j ∧ j < T + 8
      · rw [if_pos (by omega), if_pos (by omega), cb b _ (j - T) (by omega)]; unfold wd5; rw [if_neg (by omega), if_pos (by omega)]
      rw [if_neg (by omega)]
      by_cases q1 : T ≤ j ∧ j < T + 4
      · rw [if_pos (by omega), if_pos (by omega)]; unfold wd5; rw [if_pos (by omega)]
      rw [if_neg (by omega), if_neg (by omega)]
    have z5 : S5 130 0 = 0 := by rw [f 130 (by omega)]; exact i0
    obtain ⟨S6, m1, m2, m3, m4⟩ := @feed_loop a b c d e 20 FU 0 T S5 (by omega) (by decide) (by rw [f 130 (by omega), hTT]; omega) (by omega)
    have m1' : fX12_feed_L24 a b c d e FU 0 S5 = some S6 := m1
    have f6 : ∀ a, a ≠ 130 ∧ a ≠ 133 → S6 a = S5 a := fun a ha => w_fX12_feed_L24 ha _ _ _ _ m1
    refine ⟨_, S5, S6, rfl, ?_, ?_⟩
    · rw [lt_ok, up_same z5, f 130 (by omega), hTT, w32_eq (by omega) (by omega), if_pos (by omega), m1', bnd_s, m2, e2]
    · have fz : ∀ a, (a < 19 ∨ 20 < a) ∧ a ≠ 130 ∧ a ≠ 133 → S6 a = S a := fun a h => (f6 a h.2).trans (f a h.1)
      refine ⟨by rw [m3 0 (by decide)]; exact z5, core_fr (fun a ha => fz a (by omega)) (lanes_fr (fz _ (by omega)) (fz _ (by omega)) (fz _ (by omega)) hC.2.2) hC, stand_fr (fz _ (by omega)) (fz _ (by omega)) (fz _ (by omega)) (fz _ (by omega)) (fz _ (by omega)) hS, hist_fr (fz _ (by omega)) (fz _ (by omega)) (fun a x y => fz a (by omega)) hH, ?_, trays_fr (fun a x y => fz a (by omega)) (fz _ (by omega)) (fz _ (by omega)) (fz _ (by omega)) hTr, imgs_fr (fz _ (by omega)) (fun a x y => fz a (by omega)) (fz _ (by omega)) (fun j _ => by rw [fz 131 (by omega)]) hIm⟩
      refine ⟨⟨by rw [f6 19 (by omega), m2, e2], by rw [m2]; omega, by rw [m2]; omega⟩, fun k hk => ?_, ?_, ?_⟩
      · rw [m2] at hk
        rw [f6 20 (by omega), g20 k, m4 k]
        by_cases ck : T ≤ k
        · rw [if_pos (by omega), if_pos (by omega)]
          exact byt_ok
        · rw [if_neg (by omega), if_neg (by omega), f 133 (by omega)]
          exact t4 k (by omega)
      · rw [f6 19 (by omega), g19 9 (by decide), m3 13 (by decide), f 130 (by omega)]; exact t5
      · rw [f6 19 (by omega), g19 10 (by decide), m3 14 (by decide), f 130 (by omega)]; exact t6
  · rw [t1, if_neg cc]
    refine ⟨_, S, S, rfl, ?_, hI⟩
    rw [lt_ok, up_same i0, w32_eq (by omega) (by omega), if_neg (by omega)]
