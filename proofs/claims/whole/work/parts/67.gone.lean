/-! the reference's search -/
theorem bit64 {x : Int} {k : Nat} (hk : k < 32) : (BitVec.ofInt 64 x).getLsbD k = (BitVec.ofInt 32 x).getLsbD k := by
  rw [← BitVec.testBit_toNat, ← BitVec.testBit_toNat, BitVec.toNat_ofInt, BitVec.toNat_ofInt]
  have e : (x % ((2 ^ 32 : Nat) : Int)).toNat = (x % ((2 ^ 64 : Nat) : Int)).toNat % 2 ^ 32 := by omega
  rw [e, Nat.testBit_mod_two_pow]
  simp [hk]
theorem shr64_n : ∀ k, k < 20 → (((Int32.ofInt (k : Nat)).toInt64 &&& 63).toBitVec.smod 64).toNat = k := by decide +kernel
theorem isIn_ok {x : Int} {k : Nat} (hk : k < 20) : fX12_isIn x k = some (bit x k) := by
  have e1 : (Int64.ofInt (kshr x k)).toBitVec = (BitVec.ofInt 64 x).sshiftRight k := by
    have := shr64_n k hk
    show BitVec.ofInt 64 (((BitVec.ofInt 64 x).sshiftRight ((((Int32.ofInt (k : Nat)).toInt64 &&& 63).toBitVec.smod 64).toNat)).toInt) = _
    rw [this]
    exact BitVec.ofInt_toInt
  have e2 : kand (kshr x k) 1 = if bit x k = true then 1 else 0 := by
    have ev : kand (kshr x k) 1 = ((BitVec.ofInt 64 x).sshiftRight k &&& 1#64).toInt := by
      show ((Int64.ofInt (kshr x k)).toBitVec &&& (Int64.ofInt 1).toBitVec).toInt = _
      rw [e1]
      rfl
    have eb : (BitVec.ofInt 64 x).sshiftRight k &&& 1#64 = if bit x k = true then 1#64 else 0#64 := by
      refine BitVec.eq_of_getLsbD_eq (fun i hi => ?_)
      rw [BitVec.getLsbD_and]
      by_cases c : i = 0
      · subst c
        rw [BitVec.getLsbD_sshiftRight]
        have h1 := @bit64 x k (by omega)
        unfold bit
        simp only [show k < 64 by omega, Nat.add_zero, h1, if_true]
        by_cases cb : (BitVec.ofInt 32 x).getLsbD k = true
        · simp [cb]
        · simp [Bool.eq_false_iff.mpr cb]
      · have h1 : (1#64).getLsbD i = false := by
          simp [c]
        rw [h1]
        by_cases cb : bit x k = true
        · rw [if_pos cb, h1]; simp
        · rw [if_neg cb]; simp
    rw [ev, eb]
    by_cases cb : bit x k = true
    · rw [if_pos cb, if_pos cb]; rfl
    · rw [if_neg cb, if_neg cb]; rfl
  unfold fX12_isIn
  rw [e2]
  by_cases cb : bit x k = true
  · rw [if_pos cb, if_pos (by rfl), cb]
  · rw [if_neg cb, if_neg (by decide), Bool.eq_false_iff.mpr cb]
def sgB (R : Nat → Int) (x : Int) (s : Nat) : Int := if bit x s = true then 3 else R (40 + s)
theorem aft3 {R : Nat → Int} {g s a bol : Int} : aftP R g s a 3 bol = -2 := by
  have : sideP R s (a / 20) 3 = -1 := by
    unfold sideP
    split
    · rw [if_neg (by omega)]
    split
    · rw [if_neg (by omega)]
    · rfl
  unfold aftP; rw [if_pos this]
theorem then_L1 {g x : Int} {R : Nat → Int} {a : Nat} (hB : townB R) (hb : 0 ≤ R 48 ∧ R 48 ≤ 9) (hg : 0 ≤ g ∧ g < 3) (ha : a < 120) : ∀ (m n k : Nat) (S : SS), m + k = 8 → m < n → S 131 = R → ∃ S', fX12_laysThen_L18 g x a n k S = some S' ∧ (∀ j, S' 138 j = if 8 * a + k ≤ j ∧ j < 8 * a + 8 then gr R g (sgB R x) (R 48) a (j - 8 * a) else S 138 j) := by
  have h2 := hB.2.1
  intro m
  induction m with
  | zero =>
    intro n k S hk hn hr
    obtain ⟨n, rfl⟩ := suc_of hn
    unfold fX12_laysThen_L18
    rw [if_pos (by omega)]
    exact ⟨S, rfl, fun j => by rw [if_neg (by omega)]⟩
  | succ m ih =>
    intro n k S hk hn hr
    obtain ⟨n, rfl⟩ := suc_of hn
    have r2 : S 131 (2 : Int).toNat = R 2 := by rw [hr]; rfl
    have blk : ∃ S1, (if R 2 ≤ (k : Int) then some ((-1), S) else (Option.bind (fX12_isIn x k) fun q4 => if q4 = true then some ((-1), S) else (rdA S 131 3303 (w32 (40 + (k : Int))) fun v5 => Option.bind (fX12_whyBy g a k v5 S) fun q7 => if q7.1 = 0 then (Option.bind (fX12_goneTo g a k q7.2) fun q8 => some (q8.1, q8.2)) else some ((-1), q7.2))) : Option (Int × SS)) = some (gr R g (sgB R x) (R 48) a k, S1) ∧ ∀ b, (b < 135 ∨ 136 < b) → S1 b = S b := by
      by_cases c1 : R 2 ≤ (k : Int)
      · rw [if_pos c1]
        have : gr R g (sgB R x) (R 48) a k = -1 := by unfold gr; rw [if_neg (fun h => by omega)]
        rw [this]
        exact ⟨S, rfl, fun _ _ => rfl⟩
      · rw [if_neg c1, isIn_ok (by omega), bnd_s]
        by_cases c2 : bit x k = true
        · rw [if_pos c2]
          have : gr R g (sgB R x) (R 48) a k = -1 := by
            unfold gr sgB
            rw [if_pos c2, aft3, if_neg (fun h => by omega)]
          rw [this]
          exact ⟨S, rfl, fun _ _ => rfl⟩
        · have ek : (40 + (k : Int)).toNat = 40 + k := by omega
          rw [if_neg c2, w32_eq (x := 40 + (k : Int)) (by omega) (by omega), rdA_ok (by omega) (by omega), ek, hr]
          obtain ⟨S1, q1⟩ := whyBy_ok (S := S) (g := g) (s := (k : Int)) (at1 := (a : Int)) (sg := R (40 + k)) (by rw [hr]; exact hB) hg (by rw [hr]; omega) (by omega) (by rw [hr]; exact hb)
          rw [hr] at q1
          have f1 : ∀ b, (b < 135 ∨ 136 < b) → S1 b = S b := fun b hb => w_fX12_whyBy q1 hb
          have ab := @aftP_b R g k a (R (40 + k)) (R 48) hB ⟨by omega, by omega⟩
          have es : sgB R x k = R (40 + k) := by unfold sgB; rw [if_neg c2]
          rw [q1, bnd_s]
          simp only
          by_cases c3 : aftP R g k a (R (40 + k)) (R 48) < 0
          · have : gr R g (sgB R x) (R 48) a k = -1 := by unfold gr; rw [es, if_neg (fun h => by omega)]
            rw [if_pos c3, if_neg (by omega), this]
            exact ⟨S1, rfl, f1⟩
          · have : gr R g (sgB R x) (R 48) a k = aftP R g k a (R (40 + k)) (R 48) := by unfold gr; rw [es, if_pos ⟨by omega, by omega⟩]
            have r1 : S1 131 = R := (f1 131 (by omega)).trans hr
            obtain ⟨S2, q2⟩ := goneTo_ok (S := S1) (g := g) (s := (k : Int)) (at1 := (a : Int)) (sg := R (40 + k)) (by rw [r1]; exact hB) hg (by rw [r1]; omega) (by omega) (by rw [r1]; exact hb) (by rw [r1]; omega)
            rw [r1] at q2
            rw [if_neg c3, if_pos rfl, q2, bnd_s, this]
            exact ⟨S2, rfl, fun b hb => (w_fX12_goneTo q2 hb).trans (f1 b hb)⟩
    obtain ⟨S1, b1, b2⟩ := blk
    have ex : (8 * (a : Int) + (k : Int)).toNat = 8 * a + k := by omega
    unfold fX12_laysThen_L18
    rw [if_neg (by omega), rdA_ok (by decide) (by decide), r2, b1, bnd_s]
    simp only
    rw [w32_eq (x := 8 * (a : Int)) (by omega) (by omega), w32_eq (x := 8 * (a : Int) + (k : Int)) (by omega) (by omega), wrA_ok (by omega) (by omega), ex, lt_ok, w32_k (by omega)]
    obtain ⟨S', q1, q2⟩ := ih n (k + 1) (up S1 138 (8 * a + k) (gr R g (sgB R x) (R 48) a k)) (by omega) (by omega) (by rw [up_row (by decide), b2 131 (by omega)]; exact hr)
    refine ⟨S', q1, fun j => ?_⟩
    rw [q2 j, up_at, b2 138 (by omega)]
    by_cases cj : j = 8 * a + k
    · rw [if_neg (by omega), if_pos cj, if_pos (by omega), show j - 8 * a = k by omega]
    · by_cases c2 : 8 * a + k ≤ j ∧ j < 8 * a + 8
      · rw [if_pos (by omega), if_pos c2]
      · rw [if_neg (by omega), if_neg cj, if_neg c2]
theorem then_L2 {g x : Int} {R : Nat → Int} {M : Nat} (hB : townB R) (hM : M = (20 * R 1).toNat) (hb : 0 ≤ R 48 ∧ R 48 ≤ 9) (hg : 0 ≤ g ∧ g < 3) : ∀ (m n k : Nat) (S : SS), m + k = M → m < n → S 131 = R → ∃ S', fX12_laysThen_L2 g x n k S = some S' ∧ (∀ j, S' 138 j = if 8 * k ≤ j ∧ j < 8 * M then gr R g (sgB R x) (R 48) (j / 8) (j % 8) else S 138 j) := by
  have h1 := hB.1
  intro m
  induction m with
  | zero =>
    intro n k S hk hn hr
    obtain ⟨n, rfl⟩ := suc_of hn
    have r1 : S 131 (1 : Int).toNat = R 1 := by rw [hr]; rfl
    unfold fX12_laysThen_L2
    rw [rdA_ok (by decide) (by decide), r1, w32_eq (by omega) (by omega), if_pos (by omega)]
    exact ⟨S, rfl, fun j => by rw [if_neg (by omega)]⟩
  | succ m ih =>
    intro n k S hk hn hr
    obtain ⟨n, rfl⟩ := suc_of hn
    have r1 : S 131 (1 : Int).toNat = R 1 := by rw [hr]; rfl
    obtain ⟨S1, q1, q2⟩ := then_L1 (g := g) (x := x) (a := k) hB hb hg (by omega) 8 FU 0 S (by omega) (by decide) hr
    have q1' : fX12_laysThen_L18 g x k FU 0 S = some S1 := q1
    have f1 : S1 131 = S 131 := w_fX12_laysThen_L18 (a := 131) (by decide) _ _ _ _ q1
    unfold fX12_laysThen_L2
    rw [rdA_ok (by decide) (by decide), r1, w32_eq (by omega) (by omega), if_neg (by omega), q1', bnd_s, lt_ok, w32_k (by omega)]
    obtain ⟨S', z1, z2⟩ := ih n (k + 1) S1 (by omega) (by omega) (f1.trans hr)
    refine ⟨S', z1, fun j => ?_⟩
    rw [z2 j, q2 j]
    by_cases c : 8 * k ≤ j ∧ j < 8 * k + 8
    · rw [if_neg (by omega), if_pos (by omega), if_pos (by omega), show j / 8 = k by omega, show j % 8 = j - 8 * k by omega]
    · by_cases c2 : 8 * k ≤ j ∧ j < 8 * M
      · rw [if_pos (by omega), if_pos c2]
      · rw [if_neg (by omega), if_neg (by omega), if_neg c2]
theorem laysThen_ok {g x : Int} {S : SS} (hB : townB (S 131)) (hb : 0 ≤ S 131 48 ∧ S 131 48 ≤ 9) (hg : 0 ≤ g ∧ g < 3) : ∃ S', fX12_laysThen g x S = some S' ∧ (∀ a s, a < (20 * S 131 1).toNat → s < 8 → S' 138 (8 * a + s) = gr (S 131) g (sgB (S 131) x) (S 131 48) a s) ∧ ∀ a, (a < 135 ∨ 136 < a) → a ≠ 138 → S' a = S a := by
  have h1 := hB.1
  obtain ⟨S', q1, q2⟩ := then_L2 (g := g) (x := x) hB rfl hb hg (20 * S 131 1).toNat FU 0 S (by omega) (by unfold FU; omega) rfl
  have q1' : fX12_laysThen_L2 g x FU 0 S = some S' := q1
  have e : fX12_laysThen g x S = some S' := by unfold fX12_laysThen; rw [q1', bnd_s]
  refine ⟨S', e, fun a s ha hs => ?_, fun a h h' => w_fX12_laysThen e (by omega)⟩
  rw [q2, if_pos (by omega), show (8 * a + s) / 8 = a by omega, show (8 * a + s) % 8 = s by omega]
/-! levels -/
def GA (nx : Nat → Nat → Int) (st n : Nat) (to : Nat → Int) : Prop := ∀ v, v < 120 → to v = 268435456 ∨ ∃ d : Nat, d ≤ n ∧ to v = (d : Int) ∧ Dist nx st v d
def GB (nx : Nat → Nat → Int) (st n : Nat) (to : Nat → Int) : Prop := ∀ v d : Nat, Dist nx st v d → d ≤ n → to v = (d : Int)
def GC (nx : Nat → Nat → Int) (n P : Nat) (to : Nat → Int) : Prop := ∀ Q, Q < P → to (Q / 8) = (n : Int) → 0 ≤ nx (Q / 8) (Q % 8) → to (nx (Q / 8) (Q % 8)).toNat ≠ 268435456
def GM (nx : Nat → Nat → Int) (st n P : Nat) (to : Nat → Int) : Prop := GA nx st (n + 1) to ∧ GB nx st n to ∧ GC nx n P to
theorem GM_same {nx : Nat → Nat → Int} {st n P : Nat} {to : Nat → Int} (h : GM nx st n P to) (hx : to (P / 8) = (n : Int) → 0 ≤ nx (P / 8) (P % 8) → to (nx (P / 8) (P % 8)).toNat ≠ 268435456) : GM nx st n (P + 1) to := by
  refine ⟨h.1, h.2.1, fun Q hQ h1 h2 => ?_⟩
  by_cases c : Q = P
  · subst c; exact hx h1 h2
  · exact h.2.2 Q (by omega) h1 h2
theorem GM_out {nx : Nat → Nat → Int} {st n P u : Nat} {to : Nat → Int} (h : GM nx st n P to) (hP : P / 8 = u) (hx : to u ≠ (n : Int)) : GM nx st n (8 * u + 8) to := by
  refine ⟨h.1, h.2.1, fun Q hQ h1 h2 => ?_⟩
  by_cases c : Q < P
  · exact h.2.2 Q c h1 h2
  · have : Q / 8 = u := by omega
    rw [this] at h1
    exact absurd h1 hx
theorem GM_new {nx : Nat → Nat → Int} {st M n P w : Nat} {to : Nat → Int} (hM : M ≤ 120) (hnx : ∀ a s, nx a s < M) (hst : st < M) (hn : n < 268435455) (h : GM nx st n P to) (hP : P / 8 < M) (hu : to (P / 8) = (n : Int)) (hw : nx (P / 8) (P % 8) = (w : Int)) (hf : to w = 268435456) : GM nx st n (P + 1) (pt to w ((n : Int) + 1)) := by
  obtain ⟨ha, hb, hc⟩ := h
  have hwM : w < M := by have := hnx (P / 8) (P % 8); omega
  have du : Dist nx st (P / 8) n := by
    obtain x | ⟨d, d1, d2, d3⟩ := ha (P / 8) (by omega)
    · omega
    · have : d = n := by omega
      rw [← this]; exact d3
  have dw : Dist nx st w (n + 1) := by
    refine ⟨⟨P / 8, P % 8, by omega, du.1, hw⟩, fun m hm => ?_⟩
    by_cases c : n + 1 ≤ m
    · exact c
    · obtain ⟨d, d1, d2⟩ := Dist_of hm
      have := hb w d d2 (by omega)
      have := Dist_lt hnx hst d2
      omega
  refine ⟨fun v hv => ?_, fun v d h1 h2 => ?_, fun Q hQ h1 h2 => ?_⟩
  · by_cases c : v = w
    · subst c
      rw [pt_eq]
      exact Or.inr ⟨n + 1, Nat.le_refl _, by omega, dw⟩
    · rw [pt_lt c]; exact ha v hv
  · by_cases c : v = w
    · subst c
      have := Dist_u h1 dw
      omega
    · rw [pt_lt c]; exact hb v d h1 h2
  · by_cases c : (nx (Q / 8) (Q % 8)).toNat = w
    · rw [c, pt_eq]; omega
    · rw [pt_lt c]
      by_cases c1 : Q / 8 = w
      · rw [c1, pt_eq] at h1; omega
      · rw [pt_lt c1] at h1
        by_cases c2 : Q = P
        · subst c2
          rw [hw] at c; omega
        · exact hc Q (by omega) h1 h2
theorem GM_end {nx : Nat → Nat → Int} {st M n : Nat} {to : Nat → Int} (hM : M ≤ 120) (hnx : ∀ a s, nx a s < M) (hst : st < M) (h : GM nx st n (8 * M) to) : GA nx st (n + 1) to ∧ GB nx st (n + 1) to := by
  obtain ⟨ha, hb, hc⟩ := h
  refine ⟨ha, fun v d h1 h2 => ?_⟩
  by_cases c : d ≤ n
  · exact hb v d h1 c
  · have e : d = n + 1 := by omega
    subst e
    obtain ⟨u, s, s1, s2, s3⟩ := Dist_pred h1
    have hu : u < M := rIn_lt hnx hst s2.1
    have hv : v < M := rIn_lt hnx hst h1.1
    have e1 : (8 * u + s) / 8 = u := by omega
    have e2 : (8 * u + s) % 8 = s := by omega
    have := hc (8 * u + s) (by omega) (by rw [e1]; exact hb u n s2 (Nat.le_refl _)) (by rw [e1, e2, s3]; omega)
    rw [e1, e2, s3, Int.toNat_natCast] at this
    obtain x | ⟨d, d1, d2, d3⟩ := ha v (by omega)
    · exact absurd x this
    · have := Dist_u d3 h1
      rw [← this]; exact d2
theorem GM_bg {nx : Nat → Nat → Int} {st n : Nat} {to : Nat → Int} (h1 : GA nx st n to) (h2 : GB nx st n to) : GM nx st n 0 to :=
  ⟨fun v hv => by
    obtain x | ⟨d, d1, d2, d3⟩ := h1 v hv
    · exact Or.inl x
    · exact Or.inr ⟨d, by omega, d2, d3⟩, h2, fun Q hQ => by omega⟩
def goneF (nx : Nat → Nat → Int) (st : Nat) (to : Nat → Int) : Prop := ∀ v, v < 120 → (∃ d : Nat, Dist nx st v d ∧ to v = (d : Int) ∧ d < 120) ∨ ((∀ n, ¬ rIn nx n st v) ∧ to v = 268435456)
theorem gone_in {nx : Nat → Nat → Int} {st M c u n : Nat} (hM : M ≤ 120) (hnx : ∀ a s, nx a s < M) (hnv : ∀ a s, nx a s = -1 ∨ 0 ≤ nx a s) (hst : st < M) (hc : c ≠ 138) (hu : u < M) (hn : n < 120) : ∀ (m f k : Nat) (S : SS), m + k = 8 → m < f → (∀ s, s < 8 → S 138 (8 * u + s) = nx u s) → GM nx st n (8 * u + k) (S c) → ∃ S', fX12_laysGone_120_L52 c n u f k S = some S' ∧ GM nx st n (8 * u + 8) (S' c) := by
  intro m
  induction m with
  | zero =>
    intro f k S hk hf hx h
    obtain ⟨f, rfl⟩ := suc_of hf
    have ek : k = 8 := by omega
    subst ek
    unfold fX12_laysGone_120_L52
    rw [if_pos (by omega)]
    exact ⟨S, rfl, h⟩
  | succ m ih =>
    intro f k S hk hf hx h
    obtain ⟨f, rfl⟩ := suc_of hf
    have e1 : (8 * u + k) / 8 = u := by omega
    have e2 : (8 * u + k) % 8 = k := by omega
    unfold fX12_laysGone_120_L52
    rw [if_neg (by omega), rdA_ok (by omega) (by omega), Int.toNat_natCast]
    by_cases c1 : S c u = (n : Int)
    · have ex : (8 * (u : Int) + (k : Int)).toNat = 8 * u + k := by omega
      rw [if_pos c1, w32_eq (x := 8 * (u : Int)) (by omega) (by omega), w32_eq (x := 8 * (u : Int) + (k : Int)) (by omega) (by omega), rdA_ok (by omega) (by omega), ex, hx k (by omega), w32_k (k := k) (by omega)]
      by_cases c2 : nx u k = -1
      · rw [if_pos c2, bnd_s, lt_ok]
        have g : GM nx st n (8 * u + k + 1) (S c) := GM_same h (by rw [e1, e2, c2]; intro _ h; omega)
        exact ih f (k + 1) S (by omega) (by omega) hx g
      · obtain ⟨w, hw⟩ : ∃ w : Nat, nx u k = w := ⟨(nx u k).toNat, by have := hnv u k; omega⟩
        have hwM : w < M := by have := hnx u k; omega
        rw [if_neg c2, hw, rdA_ok (by omega) (by omega), Int.toNat_natCast]
        by_cases c3 : S c w = 268435456
        · rw [if_pos c3, wrA_ok (by omega) (by omega), Int.toNat_natCast, w32_eq (x := (n : Int) + 1) (by omega) (by omega), bnd_s, lt_ok]
          have g : GM nx st n (8 * u + k + 1) (pt (S c) w ((n : Int) + 1)) := GM_new hM hnx hst (by omega) h (by rw [e1]; exact hu) (by rw [e1]; exact c1) (by rw [e1, e2]; exact hw) c3
          have er : up S c w ((n : Int) + 1) c = pt (S c) w ((n : Int) + 1) := by
            funext j; rw [up_at]; rfl
          exact ih f (k + 1) (up S c w ((n : Int) + 1)) (by omega) (by omega) (fun s hs => by rw [up_row (by omega)]; exact hx s hs) (by rw [er]; exact g)
        · rw [if_neg c3, bnd_s, lt_ok]
          have g : GM nx st n (8 * u + k + 1) (S c) := GM_same h (by rw [e1, e2, hw, Int.toNat_natCast]; intro _ _; exact c3)
          exact ih f (k + 1) S (by omega) (by omega) hx g
    · rw [if_neg c1]
      exact ⟨S, rfl, GM_out h e1 c1⟩
theorem gone_mid {nx : Nat → Nat → Int} {st M c n : Nat} {R : Nat → Int} (hM : M ≤ 120) (hMR : M = (20 * R 1).toNat) (h1 : 1 ≤ R 1 ∧ R 1 ≤ 6) (hnx : ∀ a s, nx a s < M) (hnv : ∀ a s, nx a s = -1 ∨ 0 ≤ nx a s) (hst : st < M) (hc : c = 140 ∨ c = 141) (hn : n < 120) : ∀ (m f u : Nat) (S : SS), m + u = M → m < f → S 131 = R → (∀ a s, a < M → s < 8 → S 138 (8 * a + s) = nx a s) → GM nx st n (8 * u) (S c) → ∃ S', fX12_laysGone_120_L40 c n f u S = some S' ∧ GM nx st n (8 * M) (S' c) := by
  intro m
  induction m with
  | zero =>
    intro f u S hk hf hr hx h
    obtain ⟨f, rfl⟩ := suc_of hf
    have ek : u = M := by omega
    subst ek
    have r1 : S 131 (1 : Int).toNat = R 1 := by rw [hr]; rfl
    unfold fX12_laysGone_120_L40 fX12_stands
    rw [rdA_ok (by decide) (by decide), r1, w32_eq (by omega) (by omega), bnd_s, if_pos (by omega)]
    exact ⟨S, rfl, h⟩
  | succ m ih =>
    intro f u S hk hf hr hx h
    obtain ⟨f, rfl⟩ := suc_of hf
    have r1 : S 131 (1 : Int).toNat = R 1 := by rw [hr]; rfl
    obtain ⟨S1, q1, q2⟩ := gone_in (c := c) (u := u) (n := n) hM hnx hnv hst (by omega) (by omega) hn 8 FU 0 S (by omega) (by decide) (fun s hs => hx u s (by omega) hs) h
    have q1' : fX12_laysGone_120_L52 c n u FU 0 S = some S1 := q1
    have f1 : ∀ a, a ≠ c → S1 a = S a := fun a ha => w_fX12_laysGone_120_L52 ha _ _ _ _ q1
    unfold fX12_laysGone_120_L40 fX12_stands
    rw [rdA_ok (by decide) (by decide), r1, w32_eq (by omega) (by omega), bnd_s, if_neg (by omega), q1', bnd_s, lt_ok, w32_k (by omega)]
    exact ih f (u + 1) S1 (by omega) (by omega) ((f1 131 (by omega)).trans hr) (fun a s ha hs => by rw [f1 138 (by omega)]; exact hx a s ha hs) (by rw [show 8 * (u + 1) = 8 * u + 8 by omega]; exact q2)
theorem gone_out {nx : Nat → Nat → Int} {st M c : Nat} {R : Nat → Int} (hM : M ≤ 120) (hMR : M = (20 * R 1).toNat) (h1 : 1 ≤ R 1 ∧ R 1 ≤ 6) (hnx : ∀ a s, nx a s < M) (hnv : ∀ a s, nx a s = -1 ∨ 0 ≤ nx a s) (hst : st < M) (hc : c = 140 ∨ c = 141) : ∀ (m f n : Nat) (S : SS), m + n = 120 → m < f → S 131 = R → (∀ a s, a < M → s < 8 → S 138 (8 * a + s) = nx a s) → GA nx st n (S c) → GB nx st n (S c) → ∃ S', fX12_laysGone_120_L31 c f n S = some S' ∧ GA nx st 120 (S' c) ∧ GB nx st 120 (S' c) := by
  intro m
  induction m with
  | zero =>
    intro f n S hk hf hr hx ha hb
    obtain ⟨f, rfl⟩ := suc_of hf
    have ek : n = 120 := by omega
    subst ek
    unfold fX12_laysGone_120_L31
    rw [if_pos (by omega)]
    exact ⟨S, rfl, ha, hb⟩
  | succ m ih =>
    intro f n S hk hf hr hx ha hb
    obtain ⟨f, rfl⟩ := suc_of hf
    obtain ⟨S1, q1, q2⟩ := gone_mid (c := c) (n := n) hM hMR h1 hnx hnv hst hc (by omega) M FU 0 S (by omega) (by unfold FU; omega) hr hx (GM_bg ha hb)
    have q1' : fX12_laysGone_120_L40 c n FU 0 S = some S1 := q1
    have f1 : ∀ a, a ≠ c → S1 a = S a := fun a ha => w_fX12_laysGone_120_L40 ha _ _ _ _ q1
    obtain ⟨g1, g2⟩ := GM_end hM hnx hst q2
    unfold fX12_laysGone_120_L31
    rw [if_neg (by omega), q1', bnd_s, lt_ok, w32_k (by omega)]
    exact ih f (n + 1) S1 (by omega) (by omega) ((f1 131 (by omega)).trans hr) (fun a s ha hs => by rw [f1 138 (by omega)]; exact hx a s ha hs) g1 g2
theorem gone_init {c st : Nat} : ∀ (m f k : Nat) (S : SS), m + k = 120 → m < f → ∃ S', fX12_laysGone_120_L2 st c f k S = some S' ∧ ∀ j, j < 120 → S' c j = if k ≤ j then (if j = st then 0 else 268435456) else S c j := by
  intro m
  induction m with
  | zero =>
    intro f k S hk hf
    obtain ⟨f, rfl⟩ := suc_of hf
    unfold fX12_laysGone_120_L2
    rw [if_pos (by omega)]
    exact ⟨S, rfl, fun j hj => by rw [if_neg (by omega)]⟩
  | succ m ih =>
    intro f k S hk hf
    obtain ⟨f, rfl⟩ := suc_of hf
    have e : (if (k : Int) = (st : Int) then some 0 else some 268435456 : Option Int) = some (if k = st then 0 else 268435456) := by
      by_cases c : k = st
      · rw [if_pos (by omega), if_pos c]
      · rw [if_neg (by omega), if_neg c]
    unfold fX12_laysGone_120_L2
    rw [if_neg (by omega), e, bnd_s, wrA_ok (by omega) (by omega), Int.toNat_natCast, lt_ok, w32_k (by omega)]
    obtain ⟨S', q1, q2⟩ := ih f (k + 1) (up S c k (if k = st then 0 else 268435456)) (by omega) (by omega)
    refine ⟨S', q1, fun j hj => ?_⟩
    rw [q2 j hj, up_at]
    by_cases cj : j = k
    · rw [if_neg (c := k + 1 ≤ j) (by omega), if_pos cj, if_pos (c := k ≤ j) (by omega), cj]
    · by_cases c2 : k ≤ j
      · rw [if_pos (c := k + 1 ≤ j) (by omega), if_pos c2]
      · rw [if_neg (c := k + 1 ≤ j) (by omega), if_neg cj, if_neg c2]
theorem laysGone_ok {nx : Nat → Nat → Int} {st M c : Nat} {S : SS} (hMR : M = (20 * S 131 1).toNat) (h1 : 1 ≤ S 131 1 ∧ S 131 1 ≤ 6) (hnx : ∀ a s, nx a s < M) (hnv : ∀ a s, nx a s = -1 ∨ 0 ≤ nx a s) (hst : st < M) (hc : c = 140 ∨ c = 141) (hx : ∀ a s, a < M → s < 8 → S 138 (8 * a + s) = nx a s) :
    ∃ S', fX12_laysGone_120 st c S = some S' ∧ goneF nx st (S' c) ∧ ∀ a, a ≠ c → S' a = S a := by
  obtain ⟨S1, q1, q2⟩ := gone_init (c := c) (st := st) 120 FU 0 S (by omega) (by decide)
  have q1' : fX12_laysGone_120_L2 st c FU 0 S = some S1 := q1
  have f1 : ∀ a, a ≠ c → S1 a = S a := fun a ha => w_fX12_laysGone_120_L2 ha _ _ _ _ q1
  have g : ∀ j, j < 120 → S1 c j = if j = st then 0 else 268435456 := fun j hj => by rw [q2 j hj, if_pos (Nat.zero_le j)]
  have d0 : Dist nx st st 0 := ⟨rfl, fun n _ => Nat.zero_le n⟩
  obtain ⟨S2, z1, z2, z3⟩ := gone_out (c := c) (st := st) (nx := nx) (M := M) (R := S 131) (by omega) hMR h1 hnx hnv hst hc 120 FU 0 S1 (by omega) (by decide) (f1 131 (by omega)) (fun a s ha hs => by rw [f1 138 (by omega)]; exact hx a s ha hs)
    (fun v hv => by
      rw [g v hv]
      by_cases c : v = st
      · subst c; rw [if_pos rfl]; exact Or.inr ⟨0, Nat.le_refl _, rfl, d0⟩
      · rw [if_neg c]; exact Or.inl rfl)
    (fun v d h1 h2 => by
      have e : d = 0 := by omega
      subst e
      have : st = v := h1.1
      subst this
      rw [g st (by omega), if_pos rfl]; rfl)
  have z1' : fX12_laysGone_120_L31 c FU 0 S1 = some S2 := z1
  have e : fX12_laysGone_120 st c S = some S2 := by unfold fX12_laysGone_120; rw [q1', bnd_s, z1', bnd_s]
  refine ⟨S2, e, fun v hv => ?_, fun a ha => w_fX12_laysGone_120 e ha⟩
  by_cases c : ∃ n, rIn nx n st v
  · obtain ⟨n, hn⟩ := c
    obtain ⟨d, d1, d2⟩ := Dist_of hn
    have := Dist_lt hnx hst d2
    exact Or.inl ⟨d, d2, z3 v d d2 (by omega), by omega⟩
  · refine Or.inr ⟨fun n hn => c ⟨n, hn⟩, ?_⟩
    obtain x | ⟨d, d1, d2, d3⟩ := z2 v hv
    · exact x
    · exact absurd ⟨d, d3.1⟩ c
