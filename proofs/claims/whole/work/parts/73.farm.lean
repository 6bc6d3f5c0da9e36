/-! the reference's loops that lay how far -/
def FF (nx : Nat → Nat → Int) (gl : Nat → Bool) (M : Nat) (far : Nat → Int) : Prop := ∀ a, a < M → (∃ d : Nat, far a = (d : Int) ∧ d < 120 ∧ toG nx gl d a ∧ ∀ n, toG nx gl n a → d ≤ n) ∨ (far a = 268435456 ∧ ∀ n, ¬ toG nx gl n a)
theorem farBy_ok {nx : Nat → Nat → Int} {S : SS} {M a s : Nat} (hM : M ≤ 120) (hnx : ∀ a s, nx a s < M) (hnv : ∀ a s, nx a s = -1 ∨ 0 ≤ nx a s) (ha : a < 120) (hs : s < 8) (hx : S 138 (8 * a + s) = nx a s) (hb : ∀ v, v < 120 → 0 ≤ S 139 v ∧ S 139 v ≤ 268435456) : fX12_farBy a s S = some (fby nx (S 139) a s) := by
  have ex : (8 * (a : Int) + (s : Int)).toNat = 8 * a + s := by omega
  unfold fX12_farBy fby
  rw [w32_eq (x := 8 * (a : Int)) (by omega) (by omega), w32_eq (x := 8 * (a : Int) + (s : Int)) (by omega) (by omega), rdA_ok (by omega) (by omega), ex, hx]
  by_cases c : nx a s = -1
  · rw [if_pos c, if_pos c]
  · have h1 := hnv a s
    have h2 := hnx a s
    have h3 := hb (nx a s).toNat (by omega)
    rw [if_neg c, if_neg c, rdA_ok (by omega) (by omega)]
    by_cases d : S 139 (nx a s).toNat = 268435456
    · rw [if_pos d, if_pos d]
    · rw [if_neg d, if_neg d, rdA_ok (by omega) (by omega), w32_eq (by omega) (by omega)]
theorem FS_b {nx : Nat → Nat → Int} {gl : Nat → Bool} {far : Nat → Int} (h : FS nx gl far) {v : Nat} (hv : v < 120) : 0 ≤ far v ∧ far v ≤ 268435456 := by
  obtain x | ⟨n, n1, n2, _⟩ := (h v hv).1 <;> omega
theorem far_in {nx : Nat → Nat → Int} {gl : Nat → Bool} {M k u : Nat} {far0 : Nat → Int} {g : Int} (hM : M ≤ 120) (hnx : ∀ a s, nx a s < M) (hnv : ∀ a s, nx a s = -1 ∨ 0 ≤ nx a s) (hk : k < 1000) (hu : u < M) : ∀ (m f j : Nat) (S : SS) (fl : Int), m + j = 8 → m < f → (∀ s, s < 8 → S 138 (8 * u + s) = nx u s) → FQ nx gl M k (8 * u + j) far0 (S 139) fl → ∃ S' fl', fX12_laysFar_L72 g u f fl j S = some (fl', S') ∧ FQ nx gl M k (8 * u + 8) far0 (S' 139) fl' := by
  intro m
  induction m with
  | zero =>
    intro f j S fl hj hf hx h
    obtain ⟨f, rfl⟩ := suc_of hf
    have ej : j = 8 := by omega
    subst ej
    unfold fX12_laysFar_L72
    rw [if_pos (by omega)]
    exact ⟨S, fl, rfl, h⟩
  | succ m ih =>
    intro f j S fl hj hf hx h
    obtain ⟨f, rfl⟩ := suc_of hf
    have e1 : (8 * u + j) / 8 = u := by omega
    have e2 : (8 * u + j) % 8 = j := by omega
    have hb : ∀ v, v < 120 → 0 ≤ S 139 v ∧ S 139 v ≤ 268435456 := fun v hv => FS_b h.1 hv
    unfold fX12_laysFar_L72
    rw [if_neg (by omega), rdA_ok (by omega) (by omega), Int.toNat_natCast]
    by_cases c1 : S 139 u ≤ 0
    · rw [if_pos c1]
      exact ⟨S, fl, rfl, FQ_out h e1 c1⟩
    · have fb := farBy_ok (nx := nx) (S := S) (M := M) (a := u) (s := j) hM hnx hnv (by omega) (by omega) (hx j (by omega)) hb
      rw [if_neg c1, fb, bnd_s, rdA_ok (by omega) (by omega), Int.toNat_natCast]
      by_cases c2 : fby nx (S 139) u j < S 139 u
      · rw [if_pos c2, bnd_s, wrA_ok (by omega) (by omega), Int.toNat_natCast, bnd_s, lt_ok, w32_k (by omega)]
        have g' : FQ nx gl M k (8 * u + j + 1) far0 (pt (S 139) u (fby nx (S 139) u j)) 1 := by
          have := FQ_less hM hnx hnv hk h e1 hu (by omega) (by rw [e2]; exact c2)
          rw [e2] at this
          exact this
        have er : up S 139 u (fby nx (S 139) u j) 139 = pt (S 139) u (fby nx (S 139) u j) := by
          funext i; rw [up_at]; rfl
        exact ih f (j + 1) (up S 139 u (fby nx (S 139) u j)) 1 (by omega) (by omega) (fun s hs => by rw [up_row (by decide)]; exact hx s hs) (by rw [er]; exact g')
      · rw [if_neg c2, bnd_s, lt_ok, w32_k (by omega)]
        have g' : FQ nx gl M k (8 * u + j + 1) far0 (S 139) fl := FQ_keep hM hnx hk h (by rw [e1, e2]; exact Or.inr (by omega))
        exact ih f (j + 1) S fl (by omega) (by omega) hx g'
theorem far_mid {nx : Nat → Nat → Int} {gl : Nat → Bool} {R : Nat → Int} {M k : Nat} {far0 : Nat → Int} {g : Int} (hMR : M = (20 * R 1).toNat) (h1 : 1 ≤ R 1 ∧ R 1 ≤ 6) (hnx : ∀ a s, nx a s < M) (hnv : ∀ a s, nx a s = -1 ∨ 0 ≤ nx a s) (hk : k < 1000) : ∀ (m f u : Nat) (S : SS) (fl : Int), m + u = M → m < f → S 131 = R → (∀ a s, a < M → s < 8 → S 138 (8 * a + s) = nx a s) → FQ nx gl M k (8 * u) far0 (S 139) fl → ∃ S' fl', fX12_laysFar_L60 g f fl u S = some (fl', S') ∧ FQ nx gl M k (8 * M) far0 (S' 139) fl' := by
  intro m
  induction m with
  | zero =>
    intro f u S fl hu hf hr hx h
    obtain ⟨f, rfl⟩ := suc_of hf
    have eu : u = M := by omega
    have r1 : S 131 (1 : Int).toNat = R 1 := by rw [hr]; rfl
    unfold fX12_laysFar_L60 fX12_stands
    rw [rdA_ok (by decide) (by decide), r1, w32_eq (by omega) (by omega), bnd_s, if_pos (by omega)]
    rw [eu] at h
    exact ⟨S, fl, rfl, h⟩
  | succ m ih =>
    intro f u S fl hu hf hr hx h
    obtain ⟨f, rfl⟩ := suc_of hf
    have r1 : S 131 (1 : Int).toNat = R 1 := by rw [hr]; rfl
    obtain ⟨S1, fl1, q1, q2⟩ := far_in (g := g) (u := u) (by omega) hnx hnv hk (by omega) 8 FU 0 S fl (by omega) (by decide) (fun s hs => hx u s (by omega) hs) h
    have q1' : fX12_laysFar_L72 g u FU fl 0 S = some (fl1, S1) := q1
    have f1 : ∀ a, a ≠ 139 → S1 a = S a := fun a ha => w_fX12_laysFar_L72 ha _ _ _ _ _ q1
    unfold fX12_laysFar_L60 fX12_stands
    rw [rdA_ok (by decide) (by decide), r1, w32_eq (by omega) (by omega), bnd_s, if_neg (by omega), q1', bnd_s, lt_ok, w32_k (by omega)]
    exact ih f (u + 1) S1 fl1 (by omega) (by omega) ((f1 131 (by decide)).trans hr) (fun a s ha hs => by rw [f1 138 (by decide)]; exact hx a s ha hs) (by rw [show 8 * (u + 1) = 8 * u + 8 by omega]; exact q2)
theorem far_out {nx : Nat → Nat → Int} {gl : Nat → Bool} {R : Nat → Int} {M : Nat} {g : Int} (hMR : M = (20 * R 1).toNat) (h1 : 1 ≤ R 1 ∧ R 1 ≤ 6) (hnx : ∀ a s, nx a s < M) (hnv : ∀ a s, nx a s = -1 ∨ 0 ≤ nx a s) : ∀ (m f k : Nat) (S : SS), m + k = 121 → m + 1 < f → S 131 = R → (∀ a s, a < M → s < 8 → S 138 (8 * a + s) = nx a s) → FS nx gl (S 139) → FC nx gl M k (S 139) → (k = 121 → False) → ∃ S', fX12_laysFar_L49 g f 1 S = some S' ∧ FS nx gl (S' 139) ∧ FE nx gl M (S' 139) := by
  intro m
  induction m with
  | zero => intro f k S hk hf hr hx hs hc hn; exact (hn (by omega)).elim
  | succ m ih =>
    intro f k S hk hf hr hx hs hc hn
    obtain ⟨f, rfl⟩ : ∃ n', f = n' + 1 := ⟨f - 1, by omega⟩
    obtain ⟨S1, fl1, q1, q2⟩ := far_mid (g := g) (gl := gl) (k := k) (far0 := S 139) hMR h1 hnx hnv (by omega) M FU 0 S 0 (by omega) (by unfold FU; omega) hr hx ⟨hs, hc, fun Q hQ => by omega, Or.inl ⟨rfl, rfl, fun Q hQ => by omega⟩⟩
    have q1' : fX12_laysFar_L60 g FU 0 0 S = some (fl1, S1) := q1
    have f1 : ∀ a, a ≠ 139 → S1 a = S a := fun a ha => w_fX12_laysFar_L60 ha _ _ _ _ _ q1
    obtain ⟨e1, e2, e3⟩ := FQ_end (by omega) hnx q2
    unfold fX12_laysFar_L49
    rw [if_neg (by decide), q1', bnd_s]
    simp only
    obtain ⟨z1, z2⟩ | ⟨z1, z2⟩ := e3
    · obtain ⟨f, rfl⟩ : ∃ n', f = n' + 1 := ⟨f - 1, by omega⟩
      unfold fX12_laysFar_L49
      rw [if_pos z1]
      exact ⟨S1, rfl, e1, z2⟩
    · rw [z1]
      refine ih f (k + 1) S1 (by omega) (by omega) ((f1 131 (by decide)).trans hr) (fun a s ha hs => by rw [f1 138 (by decide)]; exact hx a s ha hs) e1 e2 (fun e => z2 ?_)
      have ek : k = 120 := by omega
      rw [ek] at hc
      exact (FE_of (by omega) hnx hc).1
theorem far_init {g c y : Int} : ∀ (m f k : Nat) (S : SS), m + k = 120 → m < f → ∃ S', fX12_laysFar_L9 g c y f k S = some S' ∧ ∀ j, j < 120 → S' 139 j = if k ≤ j then (if goalP c y j = true then 0 else 268435456) else S 139 j := by
  intro m
  induction m with
  | zero =>
    intro f k S hk hf
    obtain ⟨f, rfl⟩ := suc_of hf
    unfold fX12_laysFar_L9
    rw [if_pos (by omega)]
    exact ⟨S, rfl, fun j hj => by rw [if_neg (c := k ≤ j) (by omega)]⟩
  | succ m ih =>
    intro f k S hk hf
    obtain ⟨f, rfl⟩ := suc_of hf
    have e : (if goalP c y k = true then some 0 else some 268435456 : Option Int) = some (if goalP c y k = true then 0 else 268435456) := by
      split <;> rfl
    unfold fX12_laysFar_L9
    rw [if_neg (by omega), isGoal_ok (by omega), bnd_s, e, bnd_s, wrA_ok (by omega) (by omega), Int.toNat_natCast, lt_ok, w32_k (by omega)]
    obtain ⟨S', q1, q2⟩ := ih f (k + 1) (up S 139 k (if goalP c y k = true then 0 else 268435456)) (by omega) (by omega)
    refine ⟨S', q1, fun j hj => ?_⟩
    rw [q2 j hj, up_at]
    by_cases cj : j = k
    · rw [if_neg (c := k + 1 ≤ j) (by omega), if_pos cj, if_pos (c := k ≤ j) (by omega), cj]
    · by_cases c2 : k ≤ j
      · rw [if_pos (c := k + 1 ≤ j) (by omega), if_pos c2]
      · rw [if_neg (c := k + 1 ≤ j) (by omega), if_neg cj, if_neg c2]
theorem laysFar_ok {S : SS} {g c y : Int} (hB : townB (S 131)) (hb : stBd (S 131) 34 (S 131 1)) (hg : 0 ≤ g ∧ g < S 131 3) : ∃ S', fX12_laysFar g c y S = some (S' 139 (spotP (S 131) g).toNat, S') ∧ FF (nowG (S 131) g) (goalP c y) (20 * S 131 1).toNat (S' 139) ∧ (∀ a s, a < (20 * S 131 1).toNat → s < 8 → S' 138 (8 * a + s) = nowG (S 131) g a s) ∧ (∀ v, v < 120 → 0 ≤ S' 139 v ∧ S' 139 v ≤ 268435456) ∧ ∀ a, (a < 135 ∨ 136 < a) → a ≠ 138 → a ≠ 139 → S' a = S a := by
  have h1 := hB.1
  have h3 := hB.2.2.1
  obtain ⟨S1, a1, a2, a3⟩ := lays_now hB hb hg
  have e131 : S1 131 = S 131 := a3 131 (by omega) (by omega)
  have sp := spotP_b hb hg.1 (show g < 3 by omega)
  obtain ⟨S2, b1, b2⟩ := far_init (g := g) (c := c) (y := y) 120 FU 0 S1 (by omega) (by decide)
  have b1' : fX12_laysFar_L9 g c y FU 0 S1 = some S2 := b1
  have f2 : ∀ a, a ≠ 139 → S2 a = S1 a := fun a ha => w_fX12_laysFar_L9 ha _ _ _ _ b1
  have e2 : S2 131 = S 131 := (f2 131 (by decide)).trans e131
  have b3 : ∀ j, j < 120 → S2 139 j = if goalP c y j = true then 0 else 268435456 := fun j hj => by rw [b2 j hj, if_pos (c := 0 ≤ j) (Nat.zero_le j)]
  have fs : FS (nowG (S 131) g) (goalP c y) (S2 139) := fun a ha => by
    rw [b3 a ha]
    by_cases cg : goalP c y a = true
    · rw [if_pos cg]; exact ⟨Or.inr ⟨0, rfl, by decide, a, cg, rfl⟩, fun _ => rfl⟩
    · rw [if_neg cg]; exact ⟨Or.inl rfl, fun h => absurd h cg⟩
  have fc : FC (nowG (S 131) g) (goalP c y) (20 * S 131 1).toNat 0 (S2 139) := fun a ha n hn ht => by
    have e : n = 0 := by omega
    subst e
    rw [b3 a (by omega), if_pos (toG_0 ht)]; omega
  obtain ⟨S3, c1, c2, c3⟩ := far_out (g := g) (R := S 131) (M := (20 * S 131 1).toNat) rfl h1 (nowG_lt hB) nowG_m 121 FU 0 S2 (by omega) (by decide) e2 (fun a s ha hs => by rw [f2 138 (by decide)]; exact a2 a s ha hs) fs fc (fun h => by omega)
  have f3 : ∀ a, a ≠ 139 → S3 a = S2 a := fun a ha => w_fX12_laysFar_L49 ha _ _ _ _ c1
  have e3 : S3 131 = S 131 := (f3 131 (by decide)).trans e2
  have st := standOf_ok (S := S3) (g := g) (by rw [e3]; exact hb) (by rw [e3]; exact hB) hg.1 (by omega)
  rw [e3] at st
  refine ⟨S3, ?_, fun a ha => ?_, fun a s ha hs => by rw [f3 138 (by decide), f2 138 (by decide)]; exact a2 a s ha hs, fun v hv => FS_b c2 hv, fun a q1 q2 q3 => ((f3 a q3).trans (f2 a q3)).trans (a3 a q1 q2)⟩
  · unfold fX12_laysFar
    rw [a1, bnd_s, b1', bnd_s, c1, bnd_s, st, bnd_s, rdA_ok (by omega) (by omega)]
  · have hlt : ∀ n, toG (nowG (S 131) g) (goalP c y) n a → ∃ d, d < (20 * S 131 1).toNat ∧ d ≤ n ∧ toG (nowG (S 131) g) (goalP c y) d a ∧ ∀ m, toG (nowG (S 131) g) (goalP c y) m a → d ≤ m := fun n hn =>
      (FE_of (far := S3 139) (by omega) (nowG_lt hB) (fun a ha n _ ht => c3 a ha n ht)).2 a ha n hn
    obtain x | ⟨n, n1, n2, n3⟩ := (c2 a (by omega)).1
    · refine Or.inr ⟨x, fun n hn => ?_⟩
      obtain ⟨d, d1, d2, d3, _⟩ := hlt n hn
      have := c3 a ha d d3
      omega
    · obtain ⟨d, d1, d2, d3, d4⟩ := hlt n n3
      have := c3 a ha d d3
      have := d4 n n3
      exact Or.inl ⟨d, by omega, by omega, d3, d4⟩
