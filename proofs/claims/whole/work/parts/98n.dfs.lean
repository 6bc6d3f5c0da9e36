/-! rings: the class goes deeper and deeper -/
def RingP (nx : Nat → Nat → Int) (st : Nat) : Prop := ∃ v n m, rIn nx n st v ∧ rIn nx (m + 1) v v
def c8 (x : Int) : Int := ysum (fun k => if bit x k = true then 1 else 0) 8
theorem c8_b (x : Int) : 0 ≤ c8 x ∧ c8 x ≤ 8 := by
  have a : ∀ k, (0 : Int) ≤ (if bit x k = true then 1 else 0) ∧ (if bit x k = true then (1 : Int) else 0) ≤ 1 := fun k => by split <;> decide
  refine ⟨ysum_nn 8 (fun k => (a k).1), ?_⟩
  exact ysum_le (h := fun _ => 1) 8 (fun k _ => (a k).2)
theorem c8_0 : c8 0 = 0 := by decide +kernel
def sW (W : Nat) : Nat := ((fJ6_numberOfTrailingZeros_0f7a4 ((W : Nat) : Int)).getD 0).toNat
def wW (W : Nat) : Nat := (jand ((W : Nat) : Int) (w32 (((W : Nat) : Int) - 1))).toNat
def lowB (W : Nat) : Bool := decide (W = 0) || (decide (fJ6_numberOfTrailingZeros_0f7a4 ((W : Nat) : Int) = some ((sW W : Nat) : Int)) && (decide (sW W < 8) && (decide (bit ((W : Nat) : Int) (sW W) = true) && (decide (jand ((W : Nat) : Int) (w32 (((W : Nat) : Int) - 1)) = ((wW W : Nat) : Int)) && (decide (wW W < 256) && ((List.range 8).all (fun k => decide (bit ((wW W : Nat) : Int) k = (bit ((W : Nat) : Int) k && decide (k ≠ sW W)))) && decide (c8 ((wW W : Nat) : Int) + 1 = c8 ((W : Nat) : Int))))))))
theorem low_all : (List.range 256).all lowB = true := by decide +kernel
theorem low_ok {W : Nat} (h : W < 256) (h0 : W ≠ 0) : ∃ s W' : Nat, fJ6_numberOfTrailingZeros_0f7a4 ((W : Nat) : Int) = some (s : Int) ∧ s < 8 ∧ bit (W : Int) s = true ∧ jand ((W : Nat) : Int) (w32 (((W : Nat) : Int) - 1)) = (W' : Int) ∧ W' < 256 ∧ (∀ k, k < 8 → bit (W' : Int) k = (bit (W : Int) k && decide (k ≠ s))) ∧ c8 (W' : Int) + 1 = c8 (W : Int) := by
  have a := List.all_eq_true.mp low_all W (List.mem_range.mpr h)
  unfold lowB at a
  rw [Bool.or_eq_true] at a
  rcases a with a | a
  · exact absurd (of_decide_eq_true a) h0
  · rw [Bool.and_eq_true, Bool.and_eq_true, Bool.and_eq_true, Bool.and_eq_true, Bool.and_eq_true, Bool.and_eq_true] at a
    obtain ⟨a1, a2, a3, a4, a5, a6, a7⟩ := a
    exact ⟨sW W, wW W, of_decide_eq_true a1, of_decide_eq_true a2, of_decide_eq_true a3, of_decide_eq_true a4, of_decide_eq_true a5, fun k hk => of_decide_eq_true (List.all_eq_true.mp a6 k (List.mem_range.mpr hk)), of_decide_eq_true a7⟩
theorem sum_upd {f f' : Nat → Int} {i n : Nat} (hi : i < n) (h : ∀ k, k ≠ i → f' k = f k) : ysum f' n = ysum f n + (f' i - f i) := by
  have e : ∀ k, k < n → f' k = pt f i (f i + (f' i - f i)) k := fun k _ => by
    unfold pt
    by_cases c : k = i
    · rw [if_pos c, c]; omega
    · rw [if_neg c]; exact h k c
  rw [ysum_congr e, ysum_pt, if_pos hi]
def phi (Z un : Nat → Int) (v : Nat) : Int := if Z v = 0 then 9 else if Z v = 1 then 1 + c8 (un v) else 0
theorem phi_nn {Z un : Nat → Int} (v : Nat) : 0 ≤ phi Z un v := by
  have := (c8_b (un v)).1
  unfold phi
  generalize c8 (un v) = c at *
  split
  · decide
  · split <;> omega
theorem meas_close {Z un : Nat → Int} {v : Nat} (hv : v < 120) (h1 : Z v = 1) (h0 : un v = 0) : ysum (phi (pt Z v 2) un) 120 + 1 = ysum (phi Z un) 120 := by
  have e := sum_upd (f := phi Z un) (f' := phi (pt Z v 2) un) hv (fun k hk => by unfold phi; rw [pt_o hk])
  have e1 : phi Z un v = 1 := by unfold phi; rw [h1, if_neg (by decide), if_pos rfl, h0, c8_0]; rfl
  have e2 : phi (pt Z v 2) un v = 0 := by unfold phi; rw [pt_h, if_neg (by decide), if_neg (by decide)]
  rw [e, e1, e2]; omega
theorem meas_try {Z un : Nat → Int} {v : Nat} {x : Int} (hv : v < 120) (h1 : Z v = 1) (hx : c8 x + 1 = c8 (un v)) : ysum (phi Z (pt un v x)) 120 + 1 = ysum (phi Z un) 120 := by
  have e := sum_upd (f := phi Z un) (f' := phi Z (pt un v x)) hv (fun k hk => by unfold phi; rw [pt_o hk])
  have e1 : phi Z un v = 1 + c8 (un v) := by unfold phi; rw [h1, if_neg (by decide), if_pos rfl]
  have e2 : phi Z (pt un v x) v = 1 + c8 x := by unfold phi; rw [h1, if_neg (by decide), if_pos rfl, pt_h]
  rw [e, e1, e2, ← hx]
  generalize c8 x = c
  omega
theorem meas_open {Z un : Nat → Int} {v : Nat} {x : Int} (hv : v < 120) (h1 : Z v = 0) : ysum (phi (pt Z v 1) (pt un v x)) 120 ≤ ysum (phi Z un) 120 := by
  have e := sum_upd (f := phi Z un) (f' := phi (pt Z v 1) (pt un v x)) hv (fun k hk => by unfold phi; rw [pt_o hk, pt_o hk])
  have e1 : phi Z un v = 9 := by unfold phi; rw [if_pos h1]
  have e2 : phi (pt Z v 1) (pt un v x) v = 1 + c8 x := by unfold phi; rw [pt_h, if_neg (by decide), if_pos rfl, pt_h]
  have := (c8_b x).2
  rw [e, e1, e2]
  generalize c8 x = c at *
  omega
theorem meas_pos {Z un : Nat → Int} {v : Nat} (hv : v < 120) (h1 : Z v = 1) : 1 ≤ ysum (phi Z un) 120 := by
  have a := ysum_ge (f := phi Z un) 120 (fun k => phi_nn k) hv
  have e1 : phi Z un v = 1 + c8 (un v) := by unfold phi; rw [h1, if_neg (by decide), if_pos rfl]
  have := (c8_b (un v)).1
  rw [e1] at a
  generalize c8 (un v) = c at *
  omega
def DI (nx : Nat → Nat → Int) (st M q f : Nat) (o : Nat → Nat) (Z un : Nat → Int) (rk : Nat → Nat) (K : Nat) : Prop :=
  (∀ j, j < f → o j < M ∧ Z (o j) = 1)
  ∧ (∀ i j, i < f → j < f → o i = o j → i = j)
  ∧ (∀ v, v < 120 → Z v = 1 → ∃ j, j < f ∧ v = o j)
  ∧ (∀ j, j + 1 < f → ∃ s, s < 8 ∧ nx (o j) s = (o (j + 1) : Int))
  ∧ (∀ j, j < f → (∃ W : Nat, un (o j) = W ∧ W < 256) ∧ (∀ s, s < 8 → bit (un (o j)) s = true → s < q) ∧ ∀ s, s < 8 → bit (un (o j)) s = false → nx (o j) s = -1 ∨ ∃ w : Nat, nx (o j) s = w ∧ (Z w = 2 ∨ (j + 1 < f ∧ w = o (j + 1))))
  ∧ (∀ v, v < 120 → Z v = 2 → rk v < K ∧ ∀ s, s < 8 → nx v s = -1 ∨ ∃ w : Nat, nx v s = w ∧ Z w = 2 ∧ rk w < rk v)
  ∧ (∀ v, v < 120 → Z v ≠ 0 → ∃ n, rIn nx n st v)
  ∧ Z st ≠ 0
  ∧ (∀ v, v < 120 → Z v = 0 ∨ Z v = 1 ∨ Z v = 2)
theorem DI_path {nx : Nat → Nat → Int} {st M q f : Nat} {o : Nat → Nat} {Z un : Nat → Int} {rk : Nat → Nat} {K : Nat} (h : DI nx st M q f o Z un rk K) {j : Nat} : ∀ d, j + d < f → rIn nx d (o j) (o (j + d)) := by
  intro d
  induction d with
  | zero => intro _; rfl
  | succ d ih =>
    intro hd
    obtain ⟨s, h1, h2⟩ := h.2.2.2.1 (j + d) (by omega)
    exact ⟨o (j + d), s, h1, ih (by omega), h2⟩
theorem DI_true {nx : Nat → Nat → Int} {st M q f s w : Nat} {o : Nat → Nat} {Z un : Nat → Int} {rk : Nat → Nat} {K : Nat} (h : DI nx st M q (f + 1) o Z un rk K) (hw : w < 120) (hs : s < 8) (e : nx (o f) s = (w : Int)) (z : Z w = 1) : RingP nx st := by
  obtain ⟨j, hj, rfl⟩ := h.2.2.1 w hw z
  obtain ⟨n, hn⟩ := h.2.2.2.2.2.2.1 _ hw (by rw [z]; decide)
  have p := DI_path h (j := j) (f - j) (by omega)
  rw [show j + (f - j) = f by omega] at p
  exact ⟨o j, n, f - j, hn, o f, s, hs, p, e⟩
theorem DI_false {nx : Nat → Nat → Int} {st M q : Nat} {o : Nat → Nat} {Z un : Nat → Int} {rk : Nat → Nat} {K : Nat} (hM : M ≤ 120) (hnx : ∀ a s, nx a s < M) (hst : st < M) (h : DI nx st M q 0 o Z un rk K) : ¬ RingP nx st := by
  obtain ⟨h1, h2, h3, h4, h5, h6, h7, h8, h9⟩ := h
  have no1 : ∀ v, v < 120 → Z v ≠ 1 := fun v hv e => by obtain ⟨j, hj, _⟩ := h3 v hv e; omega
  have cl : ∀ n v, rIn nx n st v → v < 120 ∧ Z v = 2 := by
    intro n
    induction n with
    | zero =>
      intro v hv
      cases hv
      have a := no1 st (by omega)
      rcases h9 st (by omega) with z | z | z
      · exact absurd z h8
      · exact absurd z a
      · exact ⟨by omega, z⟩
    | succ n ih =>
      intro v hv
      obtain ⟨c, s, hs, hc, e⟩ := hv
      obtain ⟨c1, c2⟩ := ih c hc
      rcases (h6 c c1 c2).2 s hs with z | ⟨w, z1, z2, z3⟩
      · omega
      · have : v = w := by omega
        subst this
        have := hnx c s
        exact ⟨by omega, z2⟩
  have dn : ∀ m v w, v < 120 → Z v = 2 → rIn nx m v w → w < 120 ∧ Z w = 2 ∧ rk w + m ≤ rk v := by
    intro m
    induction m with
    | zero => intro v w a b c; cases c; exact ⟨a, b, by omega⟩
    | succ m ih =>
      intro v w a b c
      obtain ⟨u, s, hs, hc, e⟩ := c
      obtain ⟨c1, c2, c3⟩ := ih v u a b hc
      rcases (h6 u c1 c2).2 s hs with z | ⟨x, z1, z2, z3⟩
      · omega
      · have : w = x := by omega
        subst this
        have := hnx u s
        exact ⟨by omega, z2, by omega⟩
  rintro ⟨v, n, m, a, b⟩
  obtain ⟨c1, c2⟩ := cl n v a
  have := (dn (m + 1) v v c1 c2 b).2.2
  omega
theorem DI_close {nx : Nat → Nat → Int} {st M q f : Nat} {o : Nat → Nat} {Z un : Nat → Int} {rk : Nat → Nat} {K : Nat} (hM : M ≤ 120) (hnx : ∀ a s, nx a s < M) (h : DI nx st M q (f + 1) o Z un rk K) (h0 : un (o f) = 0) : DI nx st M q f o (pt Z (o f) 2) un (pt rk (o f) K) (K + 1) := by
  obtain ⟨h1, h2, h3, h4, h5, h6, h7, h8, h9⟩ := h
  have ne : ∀ j, j < f → o j ≠ o f := fun j hj e => by have := h2 j f (by omega) (by omega) e; omega
  have zf := (h1 f (by omega)).2
  have Z2 : ∀ w, Z w = 2 → pt Z (o f) 2 w = 2 := fun w hw => by
    by_cases c : w = o f
    · rw [c, pt_h]
    · rw [pt_o c]; exact hw
  have rke : ∀ w, Z w = 2 → pt rk (o f) K w = rk w := fun w hw => pt_o (fun c => by rw [c, zf] at hw; exact absurd hw (by decide))
  refine ⟨fun j hj => ⟨(h1 j (by omega)).1, by rw [pt_o (ne j hj)]; exact (h1 j (by omega)).2⟩, fun i j hi hj e => h2 i j (by omega) (by omega) e, fun v hv e => ?_, fun j hj => h4 j (by omega), fun j hj => ⟨(h5 j (by omega)).1, (h5 j (by omega)).2.1, fun s hs hb => ?_⟩, fun v hv e => ?_, fun v hv e => ?_, ?_, fun v hv => ?_⟩
  · have c : v ≠ o f := fun c => by rw [c, pt_h] at e; exact absurd e (by decide)
    rw [pt_o c] at e
    obtain ⟨j, hj, ej⟩ := h3 v hv e
    exact ⟨j, by have : j ≠ f := fun x => c (by rw [ej, x]); omega, ej⟩
  · rcases (h5 j (by omega)).2.2 s hs hb with z | ⟨w, z1, z2 | ⟨z2, z3⟩⟩
    · exact Or.inl z
    · exact Or.inr ⟨w, z1, Or.inl (Z2 w z2)⟩
    · by_cases c : j + 1 < f
      · exact Or.inr ⟨w, z1, Or.inr ⟨c, z3⟩⟩
      · have : j + 1 = f := by omega
        refine Or.inr ⟨w, z1, Or.inl ?_⟩
        rw [z3, this, pt_h]
  · by_cases c : v = o f
    · subst c
      rw [pt_h]
      refine ⟨by omega, fun s hs => ?_⟩
      rcases (h5 f (by omega)).2.2 s hs (by rw [h0]; exact bit_0) with z | ⟨w, z1, z2 | ⟨z2, z3⟩⟩
      · exact Or.inl z
      · have := hnx (o f) s
        exact Or.inr ⟨w, z1, Z2 w z2, by rw [rke w z2]; exact (h6 w (by omega) z2).1⟩
      · omega
    · rw [pt_o c] at e ⊢
      obtain ⟨a, b⟩ := h6 v hv e
      refine ⟨by omega, fun s hs => ?_⟩
      rcases b s hs with z | ⟨w, z1, z2, z3⟩
      · exact Or.inl z
      · exact Or.inr ⟨w, z1, Z2 w z2, by rw [rke w z2]; exact z3⟩
  · by_cases c : v = o f
    · subst c; exact h7 _ hv (by rw [zf]; decide)
    · rw [pt_o c] at e; exact h7 v hv e
  · by_cases c : st = o f
    · rw [c, pt_h]; decide
    · rw [pt_o c]; exact h8
  · by_cases c : v = o f
    · rw [c, pt_h]; exact Or.inr (Or.inr rfl)
    · rw [pt_o c]; exact h9 v hv
theorem DI_try {nx : Nat → Nat → Int} {st M q f s W' : Nat} {o : Nat → Nat} {Z un : Nat → Int} {rk : Nat → Nat} {K : Nat} (h : DI nx st M q (f + 1) o Z un rk K) (hW : W' < 256) (hb : ∀ k, k < 8 → bit (W' : Int) k = (bit (un (o f)) k && decide (k ≠ s))) (hx : nx (o f) s = -1 ∨ ∃ w : Nat, nx (o f) s = w ∧ Z w = 2) : DI nx st M q (f + 1) o Z (pt un (o f) W') rk K := by
  obtain ⟨h1, h2, h3, h4, h5, h6, h7, h8, h9⟩ := h
  refine ⟨h1, h2, h3, h4, fun j hj => ?_, h6, h7, h8, h9⟩
  by_cases c : j = f
  · subst c
    rw [pt_h]
    refine ⟨⟨W', rfl, hW⟩, fun k hk e => ?_, fun k hk e => ?_⟩
    · rw [hb k hk, Bool.and_eq_true] at e
      exact (h5 j hj).2.1 k hk e.1
    · rw [hb k hk] at e
      by_cases d : k = s
      · subst d
        rcases hx with z | ⟨w, z1, z2⟩
        · exact Or.inl z
        · exact Or.inr ⟨w, z1, Or.inl z2⟩
      · rw [decide_eq_true d, Bool.and_true] at e
        exact (h5 j hj).2.2 k hk e
  · have ne : o j ≠ o f := fun e => c (h2 j f hj (by omega) e)
    rw [pt_o ne]
    exact h5 j hj
theorem DI_open {nx : Nat → Nat → Int} {st M q f s W' L to : Nat} {o : Nat → Nat} {Z un : Nat → Int} {rk : Nat → Nat} {K : Nat} (hM : M ≤ 120) (hnx : ∀ a s, nx a s < M) (h : DI nx st M q (f + 1) o Z un rk K) (hW : W' < 256) (hs : s < 8) (hb : ∀ k, k < 8 → bit (W' : Int) k = (bit (un (o f)) k && decide (k ≠ s))) (ht : to < M) (hx : nx (o f) s = (to : Int)) (z0 : Z to = 0) (hL : L < 256) (hLq : ∀ k, k < 8 → bit (L : Int) k = true → k < q) (hL0 : ∀ k, k < 8 → bit (L : Int) k = false → nx to k = -1) :
    DI nx st M q (f + 2) (pt o (f + 1) to) (pt Z to 1) (pt (pt un (o f) W') to L) rk K := by
  obtain ⟨h1, h2, h3, h4, h5, h6, h7, h8, h9⟩ := h
  have nt : ∀ j, j < f + 1 → o j ≠ to := fun j hj e => by have := (h1 j hj).2; rw [e, z0] at this; exact absurd this (by decide)
  have oj : ∀ j, j < f + 1 → pt o (f + 1) to j = o j := fun j hj => pt_o (by omega)
  have on : pt o (f + 1) to (f + 1) = to := pt_h
  have Z2 : ∀ w, Z w = 2 → pt Z to 1 w = 2 := fun w hw => by
    rw [pt_o (fun c => by rw [c, z0] at hw; exact absurd hw (by decide))]; exact hw
  refine ⟨fun j hj => ?_, fun i j hi hj e => ?_, fun v hv e => ?_, fun j hj => ?_, fun j hj => ?_, fun v hv e => ?_, fun v hv e => ?_, ?_, fun v hv => ?_⟩
  · by_cases c : j = f + 1
    · rw [c, on, pt_h]; exact ⟨ht, rfl⟩
    · rw [oj j (by omega), pt_o (nt j (by omega))]; exact h1 j (by omega)
  · by_cases c : i = f + 1
    · by_cases d : j = f + 1
      · omega
      · rw [c, on, oj j (by omega)] at e
        exact absurd e.symm (nt j (by omega))
    · by_cases d : j = f + 1
      · rw [d, on, oj i (by omega)] at e
        exact absurd e (nt i (by omega))
      · rw [oj i (by omega), oj j (by omega)] at e
        exact h2 i j (by omega) (by omega) e
  · by_cases c : v = to
    · exact ⟨f + 1, by omega, by rw [on]; exact c⟩
    · rw [pt_o c] at e
      obtain ⟨j, hj, ej⟩ := h3 v hv e
      exact ⟨j, by omega, by rw [oj j hj]; exact ej⟩
  · by_cases c : j = f
    · subst c
      rw [on, oj j (by omega)]
      exact ⟨s, hs, hx⟩
    · rw [oj j (by omega), oj (j + 1) (by omega)]
      exact h4 j (by omega)
  · by_cases c : j = f + 1
    · rw [c, on, pt_h]
      exact ⟨⟨L, rfl, hL⟩, hLq, fun k hk e => Or.inl (hL0 k hk e)⟩
    · rw [oj j (by omega), pt_o (nt j (by omega))]
      by_cases d : j = f
      · subst d
        rw [pt_h]
        refine ⟨⟨W', rfl, hW⟩, fun k hk e => ?_, fun k hk e => ?_⟩
        · rw [hb k hk, Bool.and_eq_true] at e
          exact (h5 j (by omega)).2.1 k hk e.1
        · rw [hb k hk] at e
          by_cases d : k = s
          · subst d
            exact Or.inr ⟨to, hx, Or.inr ⟨by omega, by rw [on]⟩⟩
          · rw [decide_eq_true d, Bool.and_true] at e
            rcases (h5 j (by omega)).2.2 k hk e with z | ⟨w, z1, z2 | ⟨z2, z3⟩⟩
            · exact Or.inl z
            · exact Or.inr ⟨w, z1, Or.inl (Z2 w z2)⟩
            · omega
      · have ne : o j ≠ o f := fun e => d (h2 j f (by omega) (by omega) e)
        rw [pt_o ne]
        refine ⟨(h5 j (by omega)).1, (h5 j (by omega)).2.1, fun k hk e => ?_⟩
        rcases (h5 j (by omega)).2.2 k hk e with z | ⟨w, z1, z2 | ⟨z2, z3⟩⟩
        · exact Or.inl z
        · exact Or.inr ⟨w, z1, Or.inl (Z2 w z2)⟩
        · exact Or.inr ⟨w, z1, Or.inr ⟨by omega, by rw [oj (j + 1) (by omega)]; exact z3⟩⟩
  · have c : v ≠ to := fun c => by rw [c, pt_h] at e; exact absurd e (by decide)
    rw [pt_o c] at e
    obtain ⟨a, b⟩ := h6 v hv e
    refine ⟨a, fun s hs => ?_⟩
    rcases b s hs with z | ⟨w, z1, z2, z3⟩
    · exact Or.inl z
    · exact Or.inr ⟨w, z1, Z2 w z2, z3⟩
  · by_cases c : v = to
    · obtain ⟨n, hn⟩ := h7 (o f) (by have := (h1 f (by omega)).1; omega) (by rw [(h1 f (by omega)).2]; decide)
      rw [c]
      exact ⟨n + 1, o f, s, hs, hn, hx⟩
    · rw [pt_o c] at e; exact h7 v hv e
  · by_cases c : st = to
    · rw [c, pt_h]; decide
    · rw [pt_o c]; exact h8
  · by_cases c : v = to
    · rw [c, pt_h]; exact Or.inr (Or.inl rfl)
    · rw [pt_o c]; exact h9 v hv
theorem DI_size {nx : Nat → Nat → Int} {st M q f : Nat} {o : Nat → Nat} {Z un : Nat → Int} {rk : Nat → Nat} {K : Nat} (h : DI nx st M q f o Z un rk K) : f ≤ M := pigeon M f o (fun i hi => (h.1 i hi).1) (fun i j hi hj e => h.2.1 i j hi hj e)
