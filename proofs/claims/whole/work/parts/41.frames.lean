theorem up_row {S : SS} {r j a : Nat} {v : Int} (h : a ≠ r) : up S r j v a = S a := by
  funext i; unfold up; rw [if_neg (fun q => h q.1)]
theorem cpy_row {S : SS} {x b a : Nat} {i j n : Int} (h : a ≠ b) : cpy S x i b j n a = S a := by
  funext y; unfold cpy; rw [if_neg (fun q => h q.1)]
theorem sh_n0 {q : Nat} {s : Nat × Nat} (h : sh q = s) (hs : sh 0 ≠ s) : q ≠ 0 := fun e => hs (by rw [← e]; exact h)
theorem rgR_60 {v : Nat} {i : Int} (h : v = refs 60 i.toNat) (h0 : 0 ≤ i) (h1 : i < ((10 : Nat) : Int)) : 61 ≤ v ∧ v ≤ 97 := by
  have e : ∀ k, k < 10 → 61 ≤ refs 60 k ∧ refs 60 k ≤ 97 := by decide +kernel
  rw [h]; exact e _ (by omega)
theorem rgR_101 {v : Nat} {i : Int} (h : v = refs 101 i.toNat) (h0 : 0 ≤ i) (h1 : i < ((4 : Nat) : Int)) : 104 ≤ v ∧ v ≤ 110 := by
  have e : ∀ k, k < 4 → 104 ≤ refs 101 k ∧ refs 101 k ≤ 110 := by decide +kernel
  rw [h]; exact e _ (by omega)
theorem rgR_102 {v : Nat} {i : Int} (h : v = refs 102 i.toNat) (h0 : 0 ≤ i) (h1 : i < ((2 : Nat) : Int)) : 112 ≤ v ∧ v ≤ 121 := by
  have e : ∀ k, k < 2 → 112 ≤ refs 102 k ∧ refs 102 k ≤ 121 := by decide +kernel
  rw [h]; exact e _ (by omega)
set_option maxHeartbeats 4000000 in
theorem w_fX3_append_L3 {l1 : Int} {a : Nat} (ha : (a < 19 ∨ 20 < a)) : ∀ n l2 S rr, fX3_append_L3 l1 n l2 S = some rr → rr a = S a := by
  intro n
  induction n with
  | zero => intro l2 S rr h; cases h
  | succ n ih =>
    intro l2 S rr h
    unfold fX3_append_L3 at h
    rcases ite_e h with ⟨_, h⟩ | ⟨_, h⟩
    · obtain rfl := Option.some.inj h
      exact rfl
    · obtain ⟨q1, hq1, h⟩ := bnd_e h
      have kq1 : q1 a = S a := by
        rcases ite_e hq1 with ⟨_, hq1⟩ | ⟨_, hq1⟩
        · obtain rfl := Option.some.inj hq1
          exact rfl
        · obtain ⟨S2, hS2, _, hq1⟩ := wrA_e hq1
          have kS2 : S2 a = S a := by rw [hS2]; exact ((up_row (by omega)).trans rfl)
          obtain ⟨S4, hS4, hq1⟩ := lt_e hq1
          have kS4 : S4 a = S a := by rw [hS4]; exact ((up_row (by omega)).trans kS2)
          obtain rfl := Option.some.inj hq1
          exact kS4
      obtain ⟨x6, hx6, h⟩ := lt_e h
      exact (ih _ _ _ h).trans kq1
set_option maxHeartbeats 4000000 in
theorem w_fX3_append {p1 : Int} {S : SS} {rr : SS} (h : fX3_append p1 S = some rr) {a : Nat} (ha : (a < 19 ∨ 20 < a)) : rr a = S a := by
  unfold fX3_append at h
  obtain ⟨q1, hq1, h⟩ := bnd_e h
  have kq1 : q1 a = S a := (w_fX3_append_L3 (by omega) _ _ _ _ hq1).trans rfl
  obtain rfl := Option.some.inj h
  exact kq1
set_option maxHeartbeats 4000000 in
theorem w_fX11_feed {p1 : Int} {p2 : Int} {p3 : Int} {p4 : Int} {p5 : Int} {S : SS} {rr : Int × SS} (h : fX11_feed p1 p2 p3 p4 p5 S = some rr) {a : Nat} (ha : (a < 19 ∨ 20 < a)) : rr.2 a = S a := by
  unfold fX11_feed at h
  rcases ite_e h with ⟨_, h⟩ | ⟨_, h⟩
  · obtain ⟨q1, hq1, h⟩ := bnd_e h
    have kq1 : q1 a = S a := (w_fX3_append hq1 (by omega)).trans rfl
    obtain ⟨q2, hq2, h⟩ := bnd_e h
    have kq2 : q2 a = S a := (w_fX3_append hq2 (by omega)).trans kq1
    obtain ⟨q3, hq3, h⟩ := bnd_e h
    have kq3 : q3 a = S a := (w_fX3_append hq3 (by omega)).trans kq2
    obtain ⟨q4, hq4, h⟩ := bnd_e h
    have kq4 : q4 a = S a := (w_fX3_append hq4 (by omega)).trans kq3
    obtain ⟨q5, hq5, h⟩ := bnd_e h
    have kq5 : q5 a = S a := (w_fX3_append hq5 (by omega)).trans kq4
    obtain rfl := Option.some.inj h
    exact kq5
  · obtain rfl := Option.some.inj h
    exact rfl
set_option maxHeartbeats 4000000 in
theorem w_fJ7_fill_53178_8_L5 {l0 : Nat} {l1 : Int} {l3 : Int} {a : Nat} (ha : a ≠ l0) : ∀ n l2 S rr, fJ7_fill_53178_8_L5 l0 l1 l3 n l2 S = some rr → rr a = S a := by
  intro n
  induction n with
  | zero => intro l2 S rr h; cases h
  | succ n ih =>
    intro l2 S rr h
    unfold fJ7_fill_53178_8_L5 at h
    rcases ite_e h with ⟨_, h⟩ | ⟨_, h⟩
    · obtain rfl := Option.some.inj h
      exact rfl
    · obtain ⟨S1, hS1, _, h⟩ := wrA_e h
      have kS1 : S1 a = S a := by rw [hS1]; exact ((up_row (by omega)).trans rfl)
      obtain ⟨x3, hx3, h⟩ := lt_e h
      exact (ih _ _ _ h).trans kS1
set_option maxHeartbeats 4000000 in
theorem w_fJ7_fill_53178_8 {p0 : Nat} {p1 : Int} {S : SS} {rr : SS} (h : fJ7_fill_53178_8 p0 p1 S = some rr) {a : Nat} (ha : a ≠ p0) : rr a = S a := by
  unfold fJ7_fill_53178_8 at h
  obtain ⟨q1, hq1, h⟩ := bnd_e h
  have kq1 : q1 a = S a := (w_fJ7_fill_53178_8_L5 (by omega) _ _ _ _ hq1).trans rfl
  obtain rfl := Option.some.inj h
  exact kq1
set_option maxHeartbeats 4000000 in
theorem w_fJ7_fill_53178_3_L5 {l0 : Nat} {l1 : Int} {l3 : Int} {a : Nat} (ha : a ≠ l0) : ∀ n l2 S rr, fJ7_fill_53178_3_L5 l0 l1 l3 n l2 S = some rr → rr a = S a := by
  intro n
  induction n with
  | zero => intro l2 S rr h; cases h
  | succ n ih =>
    intro l2 S rr h
    unfold fJ7_fill_53178_3_L5 at h
    rcases ite_e h with ⟨_, h⟩ | ⟨_, h⟩
    · obtain rfl := Option.some.inj h
      exact rfl
    · obtain ⟨S1, hS1, _, h⟩ := wrA_e h
      have kS1 : S1 a = S a := by rw [hS1]; exact ((up_row (by omega)).trans rfl)
      obtain ⟨x3, hx3, h⟩ := lt_e h
      exact (ih _ _ _ h).trans kS1
set_option maxHeartbeats 4000000 in
theorem w_fJ7_fill_53178_3 {p0 : Nat} {p1 : Int} {S : SS} {rr : SS} (h : fJ7_fill_53178_3 p0 p1 S = some rr) {a : Nat} (ha : a ≠ p0) : rr a = S a := by
  unfold fJ7_fill_53178_3 at h
  obtain ⟨q1, hq1, h⟩ := bnd_e h
  have kq1 : q1 a = S a := (w_fJ7_fill_53178_3_L5 (by omega) _ _ _ _ hq1).trans rfl
  obtain rfl := Option.some.inj h
  exact kq1
set_option maxHeartbeats 4000000 in
theorem w_fX6_clear {t : Nat} {S : SS} {rr : SS} (h : fX6_clear t S = some rr) {a : Nat} (ha : a ≠ t ∧ a ≠ t + 1 ∧ a ≠ t + 2 ∧ a ≠ t + 3) : rr a = S a := by
  unfold fX6_clear at h
  obtain ⟨q1, hq1, h⟩ := bnd_e h
  have kq1 : q1 a = S a := (w_fJ7_fill_53178_8 hq1 (by omega)).trans rfl
  obtain ⟨q2, hq2, h⟩ := bnd_e h
  have kq2 : q2 a = S a := (w_fJ7_fill_53178_3 hq2 (by omega)).trans kq1
  obtain ⟨q3, hq3, h⟩ := bnd_e h
  have kq3 : q3 a = S a := (w_fJ7_fill_53178_3 hq3 (by omega)).trans kq2
  obtain ⟨S4, hS4, h⟩ := lt_e h
  have kS4 : S4 a = S a := by rw [hS4]; exact ((up_row (by omega)).trans kq3)
  obtain rfl := Option.some.inj h
  exact kS4
set_option maxHeartbeats 4000000 in
theorem w_fX8_clear {t : Nat} {S : SS} {rr : SS} (h : fX8_clear t S = some rr) {a : Nat} (ha : a ≠ t ∧ a ≠ t + 5 ∧ a ≠ t + 6 ∧ a ≠ t + 7 ∧ a ≠ t + 8) : rr a = S a := by
  unfold fX8_clear at h
  obtain ⟨q1, hq1, h⟩ := bnd_e h
  have kq1 : q1 a = S a := (w_fX6_clear hq1 (by omega)).trans rfl
  obtain ⟨S2, hS2, h⟩ := lt_e h
  have kS2 : S2 a = S a := by rw [hS2]; exact ((up_row (by omega)).trans kq1)
  obtain ⟨S3, hS3, h⟩ := lt_e h
  have kS3 : S3 a = S a := by rw [hS3]; exact ((up_row (by omega)).trans kS2)
  obtain ⟨S4, hS4, h⟩ := lt_e h
  have kS4 : S4 a = S a := by rw [hS4]; exact ((up_row (by omega)).trans kS3)
  obtain ⟨S5, hS5, h⟩ := lt_e h
  have kS5 : S5 a = S a := by rw [hS5]; exact ((up_row (by omega)).trans kS4)
  obtain ⟨S6, hS6, h⟩ := lt_e h
  have kS6 : S6 a = S a := by rw [hS6]; exact ((up_row (by omega)).trans kS5)
  obtain ⟨S7, hS7, h⟩ := lt_e h
  have kS7 : S7 a = S a := by rw [hS7]; exact ((up_row (by omega)).trans kS6)
  obtain ⟨S8, hS8, h⟩ := lt_e h
  have kS8 : S8 a = S a := by rw [hS8]; exact ((up_row (by omega)).trans kS7)
  obtain ⟨S9, hS9, h⟩ := lt_e h
  have kS9 : S9 a = S a := by rw [hS9]; exact ((up_row (by omega)).trans kS8)
  obtain ⟨S10, hS10, h⟩ := lt_e h
  have kS10 : S10 a = S a := by rw [hS10]; exact ((up_row (by omega)).trans kS9)
  obtain rfl := Option.some.inj h
  exact kS10
set_option maxHeartbeats 4000000 in
theorem w_fX3_fail {p1 : Int} {S : SS} {rr : SS} (h : fX3_fail p1 S = some rr) {a : Nat} (ha : a ≠ 19) : rr a = S a := by
  unfold fX3_fail at h
  rcases ite_e h with ⟨_, h⟩ | ⟨_, h⟩
  · obtain ⟨S1, hS1, h⟩ := lt_e h
    have kS1 : S1 a = S a := by rw [hS1]; exact ((up_row (by omega)).trans rfl)
    obtain ⟨S2, hS2, h⟩ := lt_e h
    have kS2 : S2 a = S a := by rw [hS2]; exact ((up_row (by omega)).trans kS1)
    obtain ⟨S3, hS3, h⟩ := lt_e h
    have kS3 : S3 a = S a := by rw [hS3]; exact ((up_row (by omega)).trans kS2)
    obtain rfl := Option.some.inj h
    exact kS3
  · obtain rfl := Option.some.inj h
    exact rfl
set_option maxHeartbeats 4000000 in
theorem w_fX6_setSign {t : Nat} {p1 : Int} {p2 : Int} {S : SS} {rr : SS} (h : fX6_setSign t p1 p2 S = some rr) {a : Nat} (ha : a ≠ t + 1) : rr a = S a := by
  unfold fX6_setSign at h
  rcases ite_e h with ⟨_, h⟩ | ⟨_, h⟩
  · obtain rfl := Option.some.inj h
    exact rfl
  · rcases ite_e h with ⟨_, h⟩ | ⟨_, h⟩
    · obtain rfl := Option.some.inj h
      exact rfl
    · obtain ⟨S1, hS1, _, h⟩ := wrA_e h
      have kS1 : S1 a = S a := by rw [hS1]; exact ((up_row (by omega)).trans rfl)
      obtain rfl := Option.some.inj h
      exact kS1
set_option maxHeartbeats 4000000 in
theorem w_fX8_addStreet {t : Nat} {p1 : Int} {p2 : Int} {S : SS} {rr : SS} (h : fX8_addStreet t p1 p2 S = some rr) {a : Nat} (ha : a ≠ t ∧ a ≠ t + 1 ∧ a ≠ t + 2 ∧ a ≠ t + 3 ∧ a ≠ t + 6) : rr a = S a := by
  unfold fX8_addStreet at h
  rcases ite_e h with ⟨_, h⟩ | ⟨_, h⟩
  · obtain rfl := Option.some.inj h
    exact rfl
  · obtain ⟨S1, hS1, _, h⟩ := wrA_e h
    have kS1 : S1 a = S a := by rw [hS1]; exact ((up_row (by omega)).trans rfl)
    obtain ⟨S3, hS3, _, h⟩ := wrA_e h
    have kS3 : S3 a = S a := by rw [hS3]; exact ((up_row (by omega)).trans kS1)
    obtain ⟨S5, hS5, _, h⟩ := wrA_e h
    have kS5 : S5 a = S a := by rw [hS5]; exact ((up_row (by omega)).trans kS3)
    obtain ⟨q7, hq7, h⟩ := bnd_e h
    have kq7 : q7 a = S a := (w_fX6_setSign hq7 (by omega)).trans kS5
    obtain ⟨S8, hS8, h⟩ := lt_e h
    have kS8 : S8 a = S a := by rw [hS8]; exact ((up_row (by omega)).trans kq7)
    obtain rfl := Option.some.inj h
    exact kS8
set_option maxHeartbeats 4000000 in
theorem w_fX8_setYears {t : Nat} {p1 : Int} {S : SS} {rr : SS} (h : fX8_setYears t p1 S = some rr) {a : Nat} (ha : a ≠ t + 3) : rr a = S a := by
  unfold fX8_setYears at h
  rcases ite_e h with ⟨_, h⟩ | ⟨_, h⟩
  · obtain rfl := Option.some.inj h
    exact rfl
  · rcases ite_e h with ⟨_, h⟩ | ⟨_, h⟩
    · obtain rfl := Option.some.inj h
      exact rfl
    · obtain ⟨S1, hS1, _, h⟩ := wrA_e h
      have kS1 : S1 a = S a := by rw [hS1]; exact ((up_row (by omega)).trans rfl)
      obtain rfl := Option.some.inj h
      exact kS1
set_option maxHeartbeats 4000000 in
theorem w_fX6_setGoer {t : Nat} {p1 : Int} {p2 : Int} {p3 : Int} {S : SS} {rr : SS} (h : fX6_setGoer t p1 p2 p3 S = some rr) {a : Nat} (ha : a ≠ t + 2 ∧ a ≠ t + 3) : rr a = S a := by
  unfold fX6_setGoer at h
  rcases ite_e h with ⟨_, h⟩ | ⟨_, h⟩
  · obtain rfl := Option.some.inj h
    exact rfl
  · rcases ite_e h with ⟨_, h⟩ | ⟨_, h⟩
    · obtain rfl := Option.some.inj h
      exact rfl
    · rcases ite_e h with ⟨_, h⟩ | ⟨_, h⟩
      · obtain rfl := Option.some.inj h
        exact rfl
      · obtain ⟨S1, hS1, _, h⟩ := wrA_e h
        have kS1 : S1 a = S a := by rw [hS1]; exact ((up_row (by omega)).trans rfl)
        obtain ⟨S3, hS3, _, h⟩ := wrA_e h
        have kS3 : S3 a = S a := by rw [hS3]; exact ((up_row (by omega)).trans kS1)
        obtain rfl := Option.some.inj h
        exact kS3
set_option maxHeartbeats 4000000 in
theorem w_fX8_addCode {t : Nat} {p1 : Int} {S : SS} {rr : SS} (h : fX8_addCode t p1 S = some rr) {a : Nat} (ha : a ≠ t ∧ a ≠ t + 4) : rr a = S a := by
  unfold fX8_addCode at h
  rcases ite_e h with ⟨_, h⟩ | ⟨_, h⟩
  · obtain rfl := Option.some.inj h
    exact rfl
  · obtain ⟨S1, hS1, _, h⟩ := wrA_e h
    have kS1 : S1 a = S a := by rw [hS1]; exact ((up_row (by omega)).trans rfl)
    obtain ⟨S3, hS3, h⟩ := lt_e h
    have kS3 : S3 a = S a := by rw [hS3]; exact ((up_row (by omega)).trans kS1)
    obtain rfl := Option.some.inj h
    exact kS3
set_option maxHeartbeats 4000000 in
theorem w_fX6_copyOf {t : Nat} {p1 : Nat} {S : SS} {rr : SS} (h : fX6_copyOf t p1 S = some rr) {a : Nat} (ha : a ≠ t ∧ a ≠ t + 1 ∧ a ≠ t + 2 ∧ a ≠ t + 3) : rr a = S a := by
  unfold fX6_copyOf at h
  obtain ⟨S1, hS1, _, h⟩ := acp_e h
  have kS1 : S1 a = S a := by rw [hS1]; exact ((cpy_row (by omega)).trans rfl)
  obtain ⟨S3, hS3, _, h⟩ := acp_e h
  have kS3 : S3 a = S a := by rw [hS3]; exact ((cpy_row (by omega)).trans kS1)
  obtain ⟨S5, hS5, _, h⟩ := acp_e h
  have kS5 : S5 a = S a := by rw [hS5]; exact ((cpy_row (by omega)).trans kS3)
  obtain ⟨S7, hS7, h⟩ := lt_e h
  have kS7 : S7 a = S a := by rw [hS7]; exact ((up_row (by omega)).trans kS5)
  obtain rfl := Option.some.inj h
  exact kS7
set_option maxHeartbeats 4000000 in
theorem w_fX8_copyOf {t : Nat} {p1 : Nat} {S : SS} {rr : SS} (h : fX8_copyOf t p1 S = some rr) {a : Nat} (ha : a ≠ t ∧ a ≠ t + 1 ∧ a ≠ t + 2 ∧ a ≠ t + 3 ∧ a ≠ t + 4 ∧ a ≠ t + 5 ∧ a ≠ t + 6 ∧ a ≠ t + 7 ∧ a ≠ t + 8) : rr a = S a := by
  unfold fX8_copyOf at h
  obtain ⟨q1, hq1, h⟩ := bnd_e h
  have kq1 : q1 a = S a := (w_fX6_copyOf hq1 (by omega)).trans rfl
  obtain ⟨S2, hS2, _, h⟩ := acp_e h
  have kS2 : S2 a = S a := by rw [hS2]; exact ((cpy_row (by omega)).trans kq1)
  obtain ⟨S4, hS4, _, h⟩ := acp_e h
  have kS4 : S4 a = S a := by rw [hS4]; exact ((cpy_row (by omega)).trans kS2)
  obtain ⟨S6, hS6, _, h⟩ := acp_e h
  have kS6 : S6 a = S a := by rw [hS6]; exact ((cpy_row (by omega)).trans kS4)
  obtain ⟨S8, hS8, _, h⟩ := acp_e h
  have kS8 : S8 a = S a := by rw [hS8]; exact ((cpy_row (by omega)).trans kS6)
  obtain ⟨S10, hS10, h⟩ := lt_e h
  have kS10 : S10 a = S a := by rw [hS10]; exact ((up_row (by omega)).trans kS8)
  obtain ⟨S11, hS11, h⟩ := lt_e h
  have kS11 : S11 a = S a := by rw [hS11]; exact ((up_row (by omega)).trans kS10)
  obtain ⟨S12, hS12, h⟩ := lt_e h
  have kS12 : S12 a = S a := by rw [hS12]; exact ((up_row (by omega)).trans kS11)
  obtain ⟨S13, hS13, h⟩ := lt_e h
  have kS13 : S13 a = S a := by rw [hS13]; exact ((up_row (by omega)).trans kS12)
  obtain ⟨S14, hS14, h⟩ := lt_e h
  have kS14 : S14 a = S a := by rw [hS14]; exact ((up_row (by omega)).trans kS13)
  obtain ⟨S15, hS15, h⟩ := lt_e h
  have kS15 : S15 a = S a := by rw [hS15]; exact ((up_row (by omega)).trans kS14)
  obtain ⟨S16, hS16, h⟩ := lt_e h
  have kS16 : S16 a = S a := by rw [hS16]; exact ((up_row (by omega)).trans kS15)
  obtain ⟨S17, hS17, h⟩ := lt_e h
  have kS17 : S17 a = S a := by rw [hS17]; exact ((up_row (by omega)).trans kS16)
  obtain ⟨S18, hS18, h⟩ := lt_e h
  have kS18 : S18 a = S a := by rw [hS18]; exact ((up_row (by omega)).trans kS17)
  obtain rfl := Option.some.inj h
  exact kS18
set_option maxHeartbeats 4000000 in
theorem w_fX5_forget {S : SS} {rr : SS} (h : fX5_forget S = some rr) {a : Nat} (ha : a ≠ 30) : rr a = S a := by
  unfold fX5_forget at h
  obtain ⟨S1, hS1, h⟩ := lt_e h
  have kS1 : S1 a = S a := by rw [hS1]; exact ((up_row (by omega)).trans rfl)
  obtain rfl := Option.some.inj h
  exact kS1
set_option maxHeartbeats 4000000 in
theorem w_fX11_becomes {p1 : Nat} {S : SS} {rr : SS} (h : fX11_becomes p1 S = some rr) {a : Nat} (ha : (a < 2 ∨ 10 < a) ∧ a ≠ 30 ∧ a ≠ 59) : rr a = S a := by
  unfold fX11_becomes at h
  obtain ⟨q1, hq1, h⟩ := bnd_e h
  have kq1 : q1 a = S a := (w_fX8_copyOf hq1 (by omega)).trans rfl
  obtain ⟨S2, hS2, h⟩ := lt_e h
  have kS2 : S2 a = S a := by rw [hS2]; exact ((up_row (by omega)).trans kq1)
  obtain ⟨q3, hq3, h⟩ := bnd_e h
  have kq3 : q3 a = S a := (w_fX5_forget hq3 (by omega)).trans kS2
  obtain rfl := Option.some.inj h
  exact kq3
set_option maxHeartbeats 4000000 in
theorem w_fX4_setGoing {p1 : Int} {p2 : Int} {p3 : Int} {p4 : Int} {p5 : Int} {p6 : Int} {S : SS} {rr : SS} (h : fX4_setGoing p1 p2 p3 p4 p5 p6 S = some rr) {a : Nat} (ha : a ≠ 31) : rr a = S a := by
  unfold fX4_setGoing at h
  obtain ⟨S1, hS1, h⟩ := lt_e h
  have kS1 : S1 a = S a := by rw [hS1]; exact ((up_row (by omega)).trans rfl)
  obtain ⟨S2, hS2, h⟩ := lt_e h
  have kS2 : S2 a = S a := by rw [hS2]; exact ((up_row (by omega)).trans kS1)
  obtain ⟨S3, hS3, h⟩ := lt_e h
  have kS3 : S3 a = S a := by rw [hS3]; exact ((up_row (by omega)).trans kS2)
  obtain ⟨S4, hS4, h⟩ := lt_e h
  have kS4 : S4 a = S a := by rw [hS4]; exact ((up_row (by omega)).trans kS3)
  obtain ⟨S5, hS5, h⟩ := lt_e h
  have kS5 : S5 a = S a := by rw [hS5]; exact ((up_row (by omega)).trans kS4)
  obtain ⟨S6, hS6, h⟩ := lt_e h
  have kS6 : S6 a = S a := by rw [hS6]; exact ((up_row (by omega)).trans kS5)
  obtain rfl := Option.some.inj h
  exact kS6
set_option maxHeartbeats 4000000 in
theorem w_fX4_valueOf_900_L6 {l1 : Nat} {l3 : Int} {a : Nat} (ha : a ≠ 32) : ∀ n l4 l5 S rr, fX4_valueOf_900_L6 l1 l3 n l4 l5 S = some rr → rr.2 a = S a := by
  intro n
  induction n with
  | zero => intro l4 l5 S rr h; cases h
  | succ n ih =>
    intro l4 l5 S rr h
    unfold fX4_valueOf_900_L6 at h
    rcases ite_e h with ⟨_, h⟩ | ⟨_, h⟩
    · obtain rfl := Option.some.inj h
      exact rfl
    · rcases ite_e h with ⟨_, h⟩ | ⟨_, h⟩
      · obtain rfl := Option.some.inj h
        exact rfl
      · rcases ite_e h with ⟨_, h⟩ | ⟨_, h⟩
        · obtain rfl := Option.some.inj h
          exact rfl
        · obtain ⟨v1, _, _, h⟩ := rdA_e h
          obtain ⟨q3, hq3, h⟩ := bnd_e h
          have kq3 : q3.2 a = S a := by
            rcases ite_e hq3 with ⟨_, hq3⟩ | ⟨_, hq3⟩
            · rcases ite_e hq3 with ⟨_, hq3⟩ | ⟨_, hq3⟩
              · rcases ite_e hq3 with ⟨_, hq3⟩ | ⟨_, hq3⟩
                · obtain rfl := Option.some.inj hq3
                  exact rfl
                · obtain ⟨v4, _, _, hq3⟩ := rdA_e hq3
                  obtain ⟨S6, hS6, _, hq3⟩ := wrA_e hq3
                  have kS6 : S6 a = S a := by rw [hS6]; exact ((up_row (by omega)).trans rfl)
                  obtain rfl := Option.some.inj hq3
                  exact kS6
              · rcases ite_e hq3 with ⟨_, hq3⟩ | ⟨_, hq3⟩
                · rcases ite_e hq3 with ⟨_, hq3⟩ | ⟨_, hq3⟩
                  · obtain rfl := Option.some.inj hq3
                    exact rfl
                  · obtain ⟨v9, _, _, hq3⟩ := rdA_e hq3
                    obtain ⟨q11, hq11, hq3⟩ := bnd_e hq3
                    obtain ⟨S17, hS17, _, hq3⟩ := wrA_e hq3
                    have kS17 : S17 a = S a := by rw [hS17]; exact ((up_row (by omega)).trans rfl)
                    obtain ⟨x19, hx19, hq3⟩ := lt_e hq3
                    obtain rfl := Option.some.inj hq3
                    exact kS17
                · rcases ite_e hq3 with ⟨_, hq3⟩ | ⟨_, hq3⟩
                  · obtain rfl := Option.some.inj hq3
                    exact rfl
                  · obtain ⟨v21, _, _, hq3⟩ := rdA_e hq3
                    obtain ⟨v23, _, _, hq3⟩ := rdA_e hq3
                    obtain ⟨q25, hq25, hq3⟩ := bnd_e hq3
                    obtain ⟨S26, hS26, _, hq3⟩ := wrA_e hq3
                    have kS26 : S26 a = S a := by rw [hS26]; exact ((up_row (by omega)).trans rfl)
                    obtain ⟨x28, hx28, hq3⟩ := lt_e hq3
                    obtain rfl := Option.some.inj hq3
                    exact kS26
            · rcases ite_e hq3 with ⟨_, hq3⟩ | ⟨_, hq3⟩
              · obtain rfl := Option.some.inj hq3
                exact rfl
              · obtain ⟨q32, hq32, hq3⟩ := bnd_e hq3
                obtain ⟨S35, hS35, _, hq3⟩ := wrA_e hq3
                have kS35 : S35 a = S a := by rw [hS35]; exact ((up_row (by omega)).trans rfl)
                obtain ⟨x37, hx37, hq3⟩ := lt_e hq3
                obtain rfl := Option.some.inj hq3
                exact kS35
          obtain ⟨x40, hx40, h⟩ := lt_e h
          exact (ih _ _ _ _ h).trans kq3
set_option maxHeartbeats 4000000 in
theorem w_fX4_valueOf_900 {p1 : Nat} {p2 : Int} {p3 : Int} {S : SS} {rr : Int × SS} (h : fX4_valueOf_900 p1 p2 p3 S = some rr) {a : Nat} (ha : a ≠ 32) : rr.2 a = S a := by
  unfold fX4_valueOf_900 at h
  obtain ⟨q1, hq1, h⟩ := bnd_e h
  have kq1 : q1.2 a = S a := (w_fX4_valueOf_900_L6 (by omega) _ _ _ _ _ hq1).trans rfl
  rcases ite_e h with ⟨_, h⟩ | ⟨_, h⟩
  · obtain rfl := Option.some.inj h
    exact kq1
  · obtain ⟨v3, _, _, h⟩ := rdA_e h
    obtain rfl := Option.some.inj h
    exact kq1
set_option maxHeartbeats 4000000 in
theorem w_fX5_yearAfter {p1 : Int} {p2 : Int} {p3 : Int} {p4 : Int} {p5 : Int} {S : SS} {rr : Int × SS} (h : fX5_yearAfter p1 p2 p3 p4 p5 S = some rr) {a : Nat} (ha : (a < 31 ∨ 33 < a)) : rr.2 a = S a := by
  unfold fX5_yearAfter at h
  obtain ⟨x1, hx1, h⟩ := lt_e h
  obtain ⟨q2, hq2, h⟩ := bnd_e h
  rcases ite_e h with ⟨_, h⟩ | ⟨_, h⟩
  · obtain ⟨v6, _, _, h⟩ := rdA_e h
    obtain ⟨q8, hq8, h⟩ := bnd_e h
    have kq8 : q8 a = S a := (w_fX4_setGoing hq8 (by omega)).trans rfl
    obtain ⟨x9, hx9, h⟩ := lt_e h
    obtain ⟨q10, hq10, h⟩ := bnd_e h
    have kq10 : q10.2 a = S a := by
      rcases ite_e hq10 with ⟨_, hq10⟩ | ⟨_, hq10⟩
      · obtain ⟨q11, hq11, hq10⟩ := bnd_e hq10
        obtain ⟨q17, hq17, hq10⟩ := bnd_e hq10
        have kq17 : q17.2 a = S a := by
          rcases ite_e hq17 with ⟨_, hq17⟩ | ⟨_, hq17⟩
          · obtain rfl := Option.some.inj hq17
            exact kq8
          · obtain ⟨q18, hq18, hq17⟩ := bnd_e hq17
            have kq18 : q18.2 a = S a := (w_fX4_valueOf_900 hq18 (by omega)).trans kq8
            obtain rfl := Option.some.inj hq17
            exact kq18
        obtain ⟨q20, hq20, hq10⟩ := bnd_e hq10
        obtain ⟨q21, hq21, hq10⟩ := bnd_e hq10
        obtain rfl := Option.some.inj hq10
        exact kq17
      · obtain ⟨q23, hq23, hq10⟩ := bnd_e hq10
        have kq23 : q23.2 a = S a := (w_fX4_valueOf_900 hq23 (by omega)).trans kq8
        rcases ite_e hq10 with ⟨_, hq10⟩ | ⟨_, hq10⟩
        · obtain rfl := Option.some.inj hq10
          exact kq23
        · obtain ⟨q24, hq24, hq10⟩ := bnd_e hq10
          obtain ⟨q30, hq30, hq10⟩ := bnd_e hq10
          have kq30 : q30.2 a = S a := by
            rcases ite_e hq30 with ⟨_, hq30⟩ | ⟨_, hq30⟩
            · obtain rfl := Option.some.inj hq30
              exact kq23
            · obtain ⟨q31, hq31, hq30⟩ := bnd_e hq30
              have kq31 : q31.2 a = S a := (w_fX4_valueOf_900 hq31 (by omega)).trans kq23
              obtain rfl := Option.some.inj hq30
              exact kq31
          obtain ⟨q33, hq33, hq10⟩ := bnd_e hq10
          obtain ⟨q34, hq34, hq10⟩ := bnd_e hq10
          obtain rfl := Option.some.inj hq10
          exact kq30
    obtain ⟨q38, hq38, h⟩ := bnd_e h
    have kq38 : q38 a = S a := by
      rcases ite_e hq38 with ⟨_, hq38⟩ | ⟨_, hq38⟩
      · obtain rfl := Option.some.inj hq38
        exact kq10
      · obtain ⟨S39, hS39, _, hq38⟩ := wrA_e hq38
        have kS39 : S39 a = S a := by rw [hS39]; exact ((up_row (by omega)).trans kq10)
        obtain rfl := Option.some.inj hq38
        exact kS39
    obtain rfl := Option.some.inj h
    exact kq38
  · obtain ⟨v42, _, _, h⟩ := rdA_e h
    rcases ite_e h with ⟨_, h⟩ | ⟨_, h⟩
    · obtain ⟨v44, _, _, h⟩ := rdA_e h
      obtain ⟨q46, hq46, h⟩ := bnd_e h
      have kq46 : q46 a = S a := (w_fX4_setGoing hq46 (by omega)).trans rfl
      obtain ⟨x47, hx47, h⟩ := lt_e h
      obtain ⟨q48, hq48, h⟩ := bnd_e h
      have kq48 : q48.2 a = S a := by
        rcases ite_e hq48 with ⟨_, hq48⟩ | ⟨_, hq48⟩
        · obtain ⟨q49, hq49, hq48⟩ := bnd_e hq48
          obtain ⟨q55, hq55, hq48⟩ := bnd_e hq48
          have kq55 : q55.2 a = S a := by
            rcases ite_e hq55 with ⟨_, hq55⟩ | ⟨_, hq55⟩
            · obtain rfl := Option.some.inj hq55
              exact kq46
            · obtain ⟨q56, hq56, hq55⟩ := bnd_e hq55
              have kq56 : q56.2 a = S a := (w_fX4_valueOf_900 hq56 (by omega)).trans kq46
              obtain rfl := Option.some.inj hq55
              exact kq56
          obtain ⟨q58, hq58, hq48⟩ := bnd_e hq48
          obtain ⟨q59, hq59, hq48⟩ := bnd_e hq48
          obtain rfl := Option.some.inj hq48
          exact kq55
        · obtain ⟨q61, hq61, hq48⟩ := bnd_e hq48
          have kq61 : q61.2 a = S a := (w_fX4_valueOf_900 hq61 (by omega)).trans kq46
          rcases ite_e hq48 with ⟨_, hq48⟩ | ⟨_, hq48⟩
          · obtain rfl := Option.some.inj hq48
            exact kq61
          · obtain ⟨q62, hq62, hq48⟩ := bnd_e hq48
            obtain ⟨q68, hq68, hq48⟩ := bnd_e hq48
            have kq68 : q68.2 a = S a := by
              rcases ite_e hq68 with ⟨_, hq68⟩ | ⟨_, hq68⟩
              · obtain rfl := Option.some.inj hq68
                exact kq61
              · obtain ⟨q69, hq69, hq68⟩ := bnd_e hq68
                have kq69 : q69.2 a = S a := (w_fX4_valueOf_900 hq69 (by omega)).trans kq61
                obtain rfl := Option.some.inj hq68
                exact kq69
            obtain ⟨q71, hq71, hq48⟩ := bnd_e hq48
            obtain ⟨q72, hq72, hq48⟩ := bnd_e hq48
            obtain rfl := Option.some.inj hq48
            exact kq68
      obtain ⟨q76, hq76, h⟩ := bnd_e h
      have kq76 : q76 a = S a := by
        rcases ite_e hq76 with ⟨_, hq76⟩ | ⟨_, hq76⟩
        · obtain rfl := Option.some.inj hq76
          exact kq48
        · obtain ⟨S77, hS77, _, hq76⟩ := wrA_e hq76
          have kS77 : S77 a = S a := by rw [hS77]; exact ((up_row (by omega)).trans kq48)
          obtain rfl := Option.some.inj hq76
          exact kS77
      obtain rfl := Option.some.inj h
      exact kq76
    · obtain ⟨v80, _, _, h⟩ := rdA_e h
      obtain rfl := Option.some.inj h
      exact rfl
set_option maxHeartbeats 4000000 in
theorem w_fX5_after {p1 : Int} {p2 : Int} {p3 : Int} {p4 : Nat} {S : SS} {rr : Int × SS} (h : fX5_after p1 p2 p3 p4 S = some rr) {a : Nat} (ha : (a < 31 ∨ 33 < a)) : rr.2 a = S a := by
  unfold fX5_after at h
  obtain ⟨q1, hq1, h⟩ := bnd_e h
  rcases ite_e h with ⟨_, h⟩ | ⟨_, h⟩
  · obtain ⟨q2, hq2, h⟩ := bnd_e h
    rcases ite_e h with ⟨_, h⟩ | ⟨_, h⟩
    · obtain ⟨q3, hq3, h⟩ := bnd_e h
      rcases ite_e h with ⟨_, h⟩ | ⟨_, h⟩
      · obtain ⟨q4, hq4, h⟩ := bnd_e h
        obtain ⟨q5, hq5, h⟩ := bnd_e h
        rcases ite_e h with ⟨_, h⟩ | ⟨_, h⟩
        · obtain rfl := Option.some.inj h
          exact rfl
        · obtain ⟨q6, hq6, h⟩ := bnd_e h
          have kq6 : q6.2 a = S a := (w_fX5_yearAfter hq6 (by omega)).trans rfl
          rcases ite_e h with ⟨_, h⟩ | ⟨_, h⟩
          · obtain ⟨q7, hq7, h⟩ := bnd_e h
            obtain rfl := Option.some.inj h
            exact kq6
          · obtain rfl := Option.some.inj h
            exact kq6
      · obtain rfl := Option.some.inj h
        exact rfl
    · obtain rfl := Option.some.inj h
      exact rfl
  · obtain rfl := Option.some.inj h
    exact rfl
set_option maxHeartbeats 4000000 in
theorem w_fX11_streetsOpenTo_L4 {l1 : Int} {a : Nat} (ha : (a < 31 ∨ 33 < a)) : ∀ n l2 l3 S rr, fX11_streetsOpenTo_L4 l1 n l2 l3 S = some rr → rr.2 a = S a := by
  intro n
  induction n with
  | zero => intro l2 l3 S rr h; cases h
  | succ n ih =>
    intro l2 l3 S rr h
    unfold fX11_streetsOpenTo_L4 at h
    rcases ite_e h with ⟨_, h⟩ | ⟨_, h⟩
    · obtain rfl := Option.some.inj h
      exact rfl
    · obtain ⟨q1, hq1, h⟩ := bnd_e h
      obtain ⟨q2, hq2, h⟩ := bnd_e h
      have kq2 : q2.2 a = S a := (w_fX5_after hq2 (by omega)).trans rfl
      obtain ⟨q3, hq3, h⟩ := bnd_e h
      obtain ⟨x6, hx6, h⟩ := lt_e h
      exact (ih _ _ _ _ h).trans kq2
set_option maxHeartbeats 4000000 in
theorem w_fX11_streetsOpenTo {p1 : Int} {S : SS} {rr : Int × SS} (h : fX11_streetsOpenTo p1 S = some rr) {a : Nat} (ha : (a < 31 ∨ 33 < a)) : rr.2 a = S a := by
  unfold fX11_streetsOpenTo at h
  obtain ⟨q1, hq1, h⟩ := bnd_e h
  have kq1 : q1.2 a = S a := (w_fX11_streetsOpenTo_L4 (by omega) _ _ _ _ _ hq1).trans rfl
  obtain rfl := Option.some.inj h
  exact kq1
set_option maxHeartbeats 4000000 in
theorem w_fX11_goer {p1 : Int} {p2 : Int} {S : SS} {rr : Int × SS} (h : fX11_goer p1 p2 S = some rr) {a : Nat} (ha : (a < 31 ∨ 33 < a)) : rr.2 a = S a := by
  unfold fX11_goer at h
  obtain ⟨q1, hq1, h⟩ := bnd_e h
  rcases ite_e h with ⟨_, h⟩ | ⟨_, h⟩
  · rcases ite_e h with ⟨_, h⟩ | ⟨_, h⟩
    · obtain ⟨q3, hq3, h⟩ := bnd_e h
      obtain rfl := Option.some.inj h
      exact rfl
    · rcases ite_e h with ⟨_, h⟩ | ⟨_, h⟩
      · obtain ⟨q5, hq5, h⟩ := bnd_e h
        obtain rfl := Option.some.inj h
        exact rfl
      · rcases ite_e h with ⟨_, h⟩ | ⟨_, h⟩
        · obtain ⟨q7, hq7, h⟩ := bnd_e h
          have kq7 : q7.2 a = S a := (w_fX11_streetsOpenTo hq7 (by omega)).trans rfl
          obtain rfl := Option.some.inj h
          exact kq7
        · obtain rfl := Option.some.inj h
          exact rfl
  · obtain rfl := Option.some.inj h
    exact rfl
set_option maxHeartbeats 4000000 in
theorem w_fX11_why {p1 : Int} {p2 : Int} {S : SS} {rr : Int × SS} (h : fX11_why p1 p2 S = some rr) {a : Nat} (ha : (a < 31 ∨ 33 < a)) : rr.2 a = S a := by
  unfold fX11_why at h
  obtain ⟨q1, hq1, h⟩ := bnd_e h
  obtain ⟨q2, hq2, h⟩ := bnd_e h
  have kq2 : q2.2 a = S a := (w_fX5_after hq2 (by omega)).trans rfl
  rcases ite_e h with ⟨_, h⟩ | ⟨_, h⟩
  · obtain rfl := Option.some.inj h
    exact kq2
  · obtain rfl := Option.some.inj h
    exact kq2
set_option maxHeartbeats 4000000 in
theorem w_fX11_by {p1 : Int} {p2 : Int} {p3 : Int} {S : SS} {rr : Int × SS} (h : fX11_by p1 p2 p3 S = some rr) {a : Nat} (ha : (a < 31 ∨ 33 < a)) : rr.2 a = S a := by
  unfold fX11_by at h
  rcases ite_e h with ⟨_, h⟩ | ⟨_, h⟩
  · obtain rfl := Option.some.inj h
    exact rfl
  · rcases ite_e h with ⟨_, h⟩ | ⟨_, h⟩
    · obtain ⟨q1, hq1, h⟩ := bnd_e h
      obtain ⟨q2, hq2, h⟩ := bnd_e h
      have kq2 : q2.2 a = S a := (w_fX5_after hq2 (by omega)).trans rfl
      rcases ite_e h with ⟨_, h⟩ | ⟨_, h⟩
      · rcases ite_e h with ⟨_, h⟩ | ⟨_, h⟩
        · obtain rfl := Option.some.inj h
          exact kq2
        · obtain rfl := Option.some.inj h
          exact kq2
      · obtain rfl := Option.some.inj h
        exact kq2
    · obtain rfl := Option.some.inj h
      exact rfl
set_option maxHeartbeats 4000000 in
theorem w_fX0_walks {p1 : Int} {p2 : Int} {p3 : Nat} {S : SS} {rr : Int × SS} (h : fX0_walks p1 p2 p3 S = some rr) {a : Nat} (ha : (a < 31 ∨ 33 < a) ∧ a ≠ p3 + 2 ∧ a ≠ p3 + 3) : rr.2 a = S a := by
  unfold fX0_walks at h
  obtain ⟨q1, hq1, h⟩ := bnd_e h
  obtain ⟨q2, hq2, h⟩ := bnd_e h
  have kq2 : q2.2 a = S a := (w_fX5_after hq2 (by omega)).trans rfl
  rcases ite_e h with ⟨_, h⟩ | ⟨_, h⟩
  · obtain ⟨q3, hq3, h⟩ := bnd_e h
    have kq3 : q3 a = S a := (w_fX6_setGoer hq3 (by omega)).trans kq2
    obtain rfl := Option.some.inj h
    exact kq3
  · obtain rfl := Option.some.inj h
    exact kq2
theorem rg_fX2_keptAt {p1 : Int} {S : SS} {rr : Nat} (h : fX2_keptAt p1 S = some rr) : rr = 0 ∨ (61 ≤ rr ∧ rr ≤ 97) := by
  unfold fX2_keptAt at h
  obtain ⟨_, _, h⟩ := lt_e h
  rcases ite_e h with ⟨_, h⟩ | ⟨_, h⟩
  · cases h; exact Or.inl rfl
  rcases ite_e h with ⟨_, h⟩ | ⟨_, h⟩
  · cases h; exact Or.inl rfl
  obtain ⟨v, hv, gv, h⟩ := rdR_e h
  have := rgR_60 hv gv.1 gv.2
  cases h; exact Or.inr this
set_option maxHeartbeats 4000000 in
theorem w_fX2_keep {p1 : Nat} {S : SS} {rr : SS} (h : fX2_keep p1 S = some rr) {a : Nat} (ha : a ≠ 59 ∧ (a < 61 ∨ 100 < a)) : rr a = S a := by
  unfold fX2_keep at h
  obtain ⟨q1, hq1, h⟩ := bnd_e h
  have rq1 := rg_fX2_keptAt hq1
  obtain ⟨q2, hq2, h⟩ := bnd_e h
  have kq2 : q2 a = S a := by
    rcases ite_e hq2 with ⟨_, hq2⟩ | ⟨_, hq2⟩
    · obtain rfl := Option.some.inj hq2
      exact rfl
    · obtain ⟨hg, hq2⟩ := gsh_e hq2
      have hg0 := sh_n0 hg (by decide)
      obtain ⟨q4, hq4, hq2⟩ := bnd_e hq2
      have kq4 : q4 a = S a := (w_fX6_copyOf hq4 (by omega)).trans rfl
      obtain rfl := Option.some.inj hq2
      exact kq4
  rcases ite_e h with ⟨_, h⟩ | ⟨_, h⟩
  · obtain ⟨S6, hS6, h⟩ := lt_e h
    have kS6 : S6 a = S a := by rw [hS6]; exact ((up_row (by omega)).trans kq2)
    obtain rfl := Option.some.inj h
    exact kS6
  · obtain ⟨S7, hS7, h⟩ := lt_e h
    have kS7 : S7 a = S a := by rw [hS7]; exact ((up_row (by omega)).trans kq2)
    obtain rfl := Option.some.inj h
    exact kS7
set_option maxHeartbeats 4000000 in
theorem w_fX11_kept {p1 : Int} {S : SS} {rr : Int × SS} (h : fX11_kept p1 S = some rr) {a : Nat} (ha : a ≠ 59 ∧ (a < 61 ∨ 100 < a)) : rr.2 a = S a := by
  unfold fX11_kept at h
  obtain ⟨q1, hq1, h⟩ := bnd_e h
  have kq1 : q1 a = S a := (w_fX2_keep hq1 (by omega)).trans rfl
  obtain rfl := Option.some.inj h
  exact kq1
set_option maxHeartbeats 4000000 in
theorem w_fX11_go {p1 : Int} {p2 : Int} {S : SS} {rr : Int × SS} (h : fX11_go p1 p2 S = some rr) {a : Nat} (ha : (a < 9 ∨ 14 < a) ∧ (a < 31 ∨ 33 < a) ∧ a ≠ 59 ∧ (a < 61 ∨ 100 < a)) : rr.2 a = S a := by
  unfold fX11_go at h
  obtain ⟨q1, hq1, h⟩ := bnd_e h
  have kq1 : q1 a = S a := (w_fX6_copyOf hq1 (by omega)).trans rfl
  obtain ⟨q2, hq2, h⟩ := bnd_e h
  have kq2 : q2.2 a = S a := (w_fX0_walks hq2 (by omega)).trans kq1
  rcases ite_e h with ⟨_, h⟩ | ⟨_, h⟩
  · obtain ⟨q3, hq3, h⟩ := bnd_e h
    obtain ⟨q4, hq4, h⟩ := bnd_e h
    have kq4 : q4.2 a = S a := (w_fX11_kept hq4 (by omega)).trans kq2
    obtain rfl := Option.some.inj h
    exact kq4
  · obtain rfl := Option.some.inj h
    exact kq2
set_option maxHeartbeats 4000000 in
theorem w_fX0_signs {p1 : Int} {p2 : Int} {p3 : Nat} {S : SS} {rr : Int × SS} (h : fX0_signs p1 p2 p3 S = some rr) {a : Nat} (ha : a ≠ p3 + 1) : rr.2 a = S a := by
  unfold fX0_signs at h
  obtain ⟨q1, hq1, h⟩ := bnd_e h
  rcases ite_e h with ⟨_, h⟩ | ⟨_, h⟩
  · rcases ite_e h with ⟨_, h⟩ | ⟨_, h⟩
    · obtain rfl := Option.some.inj h
      exact rfl
    · rcases ite_e h with ⟨_, h⟩ | ⟨_, h⟩
      · obtain ⟨q2, hq2, h⟩ := bnd_e h
        have kq2 : q2 a = S a := (w_fX6_setSign hq2 (by omega)).trans rfl
        obtain rfl := Option.some.inj h
        exact kq2
      · obtain rfl := Option.some.inj h
        exact rfl
  · obtain rfl := Option.some.inj h
    exact rfl
set_option maxHeartbeats 4000000 in
theorem w_fX11_sign {p1 : Int} {p2 : Int} {S : SS} {rr : Int × SS} (h : fX11_sign p1 p2 S = some rr) {a : Nat} (ha : a ≠ 8 ∧ (a < 11 ∨ 14 < a) ∧ a ≠ 59 ∧ (a < 61 ∨ 100 < a)) : rr.2 a = S a := by
  unfold fX11_sign at h
  obtain ⟨q1, hq1, h⟩ := bnd_e h
  have kq1 : q1 a = S a := (w_fX6_copyOf hq1 (by omega)).trans rfl
  obtain ⟨q2, hq2, h⟩ := bnd_e h
  have kq2 : q2.2 a = S a := (w_fX0_signs hq2 (by omega)).trans kq1
  rcases ite_e h with ⟨_, h⟩ | ⟨_, h⟩
  · obtain ⟨q3, hq3, h⟩ := bnd_e h
    obtain ⟨q4, hq4, h⟩ := bnd_e h
    have kq4 : q4.2 a = S a := (w_fX11_kept hq4 (by omega)).trans kq2
    obtain rfl := Option.some.inj h
    exact kq4
  · obtain rfl := Option.some.inj h
    exact kq2
set_option maxHeartbeats 4000000 in
theorem w_fX0_plants {p1 : Int} {p2 : Nat} {S : SS} {rr : Int × SS} (h : fX0_plants p1 p2 S = some rr) {a : Nat} (ha : a ≠ p2) : rr.2 a = S a := by
  unfold fX0_plants at h
  rcases ite_e h with ⟨_, h⟩ | ⟨_, h⟩
  · obtain rfl := Option.some.inj h
    exact rfl
  · rcases ite_e h with ⟨_, h⟩ | ⟨_, h⟩
    · obtain ⟨S1, hS1, h⟩ := lt_e h
      have kS1 : S1 a = S a := by rw [hS1]; exact ((up_row (by omega)).trans rfl)
      obtain rfl := Option.some.inj h
      exact kS1
    · obtain rfl := Option.some.inj h
      exact rfl
set_option maxHeartbeats 4000000 in
theorem w_fX11_bollards {p1 : Int} {S : SS} {rr : Int × SS} (h : fX11_bollards p1 S = some rr) {a : Nat} (ha : a ≠ 7 ∧ (a < 11 ∨ 14 < a) ∧ a ≠ 59 ∧ (a < 61 ∨ 100 < a)) : rr.2 a = S a := by
  unfold fX11_bollards at h
  obtain ⟨q1, hq1, h⟩ := bnd_e h
  have kq1 : q1 a = S a := (w_fX6_copyOf hq1 (by omega)).trans rfl
  obtain ⟨q2, hq2, h⟩ := bnd_e h
  have kq2 : q2.2 a = S a := (w_fX0_plants hq2 (by omega)).trans kq1
  rcases ite_e h with ⟨_, h⟩ | ⟨_, h⟩
  · obtain ⟨q3, hq3, h⟩ := bnd_e h
    have kq3 : q3.2 a = S a := (w_fX11_kept hq3 (by omega)).trans kq2
    obtain rfl := Option.some.inj h
    exact kq3
  · obtain rfl := Option.some.inj h
    exact kq2
set_option maxHeartbeats 4000000 in
theorem w_fX0_moves {p1 : Int} {p2 : Int} {p3 : Int} {p4 : Nat} {S : SS} {rr : Int × SS} (h : fX0_moves p1 p2 p3 p4 S = some rr) {a : Nat} (ha : a ≠ p4 + 2 ∧ a ≠ p4 + 3) : rr.2 a = S a := by
  unfold fX0_moves at h
  obtain ⟨q1, hq1, h⟩ := bnd_e h
  rcases ite_e h with ⟨_, h⟩ | ⟨_, h⟩
  · obtain ⟨q2, hq2, h⟩ := bnd_e h
    rcases ite_e h with ⟨_, h⟩ | ⟨_, h⟩
    · obtain ⟨q3, hq3, h⟩ := bnd_e h
      rcases ite_e h with ⟨_, h⟩ | ⟨_, h⟩
      · obtain ⟨q4, hq4, h⟩ := bnd_e h
        have kq4 : q4 a = S a := (w_fX6_setGoer hq4 (by omega)).trans rfl
        obtain rfl := Option.some.inj h
        exact kq4
      · obtain rfl := Option.some.inj h
        exact rfl
    · obtain rfl := Option.some.inj h
      exact rfl
  · obtain rfl := Option.some.inj h
    exact rfl
set_option maxHeartbeats 4000000 in
theorem w_fX11_put {p1 : Int} {p2 : Int} {p3 : Int} {S : SS} {rr : Int × SS} (h : fX11_put p1 p2 p3 S = some rr) {a : Nat} (ha : (a < 9 ∨ 14 < a) ∧ a ≠ 59 ∧ (a < 61 ∨ 100 < a)) : rr.2 a = S a := by
  unfold fX11_put at h
  obtain ⟨q1, hq1, h⟩ := bnd_e h
  have kq1 : q1 a = S a := (w_fX6_copyOf hq1 (by omega)).trans rfl
  obtain ⟨q2, hq2, h⟩ := bnd_e h
  have kq2 : q2.2 a = S a := (w_fX0_moves hq2 (by omega)).trans kq1
  rcases ite_e h with ⟨_, h⟩ | ⟨_, h⟩
  · obtain ⟨q3, hq3, h⟩ := bnd_e h
    obtain ⟨q4, hq4, h⟩ := bnd_e h
    obtain ⟨q5, hq5, h⟩ := bnd_e h
    have kq5 : q5.2 a = S a := (w_fX11_kept hq5 (by omega)).trans kq2
    obtain rfl := Option.some.inj h
    exact kq5
  · obtain rfl := Option.some.inj h
    exact kq2
set_option maxHeartbeats 4000000 in
theorem w_fX2_bringBack {p1 : Int} {p2 : Nat} {S : SS} {rr : SS} (h : fX2_bringBack p1 p2 S = some rr) {a : Nat} (ha : a ≠ 59 ∧ a ≠ p2 ∧ a ≠ p2 + 1 ∧ a ≠ p2 + 2 ∧ a ≠ p2 + 3) : rr a = S a := by
  unfold fX2_bringBack at h
  obtain ⟨q1, hq1, h⟩ := bnd_e h
  have rq1 := rg_fX2_keptAt hq1
  rcases ite_e h with ⟨_, h⟩ | ⟨_, h⟩
  · obtain rfl := Option.some.inj h
    exact rfl
  · obtain ⟨hg, h⟩ := gsh_e h
    have hg0 := sh_n0 hg (by decide)
    obtain ⟨q3, hq3, h⟩ := bnd_e h
    have kq3 : q3 a = S a := (w_fX6_copyOf hq3 (by omega)).trans rfl
    obtain ⟨S4, hS4, h⟩ := lt_e h
    have kS4 : S4 a = S a := by rw [hS4]; exact ((up_row (by omega)).trans kq3)
    obtain rfl := Option.some.inj h
    exact kS4
set_option maxHeartbeats 4000000 in
theorem w_fX11_undo {p1 : Int} {S : SS} {rr : Int × SS} (h : fX11_undo p1 S = some rr) {a : Nat} (ha : (a < 7 ∨ 10 < a) ∧ a ≠ 59) : rr.2 a = S a := by
  unfold fX11_undo at h
  rcases ite_e h with ⟨_, h⟩ | ⟨_, h⟩
  · obtain rfl := Option.some.inj h
    exact rfl
  · rcases ite_e h with ⟨_, h⟩ | ⟨_, h⟩
    · obtain ⟨q1, hq1, h⟩ := bnd_e h
      have kq1 : q1 a = S a := (w_fX2_bringBack hq1 (by omega)).trans rfl
      obtain rfl := Option.some.inj h
      exact kq1
    · obtain rfl := Option.some.inj h
      exact rfl
theorem rg_fX11_trayAt {p1 : Int} {S : SS} {rr : Nat} (h : fX11_trayAt p1 S = some rr) : rr = 0 ∨ (104 ≤ rr ∧ rr ≤ 110) := by
  unfold fX11_trayAt at h
  rcases ite_e h with ⟨_, h⟩ | ⟨_, h⟩
  · cases h; exact Or.inl rfl
  rcases ite_e h with ⟨_, h⟩ | ⟨_, h⟩
  · cases h; exact Or.inl rfl
  obtain ⟨v, hv, gv, h⟩ := rdR_e h
  have := rgR_101 hv gv.1 gv.2
  cases h; exact Or.inr this
set_option maxHeartbeats 4000000 in
theorem w_fX0_told {p1 : Int} {p3 : Nat} {S : SS} {rr : Int × SS} (h : fX0_told p1 p3 S = some rr) {a : Nat} (ha : (a < 31 ∨ 33 < a) ∧ a ≠ p3 ∧ a ≠ p3 + 1 ∧ a ≠ p3 + 2 ∧ a ≠ p3 + 3) : rr.2 a = S a := by
  unfold fX0_told at h
  rcases ite_e h with ⟨_, h⟩ | ⟨_, h⟩
  · obtain rfl := Option.some.inj h
    exact rfl
  · rcases ite_e h with ⟨_, h⟩ | ⟨_, h⟩
    · obtain ⟨x1, hx1, h⟩ := lt_e h
      rcases ite_e h with ⟨_, h⟩ | ⟨_, h⟩
      · rcases ite_e h with ⟨_, h⟩ | ⟨_, h⟩
        · rcases ite_e h with ⟨_, h⟩ | ⟨_, h⟩
          · obtain ⟨q2, hq2, h⟩ := bnd_e h
            have kq2 : q2.2 a = S a := (w_fX0_moves hq2 (by omega)).trans rfl
            obtain rfl := Option.some.inj h
            exact kq2
          · obtain ⟨q3, hq3, h⟩ := bnd_e h
            have kq3 : q3.2 a = S a := (w_fX0_plants hq3 (by omega)).trans rfl
            obtain rfl := Option.some.inj h
            exact kq3
        · obtain ⟨q5, hq5, h⟩ := bnd_e h
          have kq5 : q5.2 a = S a := (w_fX0_signs hq5 (by omega)).trans rfl
          obtain rfl := Option.some.inj h
          exact kq5
      · obtain ⟨q7, hq7, h⟩ := bnd_e h
        have kq7 : q7.2 a = S a := (w_fX0_walks hq7 (by omega)).trans rfl
        obtain rfl := Option.some.inj h
        exact kq7
    · obtain rfl := Option.some.inj h
      exact rfl
set_option maxHeartbeats 4000000 in
theorem w_fX0_allOf_L7 {l1 : Nat} {l2 : Nat} {a : Nat} (ha : (a < 31 ∨ 34 < a) ∧ a ≠ l2 ∧ a ≠ l2 + 1 ∧ a ≠ l2 + 2 ∧ a ≠ l2 + 3) : ∀ n l3 S rr, fX0_allOf_L7 l1 l2 n l3 S = some rr → rr.2.2 a = S a := by
  intro n
  induction n with
  | zero => intro l3 S rr h; cases h
  | succ n ih =>
    intro l3 S rr h
    unfold fX0_allOf_L7 at h
    rcases ite_e h with ⟨_, h⟩ | ⟨_, h⟩
    · obtain rfl := Option.some.inj h
      exact rfl
    · obtain ⟨q1, hq1, h⟩ := bnd_e h
      obtain ⟨q2, hq2, h⟩ := bnd_e h
      have kq2 : q2.2 a = S a := (w_fX0_told hq2 (by omega)).trans rfl
      obtain ⟨S3, hS3, h⟩ := lt_e h
      have kS3 : S3 a = S a := by rw [hS3]; exact ((up_row (by omega)).trans kq2)
      rcases ite_e h with ⟨_, h⟩ | ⟨_, h⟩
      · obtain ⟨x4, hx4, h⟩ := lt_e h
        exact (ih _ _ _ h).trans kS3
      · obtain rfl := Option.some.inj h
        exact kS3
set_option maxHeartbeats 4000000 in
theorem w_fX0_allOf {p1 : Nat} {p2 : Nat} {S : SS} {rr : Int × SS} (h : fX0_allOf p1 p2 S = some rr) {a : Nat} (ha : (a < 31 ∨ 34 < a) ∧ a ≠ p2 ∧ a ≠ p2 + 1 ∧ a ≠ p2 + 2 ∧ a ≠ p2 + 3) : rr.2 a = S a := by
  unfold fX0_allOf at h
  obtain ⟨S1, hS1, h⟩ := lt_e h
  have kS1 : S1 a = S a := by rw [hS1]; exact ((up_row (by omega)).trans rfl)
  obtain ⟨q2, hq2, h⟩ := bnd_e h
  have kq2 : q2.2.2 a = S a := (w_fX0_allOf_L7 (by omega) _ _ _ _ hq2).trans kS1
  rcases ite_e h with ⟨_, h⟩ | ⟨_, h⟩
  · obtain rfl := Option.some.inj h
    exact kq2
  · obtain ⟨x4, hx4, h⟩ := lt_e h
    obtain rfl := Option.some.inj h
    exact kq2
set_option maxHeartbeats 4000000 in
theorem w_fX11_judge {p1 : Int} {p2 : Int} {S : SS} {rr : Int × SS} (h : fX11_judge p1 p2 S = some rr) {a : Nat} (ha : (a < 15 ∨ 18 < a) ∧ (a < 31 ∨ 34 < a)) : rr.2 a = S a := by
  unfold fX11_judge at h
  obtain ⟨q1, hq1, h⟩ := bnd_e h
  have rq1 := rg_fX11_trayAt hq1
  rcases ite_e h with ⟨_, h⟩ | ⟨_, h⟩
  · obtain rfl := Option.some.inj h
    exact rfl
  · rcases ite_e h with ⟨_, h⟩ | ⟨_, h⟩
    · obtain rfl := Option.some.inj h
      exact rfl
    · rcases ite_e h with ⟨_, h⟩ | ⟨_, h⟩
      · obtain ⟨hg, h⟩ := gsh_e h
        have hg0 := sh_n0 hg (by decide)
        obtain ⟨q3, hq3, h⟩ := bnd_e h
        rcases ite_e h with ⟨_, h⟩ | ⟨_, h⟩
        · obtain rfl := Option.some.inj h
          exact rfl
        · obtain ⟨q4, hq4, h⟩ := bnd_e h
          have kq4 : q4 a = S a := (w_fX6_copyOf hq4 (by omega)).trans rfl
          obtain ⟨q5, hq5, h⟩ := bnd_e h
          have kq5 : q5.2 a = S a := (w_fX0_allOf hq5 (by omega)).trans kq4
          rcases ite_e h with ⟨_, h⟩ | ⟨_, h⟩
          · rcases ite_e h with ⟨_, h⟩ | ⟨_, h⟩
            · obtain rfl := Option.some.inj h
              exact kq5
            · obtain rfl := Option.some.inj h
              exact kq5
          · rcases ite_e h with ⟨_, h⟩ | ⟨_, h⟩
            · obtain rfl := Option.some.inj h
              exact kq5
            · rcases ite_e h with ⟨_, h⟩ | ⟨_, h⟩
              · obtain ⟨q10, hq10, h⟩ := bnd_e h
                obtain rfl := Option.some.inj h
                exact kq5
              · obtain ⟨q11, hq11, h⟩ := bnd_e h
                obtain rfl := Option.some.inj h
                exact kq5
      · obtain rfl := Option.some.inj h
        exact rfl
set_option maxHeartbeats 4000000 in
theorem w_fX11_perform {p1 : Int} {S : SS} {rr : Int × SS} (h : fX11_perform p1 S = some rr) {a : Nat} (ha : (a < 7 ∨ 14 < a) ∧ (a < 31 ∨ 34 < a) ∧ a ≠ 59 ∧ (a < 61 ∨ 100 < a)) : rr.2 a = S a := by
  unfold fX11_perform at h
  obtain ⟨q1, hq1, h⟩ := bnd_e h
  have rq1 := rg_fX11_trayAt hq1
  rcases ite_e h with ⟨_, h⟩ | ⟨_, h⟩
  · obtain rfl := Option.some.inj h
    exact rfl
  · obtain ⟨hg, h⟩ := gsh_e h
    have hg0 := sh_n0 hg (by decide)
    obtain ⟨q3, hq3, h⟩ := bnd_e h
    rcases ite_e h with ⟨_, h⟩ | ⟨_, h⟩
    · obtain rfl := Option.some.inj h
      exact rfl
    · obtain ⟨q4, hq4, h⟩ := bnd_e h
      have kq4 : q4 a = S a := (w_fX6_copyOf hq4 (by omega)).trans rfl
      obtain ⟨q5, hq5, h⟩ := bnd_e h
      have kq5 : q5.2 a = S a := (w_fX0_allOf hq5 (by omega)).trans kq4
      rcases ite_e h with ⟨_, h⟩ | ⟨_, h⟩
      · obtain rfl := Option.some.inj h
        exact kq5
      · obtain ⟨q6, hq6, h⟩ := bnd_e h
        have kq6 : q6.2 a = S a := (w_fX11_kept hq6 (by omega)).trans kq5
        obtain rfl := Option.some.inj h
        exact kq6
set_option maxHeartbeats 4000000 in
theorem w_fX0_draw {p1 : Int} {S : SS} {rr : Int × SS} (h : fX0_draw p1 S = some rr) {a : Nat} (ha : a ≠ 34) : rr.2 a = S a := by
  unfold fX0_draw at h
  obtain ⟨S1, hS1, h⟩ := lt_e h
  have kS1 : S1 a = S a := by rw [hS1]; exact ((up_row (by omega)).trans rfl)
  rcases ite_e h with ⟨_, h⟩ | ⟨_, h⟩
  · obtain rfl := Option.some.inj h
    exact kS1
  · obtain ⟨_, h⟩ := nz_e h
    obtain rfl := Option.some.inj h
    exact kS1
set_option maxHeartbeats 4000000 in
theorem w_fX0_drawnDeed {p1 : Nat} {S : SS} {rr : Int × SS} (h : fX0_drawnDeed p1 S = some rr) {a : Nat} (ha : (a < 31 ∨ 34 < a) ∧ a ≠ p1 ∧ a ≠ p1 + 1 ∧ a ≠ p1 + 2 ∧ a ≠ p1 + 3) : rr.2 a = S a := by
  unfold fX0_drawnDeed at h
  obtain ⟨q1, hq1, h⟩ := bnd_e h
  have kq1 : q1.2 a = S a := (w_fX0_draw hq1 (by omega)).trans rfl
  rcases ite_e h with ⟨_, h⟩ | ⟨_, h⟩
  · rcases ite_e h with ⟨_, h⟩ | ⟨_, h⟩
    · obtain ⟨q2, hq2, h⟩ := bnd_e h
      have kq2 : q2.2 a = S a := (w_fX0_draw hq2 (by omega)).trans kq1
      obtain ⟨q3, hq3, h⟩ := bnd_e h
      have kq3 : q3.2 a = S a := (w_fX0_draw hq3 (by omega)).trans kq2
      obtain ⟨q4, hq4, h⟩ := bnd_e h
      have kq4 : q4.2 a = S a := (w_fX0_signs hq4 (by omega)).trans kq3
      obtain rfl := Option.some.inj h
      exact kq4
    · obtain ⟨q5, hq5, h⟩ := bnd_e h
      have kq5 : q5.2 a = S a := (w_fX0_draw hq5 (by omega)).trans kq1
      obtain ⟨q6, hq6, h⟩ := bnd_e h
      have kq6 : q6.2 a = S a := (w_fX0_plants hq6 (by omega)).trans kq5
      obtain rfl := Option.some.inj h
      exact kq6
  · obtain ⟨q8, hq8, h⟩ := bnd_e h
    have kq8 : q8.2 a = S a := (w_fX0_draw hq8 (by omega)).trans kq1
    obtain ⟨q9, hq9, h⟩ := bnd_e h
    have kq9 : q9.2 a = S a := (w_fX0_draw hq9 (by omega)).trans kq8
    obtain ⟨q10, hq10, h⟩ := bnd_e h
    have kq10 : q10.2 a = S a := (w_fX0_walks hq10 (by omega)).trans kq9
    obtain rfl := Option.some.inj h
    exact kq10
set_option maxHeartbeats 4000000 in
theorem w_fX0_drawn_L11 {l2 : Int} {l3 : Nat} {a : Nat} (ha : (a < 31 ∨ 34 < a) ∧ a ≠ l3 ∧ a ≠ l3 + 1 ∧ a ≠ l3 + 2 ∧ a ≠ l3 + 3) : ∀ n l4 l5 S rr, fX0_drawn_L11 l2 l3 n l4 l5 S = some rr → rr.2 a = S a := by
  intro n
  induction n with
  | zero => intro l4 l5 S rr h; cases h
  | succ n ih =>
    intro l4 l5 S rr h
    unfold fX0_drawn_L11 at h
    rcases ite_e h with ⟨_, h⟩ | ⟨_, h⟩
    · obtain rfl := Option.some.inj h
      exact rfl
    · obtain ⟨q1, hq1, h⟩ := bnd_e h
      have kq1 : q1.2 a = S a := (w_fX0_drawnDeed hq1 (by omega)).trans rfl
      obtain ⟨q2, hq2, h⟩ := bnd_e h
      obtain ⟨x5, hx5, h⟩ := lt_e h
      exact (ih _ _ _ _ h).trans kq1
set_option maxHeartbeats 4000000 in
theorem w_fX0_drawn {p1 : Int} {p2 : Int} {p3 : Nat} {S : SS} {rr : Int × SS} (h : fX0_drawn p1 p2 p3 S = some rr) {a : Nat} (ha : (a < 31 ∨ 34 < a) ∧ a ≠ p3 ∧ a ≠ p3 + 1 ∧ a ≠ p3 + 2 ∧ a ≠ p3 + 3) : rr.2 a = S a := by
  unfold fX0_drawn at h
  obtain ⟨S1, hS1, h⟩ := lt_e h
  have kS1 : S1 a = S a := by rw [hS1]; exact ((up_row (by omega)).trans rfl)
  obtain ⟨q2, hq2, h⟩ := bnd_e h
  have kq2 : q2.2 a = S a := (w_fX0_drawn_L11 (by omega) _ _ _ _ _ hq2).trans kS1
  obtain rfl := Option.some.inj h
  exact kq2
set_option maxHeartbeats 4000000 in
theorem w_fX11_day {p1 : Int} {p2 : Int} {S : SS} {rr : Int × SS} (h : fX11_day p1 p2 S = some rr) {a : Nat} (ha : (a < 7 ∨ 14 < a) ∧ (a < 31 ∨ 34 < a) ∧ a ≠ 59 ∧ (a < 61 ∨ 100 < a)) : rr.2 a = S a := by
  unfold fX11_day at h
  rcases ite_e h with ⟨_, h⟩ | ⟨_, h⟩
  · obtain rfl := Option.some.inj h
    exact rfl
  · rcases ite_e h with ⟨_, h⟩ | ⟨_, h⟩
    · obtain ⟨q1, hq1, h⟩ := bnd_e h
      have kq1 : q1 a = S a := (w_fX6_copyOf hq1 (by omega)).trans rfl
      obtain ⟨q2, hq2, h⟩ := bnd_e h
      have kq2 : q2.2 a = S a := (w_fX0_drawn hq2 (by omega)).trans kq1
      rcases ite_e h with ⟨_, h⟩ | ⟨_, h⟩
      · obtain rfl := Option.some.inj h
        exact kq2
      · obtain ⟨q3, hq3, h⟩ := bnd_e h
        have kq3 : q3.2 a = S a := (w_fX11_kept hq3 (by omega)).trans kq2
        obtain rfl := Option.some.inj h
        exact kq3
    · obtain rfl := Option.some.inj h
      exact rfl
set_option maxHeartbeats 4000000 in
theorem w_fJ7_fill_53178_960_L5 {l0 : Nat} {l1 : Int} {l3 : Int} {a : Nat} (ha : a ≠ l0) : ∀ n l2 S rr, fJ7_fill_53178_960_L5 l0 l1 l3 n l2 S = some rr → rr a = S a := by
  intro n
  induction n with
  | zero => intro l2 S rr h; cases h
  | succ n ih =>
    intro l2 S rr h
    unfold fJ7_fill_53178_960_L5 at h
    rcases ite_e h with ⟨_, h⟩ | ⟨_, h⟩
    · obtain rfl := Option.some.inj h
      exact rfl
    · obtain ⟨S1, hS1, _, h⟩ := wrA_e h
      have kS1 : S1 a = S a := by rw [hS1]; exact ((up_row (by omega)).trans rfl)
      obtain ⟨x3, hx3, h⟩ := lt_e h
      exact (ih _ _ _ h).trans kS1
set_option maxHeartbeats 4000000 in
theorem w_fJ7_fill_53178_960 {p0 : Nat} {p1 : Int} {S : SS} {rr : SS} (h : fJ7_fill_53178_960 p0 p1 S = some rr) {a : Nat} (ha : a ≠ p0) : rr a = S a := by
  unfold fJ7_fill_53178_960 at h
  obtain ⟨q1, hq1, h⟩ := bnd_e h
  have kq1 : q1 a = S a := (w_fJ7_fill_53178_960_L5 (by omega) _ _ _ _ hq1).trans rfl
  obtain rfl := Option.some.inj h
  exact kq1
set_option maxHeartbeats 4000000 in
theorem w_fX5_settle {p1 : Int} {S : SS} {rr : SS} (h : fX5_settle p1 S = some rr) {a : Nat} (ha : a ≠ 30 ∧ a ≠ 33) : rr a = S a := by
  unfold fX5_settle at h
  rcases ite_e h with ⟨_, h⟩ | ⟨_, h⟩
  · obtain rfl := Option.some.inj h
    exact rfl
  · obtain ⟨q1, hq1, h⟩ := bnd_e h
    have kq1 : q1 a = S a := (w_fJ7_fill_53178_960 hq1 (by omega)).trans rfl
    obtain ⟨S2, hS2, h⟩ := lt_e h
    have kS2 : S2 a = S a := by rw [hS2]; exact ((up_row (by omega)).trans kq1)
    obtain rfl := Option.some.inj h
    exact kS2
set_option maxHeartbeats 4000000 in
theorem w_fX10_begin_L13 {l0 : Nat} {l1 : Nat} {a : Nat} (ha : a ≠ l0 + 5) : ∀ n l2 S rr, fX10_begin_L13 l0 l1 n l2 S = some rr → rr a = S a := by
  intro n
  induction n with
  | zero => intro l2 S rr h; cases h
  | succ n ih =>
    intro l2 S rr h
    unfold fX10_begin_L13 at h
    rcases ite_e h with ⟨_, h⟩ | ⟨_, h⟩
    · obtain rfl := Option.some.inj h
      exact rfl
    · obtain ⟨q1, hq1, h⟩ := bnd_e h
      obtain ⟨S2, hS2, _, h⟩ := wrA_e h
      have kS2 : S2 a = S a := by rw [hS2]; exact ((up_row (by omega)).trans rfl)
      obtain ⟨x4, hx4, h⟩ := lt_e h
      exact (ih _ _ _ h).trans kS2
set_option maxHeartbeats 4000000 in
theorem w_fX10_begin {t : Nat} {p1 : Nat} {S : SS} {rr : SS} (h : fX10_begin t p1 S = some rr) {a : Nat} (ha : a ≠ 30 ∧ a ≠ 33 ∧ a ≠ t + 5) : rr a = S a := by
  unfold fX10_begin at h
  obtain ⟨q1, hq1, h⟩ := bnd_e h
  have kq1 : q1 a = S a := (w_fX5_settle hq1 (by omega)).trans rfl
  obtain ⟨q2, hq2, h⟩ := bnd_e h
  have kq2 : q2 a = S a := (w_fX10_begin_L13 (by omega) _ _ _ _ hq2).trans kq1
  obtain rfl := Option.some.inj h
  exact kq2
set_option maxHeartbeats 4000000 in
theorem w_fJ7_fill_53178_120_L5 {l0 : Nat} {l1 : Int} {l3 : Int} {a : Nat} (ha : a ≠ l0) : ∀ n l2 S rr, fJ7_fill_53178_120_L5 l0 l1 l3 n l2 S = some rr → rr a = S a := by
  intro n
  induction n with
  | zero => intro l2 S rr h; cases h
  | succ n ih =>
    intro l2 S rr h
    unfold fJ7_fill_53178_120_L5 at h
    rcases ite_e h with ⟨_, h⟩ | ⟨_, h⟩
    · obtain rfl := Option.some.inj h
      exact rfl
    · obtain ⟨S1, hS1, _, h⟩ := wrA_e h
      have kS1 : S1 a = S a := by rw [hS1]; exact ((up_row (by omega)).trans rfl)
      obtain ⟨x3, hx3, h⟩ := lt_e h
      exact (ih _ _ _ h).trans kS1
set_option maxHeartbeats 4000000 in
theorem w_fJ7_fill_53178_120 {p0 : Nat} {p1 : Int} {S : SS} {rr : SS} (h : fJ7_fill_53178_120 p0 p1 S = some rr) {a : Nat} (ha : a ≠ p0) : rr a = S a := by
  unfold fJ7_fill_53178_120 at h
  obtain ⟨q1, hq1, h⟩ := bnd_e h
  have kq1 : q1 a = S a := (w_fJ7_fill_53178_120_L5 (by omega) _ _ _ _ hq1).trans rfl
  obtain rfl := Option.some.inj h
  exact kq1
set_option maxHeartbeats 4000000 in
theorem w_fX10_comeTo {t : Nat} {p1 : Int} {p2 : Int} {p3 : Int} {S : SS} {rr : SS} (h : fX10_comeTo t p1 p2 p3 S = some rr) {a : Nat} (ha : a ≠ t ∧ a ≠ t + 1 ∧ a ≠ t + 2 ∧ a ≠ t + 3 ∧ a ≠ t + 4) : rr a = S a := by
  unfold fX10_comeTo at h
  obtain ⟨q1, hq1, h⟩ := bnd_e h
  rcases ite_e h with ⟨_, h⟩ | ⟨_, h⟩
  · obtain ⟨q2, hq2, h⟩ := bnd_e h
    rcases ite_e h with ⟨_, h⟩ | ⟨_, h⟩
    · obtain ⟨v3, _, _, h⟩ := rdA_e h
      obtain ⟨q5, hq5, h⟩ := bnd_e h
      have kq5 : q5 a = S a := by
        rcases ite_e hq5 with ⟨_, hq5⟩ | ⟨_, hq5⟩
        · rcases ite_e hq5 with ⟨_, hq5⟩ | ⟨_, hq5⟩
          · obtain ⟨v6, _, _, hq5⟩ := rdA_e hq5
            obtain ⟨S8, hS8, hq5⟩ := lt_e hq5
            have kS8 : S8 a = S a := by rw [hS8]; exact ((up_row (by omega)).trans rfl)
            obtain rfl := Option.some.inj hq5
            exact kS8
          · obtain rfl := Option.some.inj hq5
            exact rfl
        · obtain rfl := Option.some.inj hq5
          exact rfl
      obtain ⟨v11, _, _, h⟩ := rdA_e h
      rcases ite_e h with ⟨_, h⟩ | ⟨_, h⟩
      · rcases ite_e h with ⟨_, h⟩ | ⟨_, h⟩
        · obtain rfl := Option.some.inj h
          exact kq5
        · obtain ⟨v13, _, _, h⟩ := rdA_e h
          obtain ⟨S15, hS15, _, h⟩ := wrA_e h
          have kS15 : S15 a = S a := by rw [hS15]; exact ((up_row (by omega)).trans kq5)
          obtain ⟨S17, hS17, _, h⟩ := wrA_e h
          have kS17 : S17 a = S a := by rw [hS17]; exact ((up_row (by omega)).trans kS15)
          obtain ⟨S19, hS19, _, h⟩ := wrA_e h
          have kS19 : S19 a = S a := by rw [hS19]; exact ((up_row (by omega)).trans kS17)
          obtain ⟨S21, hS21, _, h⟩ := wrA_e h
          have kS21 : S21 a = S a := by rw [hS21]; exact ((up_row (by omega)).trans kS19)
          obtain ⟨S23, hS23, h⟩ := lt_e h
          have kS23 : S23 a = S a := by rw [hS23]; exact ((up_row (by omega)).trans kS21)
          obtain rfl := Option.some.inj h
          exact kS23
      · obtain rfl := Option.some.inj h
        exact kq5
    · obtain rfl := Option.some.inj h
      exact rfl
  · obtain rfl := Option.some.inj h
    exact rfl
set_option maxHeartbeats 4000000 in
theorem w_fX10_spread_L89 {l0 : Nat} {l1 : Int} {l3 : Nat} {l4 : Int} {l5 : Int} {l6 : Int} {a : Nat} (ha : (a < 31 ∨ 33 < a) ∧ a ≠ l0 ∧ a ≠ l0 + 1 ∧ a ≠ l0 + 2 ∧ a ≠ l0 + 3 ∧ a ≠ l0 + 4) : ∀ n l7 S rr, fX10_spread_L89 l0 l1 l3 l4 l5 l6 n l7 S = some rr → rr a = S a := by
  intro n
  induction n with
  | zero => intro l7 S rr h; cases h
  | succ n ih =>
    intro l7 S rr h
    unfold fX10_spread_L89 at h
    rcases ite_e h with ⟨_, h⟩ | ⟨_, h⟩
    · obtain rfl := Option.some.inj h
      exact rfl
    · obtain ⟨q1, hq1, h⟩ := bnd_e h
      have kq1 : q1 a = S a := by
        rcases ite_e hq1 with ⟨_, hq1⟩ | ⟨_, hq1⟩
        · obtain ⟨q2, hq2, hq1⟩ := bnd_e hq1
          have kq2 : q2.2 a = S a := (w_fX5_after hq2 (by omega)).trans rfl
          obtain ⟨q3, hq3, hq1⟩ := bnd_e hq1
          have kq3 : q3 a = S a := (w_fX10_comeTo hq3 (by omega)).trans kq2
          obtain rfl := Option.some.inj hq1
          exact kq3
        · obtain rfl := Option.some.inj hq1
          exact rfl
      obtain ⟨x5, hx5, h⟩ := lt_e h
      exact (ih _ _ _ h).trans kq1
set_option maxHeartbeats 4000000 in
theorem w_fX10_spread_L53 {l0 : Nat} {l1 : Int} {l3 : Nat} {a : Nat} (ha : (a < 31 ∨ 33 < a) ∧ a ≠ l0 ∧ a ≠ l0 + 1 ∧ a ≠ l0 + 2 ∧ a ≠ l0 + 3 ∧ a ≠ l0 + 4) : ∀ n l4 S rr, fX10_spread_L53 l0 l1 l3 n l4 S = some rr → rr a = S a := by
  intro n
  induction n with
  | zero => intro l4 S rr h; cases h
  | succ n ih =>
    intro l4 S rr h
    unfold fX10_spread_L53 at h
    rcases ite_e h with ⟨_, h⟩ | ⟨_, h⟩
    · obtain rfl := Option.some.inj h
      exact rfl
    · rcases ite_e h with ⟨_, h⟩ | ⟨_, h⟩
      · obtain rfl := Option.some.inj h
        exact rfl
      · obtain ⟨v1, _, _, h⟩ := rdA_e h
        obtain ⟨q3, hq3, h⟩ := bnd_e h
        obtain ⟨q4, hq4, h⟩ := bnd_e h
        have kq4 : q4 a = S a := (w_fX10_spread_L89 (by omega) _ _ _ _ hq4).trans rfl
        obtain ⟨x6, hx6, h⟩ := lt_e h
        exact (ih _ _ _ h).trans kq4
set_option maxHeartbeats 4000000 in
theorem w_fX10_spread {t : Nat} {p1 : Int} {p2 : Int} {p3 : Nat} {S : SS} {rr : SS} (h : fX10_spread t p1 p2 p3 S = some rr) {a : Nat} (ha : (a < 30 ∨ 33 < a) ∧ a ≠ t ∧ a ≠ t + 1 ∧ a ≠ t + 2 ∧ a ≠ t + 3 ∧ a ≠ t + 4 ∧ a ≠ t + 5) : rr a = S a := by
  unfold fX10_spread at h
  obtain ⟨q1, hq1, h⟩ := bnd_e h
  have kq1 : q1 a = S a := (w_fX10_begin hq1 (by omega)).trans rfl
  obtain ⟨q2, hq2, h⟩ := bnd_e h
  have kq2 : q2 a = S a := (w_fJ7_fill_53178_120 hq2 (by omega)).trans kq1
  obtain ⟨S3, hS3, h⟩ := lt_e h
  have kS3 : S3 a = S a := by rw [hS3]; exact ((up_row (by omega)).trans kq2)
  obtain ⟨S4, hS4, h⟩ := lt_e h
  have kS4 : S4 a = S a := by rw [hS4]; exact ((up_row (by omega)).trans kS3)
  obtain ⟨q5, hq5, h⟩ := bnd_e h
  rcases ite_e h with ⟨_, h⟩ | ⟨_, h⟩
  · obtain ⟨S6, hS6, _, h⟩ := wrA_e h
    have kS6 : S6 a = S a := by rw [hS6]; exact ((up_row (by omega)).trans kS4)
    obtain ⟨S8, hS8, _, h⟩ := wrA_e h
    have kS8 : S8 a = S a := by rw [hS8]; exact ((up_row (by omega)).trans kS6)
    obtain ⟨S10, hS10, h⟩ := lt_e h
    have kS10 : S10 a = S a := by rw [hS10]; exact ((up_row (by omega)).trans kS8)
    obtain ⟨q11, hq11, h⟩ := bnd_e h
    have kq11 : q11 a = S a := (w_fX10_spread_L53 (by omega) _ _ _ _ hq11).trans kS10
    obtain rfl := Option.some.inj h
    exact kq11
  · obtain rfl := Option.some.inj h
    exact kS4
set_option maxHeartbeats 4000000 in
theorem w_fX11_comesTo {p1 : Int} {p2 : Int} {p3 : Int} {p4 : Nat} {S : SS} {rr : Int × SS} (h : fX11_comesTo p1 p2 p3 p4 S = some rr) {a : Nat} (ha : (a < 30 ∨ 33 < a) ∧ (a < 35 ∨ 40 < a)) : rr.2 a = S a := by
  unfold fX11_comesTo at h
  obtain ⟨q1, hq1, h⟩ := bnd_e h
  obtain ⟨q2, hq2, h⟩ := bnd_e h
  have kq2 : q2 a = S a := (w_fX10_spread hq2 (by omega)).trans rfl
  obtain ⟨q3, hq3, h⟩ := bnd_e h
  obtain rfl := Option.some.inj h
  exact kq2
set_option maxHeartbeats 4000000 in
theorem w_fX11_soonest {p1 : Int} {p2 : Int} {p3 : Int} {S : SS} {rr : Int × SS} (h : fX11_soonest p1 p2 p3 S = some rr) {a : Nat} (ha : (a < 30 ∨ 33 < a) ∧ (a < 35 ∨ 40 < a)) : rr.2 a = S a := by
  unfold fX11_soonest at h
  obtain ⟨q1, hq1, h⟩ := bnd_e h
  rcases ite_e h with ⟨_, h⟩ | ⟨_, h⟩
  · obtain ⟨q2, hq2, h⟩ := bnd_e h
    have kq2 : q2.2 a = S a := (w_fX11_comesTo hq2 (by omega)).trans rfl
    obtain ⟨q3, hq3, h⟩ := bnd_e h
    obtain rfl := Option.some.inj h
    exact kq2
  · obtain rfl := Option.some.inj h
    exact rfl
set_option maxHeartbeats 4000000 in
theorem w_fX11_way {p1 : Int} {p2 : Int} {p3 : Int} {p4 : Int} {S : SS} {rr : Int × SS} (h : fX11_way p1 p2 p3 p4 S = some rr) {a : Nat} (ha : (a < 30 ∨ 33 < a) ∧ (a < 35 ∨ 40 < a)) : rr.2 a = S a := by
  unfold fX11_way at h
  obtain ⟨q1, hq1, h⟩ := bnd_e h
  rcases ite_e h with ⟨_, h⟩ | ⟨_, h⟩
  · rcases ite_e h with ⟨_, h⟩ | ⟨_, h⟩
    · obtain ⟨q2, hq2, h⟩ := bnd_e h
      have kq2 : q2.2 a = S a := (w_fX11_comesTo hq2 (by omega)).trans rfl
      obtain ⟨q3, hq3, h⟩ := bnd_e h
      obtain rfl := Option.some.inj h
      exact kq2
    · obtain rfl := Option.some.inj h
      exact rfl
  · obtain rfl := Option.some.inj h
    exact rfl
set_option maxHeartbeats 4000000 in
theorem w_fJ7_fill_d0a16_120_L6 {l0 : Nat} {l1 : Int} {l4 : Int} {a : Nat} (ha : a ≠ l0) : ∀ n l3 S rr, fJ7_fill_d0a16_120_L6 l0 l1 l4 n l3 S = some rr → rr a = S a := by
  intro n
  induction n with
  | zero => intro l3 S rr h; cases h
  | succ n ih =>
    intro l3 S rr h
    unfold fJ7_fill_d0a16_120_L6 at h
    rcases ite_e h with ⟨_, h⟩ | ⟨_, h⟩
    · obtain rfl := Option.some.inj h
      exact rfl
    · obtain ⟨S1, hS1, _, h⟩ := wrA_e h
      have kS1 : S1 a = S a := by rw [hS1]; exact ((up_row (by omega)).trans rfl)
      obtain ⟨x3, hx3, h⟩ := lt_e h
      exact (ih _ _ _ h).trans kS1
set_option maxHeartbeats 4000000 in
theorem w_fJ7_fill_d0a16_120 {p0 : Nat} {p1 : Int} {S : SS} {rr : SS} (h : fJ7_fill_d0a16_120 p0 p1 S = some rr) {a : Nat} (ha : a ≠ p0) : rr a = S a := by
  unfold fJ7_fill_d0a16_120 at h
  obtain ⟨q1, hq1, h⟩ := bnd_e h
  have kq1 : q1 a = S a := (w_fJ7_fill_d0a16_120_L6 (by omega) _ _ _ _ hq1).trans rfl
  obtain rfl := Option.some.inj h
  exact kq1
set_option maxHeartbeats 4000000 in
theorem w_fX7_oneMore_L36 {l1 : Int} {l2 : Nat} {l3 : Int} {l4 : Int} {a : Nat} (ha : (a < 31 ∨ 33 < a) ∧ a ≠ 53) : ∀ n l5 S rr, fX7_oneMore_L36 l1 l2 l3 l4 n l5 S = some rr → rr a = S a := by
  intro n
  induction n with
  | zero => intro l5 S rr h; cases h
  | succ n ih =>
    intro l5 S rr h
    unfold fX7_oneMore_L36 at h
    rcases ite_e h with ⟨_, h⟩ | ⟨_, h⟩
    · obtain rfl := Option.some.inj h
      exact rfl
    · obtain ⟨q1, hq1, h⟩ := bnd_e h
      have kq1 : q1.2 a = S a := (w_fX5_after hq1 (by omega)).trans rfl
      obtain ⟨q2, hq2, h⟩ := bnd_e h
      obtain ⟨q3, hq3, h⟩ := bnd_e h
      have kq3 : q3 a = S a := by
        rcases ite_e hq3 with ⟨_, hq3⟩ | ⟨_, hq3⟩
        · obtain ⟨v4, _, _, hq3⟩ := rdA_e hq3
          obtain ⟨v6, _, _, hq3⟩ := rdA_e hq3
          obtain ⟨S8, hS8, _, hq3⟩ := wrA_e hq3
          have kS8 : S8 a = S a := by rw [hS8]; exact ((up_row (by omega)).trans kq1)
          obtain rfl := Option.some.inj hq3
          exact kS8
        · rcases ite_e hq3 with ⟨_, hq3⟩ | ⟨_, hq3⟩
          · obtain rfl := Option.some.inj hq3
            exact kq1
          · obtain ⟨v10, _, _, hq3⟩ := rdA_e hq3
            obtain ⟨v12, _, _, hq3⟩ := rdA_e hq3
            obtain ⟨S14, hS14, _, hq3⟩ := wrA_e hq3
            have kS14 : S14 a = S a := by rw [hS14]; exact ((up_row (by omega)).trans kq1)
            obtain rfl := Option.some.inj hq3
            exact kS14
      obtain ⟨x18, hx18, h⟩ := lt_e h
      exact (ih _ _ _ h).trans kq3
set_option maxHeartbeats 4000000 in
theorem w_fX7_oneMore_L11 {l1 : Int} {l2 : Nat} {l3 : Int} {a : Nat} (ha : (a < 31 ∨ 33 < a) ∧ a ≠ 53) : ∀ n l4 S rr, fX7_oneMore_L11 l1 l2 l3 n l4 S = some rr → rr a = S a := by
  intro n
  induction n with
  | zero => intro l4 S rr h; cases h
  | succ n ih =>
    intro l4 S rr h
    unfold fX7_oneMore_L11 at h
    rcases ite_e h with ⟨_, h⟩ | ⟨_, h⟩
    · obtain rfl := Option.some.inj h
      exact rfl
    · obtain ⟨v1, _, _, h⟩ := rdA_e h
      obtain ⟨q3, hq3, h⟩ := bnd_e h
      have kq3 : q3 a = S a := by
        rcases ite_e hq3 with ⟨_, hq3⟩ | ⟨_, hq3⟩
        · obtain rfl := Option.some.inj hq3
          exact rfl
        · obtain ⟨q4, hq4, hq3⟩ := bnd_e hq3
          have kq4 : q4 a = S a := (w_fX7_oneMore_L36 (by omega) _ _ _ _ hq4).trans rfl
          obtain rfl := Option.some.inj hq3
          exact kq4
      obtain ⟨x7, hx7, h⟩ := lt_e h
      exact (ih _ _ _ h).trans kq3
set_option maxHeartbeats 4000000 in
theorem w_fX7_oneMore {p1 : Int} {p2 : Nat} {p3 : Int} {S : SS} {rr : SS} (h : fX7_oneMore p1 p2 p3 S = some rr) {a : Nat} (ha : (a < 31 ∨ 33 < a) ∧ (a < 52 ∨ 53 < a)) : rr a = S a := by
  unfold fX7_oneMore at h
  obtain ⟨q1, hq1, h⟩ := bnd_e h
  have kq1 : q1 a = S a := (w_fJ7_fill_d0a16_120 hq1 (by omega)).trans rfl
  obtain ⟨q2, hq2, h⟩ := bnd_e h
  have kq2 : q2 a = S a := (w_fX7_oneMore_L11 (by omega) _ _ _ _ hq2).trans kq1
  obtain ⟨S4, hS4, _, h⟩ := acp_e h
  have kS4 : S4 a = S a := by rw [hS4]; exact ((cpy_row (by omega)).trans kq2)
  obtain rfl := Option.some.inj h
  exact kS4
set_option maxHeartbeats 4000000 in
theorem w_fX7_countWays_L61 {l1 : Int} {l3 : Int} {l4 : Nat} {l5 : Int} {a : Nat} (ha : (a < 31 ∨ 33 < a) ∧ (a < 51 ∨ 53 < a)) : ∀ n l6 S rr, fX7_countWays_L61 l1 l3 l4 l5 n l6 S = some rr → rr a = S a := by
  intro n
  induction n with
  | zero => intro l6 S rr h; cases h
  | succ n ih =>
    intro l6 S rr h
    unfold fX7_countWays_L61 at h
    rcases ite_e h with ⟨_, h⟩ | ⟨_, h⟩
    · obtain rfl := Option.some.inj h
      exact rfl
    · obtain ⟨q1, hq1, h⟩ := bnd_e h
      have kq1 : q1 a = S a := (w_fX7_oneMore hq1 (by omega)).trans rfl
      obtain ⟨S2, hS2, h⟩ := lt_e h
      have kS2 : S2 a = S a := by rw [hS2]; exact ((up_row (by omega)).trans kq1)
      obtain ⟨x3, hx3, h⟩ := lt_e h
      exact (ih _ _ _ h).trans kS2
set_option maxHeartbeats 4000000 in
theorem w_fX7_countWays {p1 : Int} {p2 : Int} {p3 : Int} {p4 : Nat} {p5 : Int} {S : SS} {rr : SS} (h : fX7_countWays p1 p2 p3 p4 p5 S = some rr) {a : Nat} (ha : (a < 30 ∨ 33 < a) ∧ (a < 51 ∨ 53 < a)) : rr a = S a := by
  unfold fX7_countWays at h
  obtain ⟨q1, hq1, h⟩ := bnd_e h
  have kq1 : q1 a = S a := (w_fX5_settle hq1 (by omega)).trans rfl
  obtain ⟨q2, hq2, h⟩ := bnd_e h
  have kq2 : q2 a = S a := (w_fJ7_fill_d0a16_120 hq2 (by omega)).trans kq1
  obtain ⟨S3, hS3, h⟩ := lt_e h
  have kS3 : S3 a = S a := by rw [hS3]; exact ((up_row (by omega)).trans kq2)
  obtain ⟨q4, hq4, h⟩ := bnd_e h
  obtain ⟨q5, hq5, h⟩ := bnd_e h
  have kq5 : q5 a = S a := by
    rcases ite_e hq5 with ⟨_, hq5⟩ | ⟨_, hq5⟩
    · obtain ⟨S6, hS6, _, hq5⟩ := wrA_e hq5
      have kS6 : S6 a = S a := by rw [hS6]; exact ((up_row (by omega)).trans kS3)
      obtain rfl := Option.some.inj hq5
      exact kS6
    · obtain rfl := Option.some.inj hq5
      exact kS3
  rcases ite_e h with ⟨_, h⟩ | ⟨_, h⟩
  · obtain ⟨q9, hq9, h⟩ := bnd_e h
    have kq9 : q9 a = S a := (w_fX7_countWays_L61 (by omega) _ _ _ _ hq9).trans kq5
    obtain rfl := Option.some.inj h
    exact kq9
  · rcases ite_e h with ⟨_, h⟩ | ⟨_, h⟩
    · obtain rfl := Option.some.inj h
      exact kq5
    · obtain ⟨q11, hq11, h⟩ := bnd_e h
      have kq11 : q11 a = S a := (w_fX7_countWays_L61 (by omega) _ _ _ _ hq11).trans kq5
      obtain rfl := Option.some.inj h
      exact kq11
set_option maxHeartbeats 4000000 in
theorem w_fX11_rows {p1 : Int} {p2 : Int} {p3 : Int} {p4 : Int} {S : SS} {rr : Int × SS} (h : fX11_rows p1 p2 p3 p4 S = some rr) {a : Nat} (ha : (a < 30 ∨ 33 < a) ∧ (a < 51 ∨ 53 < a)) : rr.2 a = S a := by
  unfold fX11_rows at h
  obtain ⟨q1, hq1, h⟩ := bnd_e h
  rcases ite_e h with ⟨_, h⟩ | ⟨_, h⟩
  · rcases ite_e h with ⟨_, h⟩ | ⟨_, h⟩
    · obtain rfl := Option.some.inj h
      exact rfl
    · rcases ite_e h with ⟨_, h⟩ | ⟨_, h⟩
      · obtain ⟨q2, hq2, h⟩ := bnd_e h
        obtain ⟨q3, hq3, h⟩ := bnd_e h
        have kq3 : q3 a = S a := (w_fX7_countWays hq3 (by omega)).trans rfl
        obtain ⟨q4, hq4, h⟩ := bnd_e h
        obtain rfl := Option.some.inj h
        exact kq3
      · obtain rfl := Option.some.inj h
        exact rfl
  · obtain rfl := Option.some.inj h
    exact rfl
set_option maxHeartbeats 4000000 in
theorem w_fX11_when {p1 : Int} {p2 : Int} {S : SS} {rr : Int × SS} (h : fX11_when p1 p2 S = some rr) {a : Nat} (ha : (a < 30 ∨ 33 < a) ∧ (a < 35 ∨ 40 < a)) : rr.2 a = S a := by
  unfold fX11_when at h
  obtain ⟨q1, hq1, h⟩ := bnd_e h
  rcases ite_e h with ⟨_, h⟩ | ⟨_, h⟩
  · obtain ⟨q2, hq2, h⟩ := bnd_e h
    rcases ite_e h with ⟨_, h⟩ | ⟨_, h⟩
    · obtain ⟨q3, hq3, h⟩ := bnd_e h
      obtain ⟨q4, hq4, h⟩ := bnd_e h
      have kq4 : q4 a = S a := (w_fX10_spread hq4 (by omega)).trans rfl
      obtain ⟨q5, hq5, h⟩ := bnd_e h
      obtain rfl := Option.some.inj h
      exact kq4
    · obtain rfl := Option.some.inj h
      exact rfl
  · obtain rfl := Option.some.inj h
    exact rfl
set_option maxHeartbeats 4000000 in
theorem w_fX11_bound {p1 : Int} {p2 : Int} {S : SS} {rr : Int × SS} (h : fX11_bound p1 p2 S = some rr) {a : Nat} (ha : (a < 30 ∨ 33 < a) ∧ (a < 35 ∨ 40 < a)) : rr.2 a = S a := by
  unfold fX11_bound at h
  obtain ⟨q1, hq1, h⟩ := bnd_e h
  rcases ite_e h with ⟨_, h⟩ | ⟨_, h⟩
  · rcases ite_e h with ⟨_, h⟩ | ⟨_, h⟩
    · obtain rfl := Option.some.inj h
      exact rfl
    · rcases ite_e h with ⟨_, h⟩ | ⟨_, h⟩
      · obtain ⟨q2, hq2, h⟩ := bnd_e h
        obtain ⟨q3, hq3, h⟩ := bnd_e h
        have kq3 : q3 a = S a := (w_fX10_spread hq3 (by omega)).trans rfl
        obtain ⟨q4, hq4, h⟩ := bnd_e h
        obtain ⟨q5, hq5, h⟩ := bnd_e h
        obtain rfl := Option.some.inj h
        exact kq3
      · obtain rfl := Option.some.inj h
        exact rfl
  · obtain rfl := Option.some.inj h
    exact rfl
set_option maxHeartbeats 4000000 in
theorem w_fX11_reach {p1 : Int} {S : SS} {rr : Int × SS} (h : fX11_reach p1 S = some rr) {a : Nat} (ha : (a < 30 ∨ 33 < a) ∧ (a < 35 ∨ 40 < a)) : rr.2 a = S a := by
  unfold fX11_reach at h
  obtain ⟨q1, hq1, h⟩ := bnd_e h
  rcases ite_e h with ⟨_, h⟩ | ⟨_, h⟩
  · obtain ⟨q2, hq2, h⟩ := bnd_e h
    obtain ⟨q3, hq3, h⟩ := bnd_e h
    have kq3 : q3 a = S a := (w_fX10_spread hq3 (by omega)).trans rfl
    obtain ⟨q4, hq4, h⟩ := bnd_e h
    obtain rfl := Option.some.inj h
    exact kq3
  · obtain rfl := Option.some.inj h
    exact rfl
set_option maxHeartbeats 4000000 in
theorem w_fX11_meetingSpot {p1 : Int} {p2 : Int} {S : SS} {rr : Int × SS} (h : fX11_meetingSpot p1 p2 S = some rr) {a : Nat} (ha : (a < 30 ∨ 33 < a) ∧ (a < 35 ∨ 40 < a) ∧ (a < 43 ∨ 48 < a)) : rr.2 a = S a := by
  unfold fX11_meetingSpot at h
  obtain ⟨q1, hq1, h⟩ := bnd_e h
  obtain ⟨q2, hq2, h⟩ := bnd_e h
  have kq2 : q2 a = S a := (w_fX10_spread hq2 (by omega)).trans rfl
  obtain ⟨q3, hq3, h⟩ := bnd_e h
  obtain ⟨q4, hq4, h⟩ := bnd_e h
  have kq4 : q4 a = S a := (w_fX10_spread hq4 (by omega)).trans kq2
  obtain ⟨x5, hx5, h⟩ := lt_e h
  obtain ⟨q6, hq6, h⟩ := bnd_e h
  obtain rfl := Option.some.inj h
  exact kq4
set_option maxHeartbeats 4000000 in
theorem w_fX11_meet {p1 : Int} {p2 : Int} {S : SS} {rr : Int × SS} (h : fX11_meet p1 p2 S = some rr) {a : Nat} (ha : (a < 30 ∨ 33 < a) ∧ (a < 35 ∨ 40 < a) ∧ (a < 43 ∨ 48 < a)) : rr.2 a = S a := by
  unfold fX11_meet at h
  obtain ⟨q1, hq1, h⟩ := bnd_e h
  rcases ite_e h with ⟨_, h⟩ | ⟨_, h⟩
  · obtain ⟨q2, hq2, h⟩ := bnd_e h
    have kq2 : q2.2 a = S a := (w_fX11_meetingSpot hq2 (by omega)).trans rfl
    obtain ⟨q3, hq3, h⟩ := bnd_e h
    obtain rfl := Option.some.inj h
    exact kq2
  · obtain rfl := Option.some.inj h
    exact rfl
set_option maxHeartbeats 4000000 in
theorem w_fX11_meetAt {p1 : Int} {p2 : Int} {p3 : Int} {S : SS} {rr : Int × SS} (h : fX11_meetAt p1 p2 p3 S = some rr) {a : Nat} (ha : (a < 30 ∨ 33 < a) ∧ (a < 35 ∨ 40 < a) ∧ (a < 43 ∨ 48 < a)) : rr.2 a = S a := by
  unfold fX11_meetAt at h
  obtain ⟨q1, hq1, h⟩ := bnd_e h
  rcases ite_e h with ⟨_, h⟩ | ⟨_, h⟩
  · rcases ite_e h with ⟨_, h⟩ | ⟨_, h⟩
    · obtain rfl := Option.some.inj h
      exact rfl
    · rcases ite_e h with ⟨_, h⟩ | ⟨_, h⟩
      · obtain ⟨q2, hq2, h⟩ := bnd_e h
        have kq2 : q2.2 a = S a := (w_fX11_meetingSpot hq2 (by omega)).trans rfl
        rcases ite_e h with ⟨_, h⟩ | ⟨_, h⟩
        · obtain rfl := Option.some.inj h
          exact kq2
        · rcases ite_e h with ⟨_, h⟩ | ⟨_, h⟩
          · obtain rfl := Option.some.inj h
            exact kq2
          · obtain rfl := Option.some.inj h
            exact kq2
      · obtain rfl := Option.some.inj h
        exact rfl
  · obtain rfl := Option.some.inj h
    exact rfl
set_option maxHeartbeats 4000000 in
theorem w_fX11_ring_L38 {l1 : Int} {a : Nat} (ha : (a < 30 ∨ 33 < a) ∧ (a < 43 ∨ 48 < a)) : ∀ n l2 l3 S rr, fX11_ring_L38 l1 n l2 l3 S = some rr → rr.2 a = S a := by
  intro n
  induction n with
  | zero => intro l2 l3 S rr h; cases h
  | succ n ih =>
    intro l2 l3 S rr h
    unfold fX11_ring_L38 at h
    rcases ite_e h with ⟨_, h⟩ | ⟨_, h⟩
    · obtain rfl := Option.some.inj h
      exact rfl
    · obtain ⟨q1, hq1, h⟩ := bnd_e h
      obtain ⟨q2, hq2, h⟩ := bnd_e h
      have kq2 : q2 a = S a := (w_fX10_spread hq2 (by omega)).trans rfl
      obtain ⟨x3, hx3, h⟩ := lt_e h
      obtain ⟨q4, hq4, h⟩ := bnd_e h
      obtain ⟨x8, hx8, h⟩ := lt_e h
      exact (ih _ _ _ _ h).trans kq2
set_option maxHeartbeats 4000000 in
theorem w_fX11_ring {p1 : Int} {S : SS} {rr : Int × SS} (h : fX11_ring p1 S = some rr) {a : Nat} (ha : (a < 30 ∨ 33 < a) ∧ (a < 35 ∨ 40 < a) ∧ (a < 43 ∨ 48 < a)) : rr.2 a = S a := by
  unfold fX11_ring at h
  obtain ⟨q1, hq1, h⟩ := bnd_e h
  rcases ite_e h with ⟨_, h⟩ | ⟨_, h⟩
  · obtain ⟨q2, hq2, h⟩ := bnd_e h
    obtain ⟨q3, hq3, h⟩ := bnd_e h
    have kq3 : q3 a = S a := (w_fX10_spread hq3 (by omega)).trans rfl
    obtain ⟨x4, hx4, h⟩ := lt_e h
    obtain ⟨q5, hq5, h⟩ := bnd_e h
    have kq5 : q5.2 a = S a := (w_fX11_ring_L38 (by omega) _ _ _ _ _ hq5).trans kq3
    obtain rfl := Option.some.inj h
    exact kq5
  · obtain rfl := Option.some.inj h
    exact rfl
set_option maxHeartbeats 4000000 in
theorem w_fX6_signAll_L2 {l0 : Nat} {l1 : Int} {l2 : Int} {a : Nat} (ha : a ≠ l0 + 1) : ∀ n l3 S rr, fX6_signAll_L2 l0 l1 l2 n l3 S = some rr → rr a = S a := by
  intro n
  induction n with
  | zero => intro l3 S rr h; cases h
  | succ n ih =>
    intro l3 S rr h
    unfold fX6_signAll_L2 at h
    rcases ite_e h with ⟨_, h⟩ | ⟨_, h⟩
    · obtain rfl := Option.some.inj h
      exact rfl
    · rcases ite_e h with ⟨_, h⟩ | ⟨_, h⟩
      · obtain rfl := Option.some.inj h
        exact rfl
      · obtain ⟨v1, _, _, h⟩ := rdA_e h
        obtain ⟨q3, hq3, h⟩ := bnd_e h
        have kq3 : q3 a = S a := by
          rcases ite_e hq3 with ⟨_, hq3⟩ | ⟨_, hq3⟩
          · obtain rfl := Option.some.inj hq3
            exact rfl
          · obtain ⟨S4, hS4, _, hq3⟩ := wrA_e hq3
            have kS4 : S4 a = S a := by rw [hS4]; exact ((up_row (by omega)).trans rfl)
            obtain rfl := Option.some.inj hq3
            exact kS4
        obtain ⟨x7, hx7, h⟩ := lt_e h
        exact (ih _ _ _ h).trans kq3
set_option maxHeartbeats 4000000 in
theorem w_fX6_signAll {t : Nat} {p1 : Int} {p2 : Int} {S : SS} {rr : SS} (h : fX6_signAll t p1 p2 S = some rr) {a : Nat} (ha : a ≠ t + 1) : rr a = S a := by
  unfold fX6_signAll at h
  obtain ⟨q1, hq1, h⟩ := bnd_e h
  have kq1 : q1 a = S a := (w_fX6_signAll_L2 (by omega) _ _ _ _ hq1).trans rfl
  obtain rfl := Option.some.inj h
  exact kq1
set_option maxHeartbeats 4000000 in
theorem w_fX10_open {t : Nat} {p1 : Int} {S : SS} {rr : SS} (h : fX10_open t p1 S = some rr) {a : Nat} (ha : a ≠ t ∧ a ≠ t + 1 ∧ a ≠ t + 6 ∧ a ≠ t + 7) : rr a = S a := by
  unfold fX10_open at h
  obtain ⟨q1, hq1, h⟩ := bnd_e h
  rcases ite_e h with ⟨_, h⟩ | ⟨_, h⟩
  · obtain ⟨v2, _, _, h⟩ := rdA_e h
    rcases ite_e h with ⟨_, h⟩ | ⟨_, h⟩
    · rcases ite_e h with ⟨_, h⟩ | ⟨_, h⟩
      · obtain rfl := Option.some.inj h
        exact rfl
      · obtain ⟨S4, hS4, _, h⟩ := wrA_e h
        have kS4 : S4 a = S a := by rw [hS4]; exact ((up_row (by omega)).trans rfl)
        obtain ⟨q6, hq6, h⟩ := bnd_e h
        obtain ⟨S7, hS7, _, h⟩ := wrA_e h
        have kS7 : S7 a = S a := by rw [hS7]; exact ((up_row (by omega)).trans kS4)
        obtain ⟨S9, hS9, _, h⟩ := wrA_e h
        have kS9 : S9 a = S a := by rw [hS9]; exact ((up_row (by omega)).trans kS7)
        obtain ⟨S11, hS11, h⟩ := lt_e h
        have kS11 : S11 a = S a := by rw [hS11]; exact ((up_row (by omega)).trans kS9)
        obtain rfl := Option.some.inj h
        exact kS11
    · obtain rfl := Option.some.inj h
      exact rfl
  · obtain rfl := Option.some.inj h
    exact rfl
set_option maxHeartbeats 4000000 in
theorem w_fX10_hasRing_L26 {l0 : Nat} {l1 : Int} {l3 : Nat} {a : Nat} (ha : (a < 31 ∨ 33 < a) ∧ a ≠ l0 ∧ a ≠ l0 + 1 ∧ a ≠ l0 + 6 ∧ a ≠ l0 + 7) : ∀ n l4 S rr, fX10_hasRing_L26 l0 l1 l3 n l4 S = some rr → rr.2 a = S a := by
  intro n
  induction n with
  | zero => intro l4 S rr h; cases h
  | succ n ih =>
    intro l4 S rr h
    unfold fX10_hasRing_L26 at h
    rcases ite_e h with ⟨_, h⟩ | ⟨_, h⟩
    · obtain rfl := Option.some.inj h
      exact rfl
    · rcases ite_e h with ⟨_, h⟩ | ⟨_, h⟩
      · obtain rfl := Option.some.inj h
        exact rfl
      · rcases ite_e h with ⟨_, h⟩ | ⟨_, h⟩
        · obtain rfl := Option.some.inj h
          exact rfl
        · obtain ⟨v1, _, _, h⟩ := rdA_e h
          obtain ⟨q3, hq3, h⟩ := bnd_e h
          rcases ite_e h with ⟨_, h⟩ | ⟨_, h⟩
          · obtain ⟨v4, _, _, h⟩ := rdA_e h
            rcases ite_e h with ⟨_, h⟩ | ⟨_, h⟩
            · obtain ⟨S6, hS6, _, h⟩ := wrA_e h
              have kS6 : S6 a = S a := by rw [hS6]; exact ((up_row (by omega)).trans rfl)
              obtain ⟨S8, hS8, h⟩ := lt_e h
              have kS8 : S8 a = S a := by rw [hS8]; exact ((up_row (by omega)).trans kS6)
              obtain ⟨x9, hx9, h⟩ := lt_e h
              exact (ih _ _ _ h).trans kS8
            · obtain ⟨S10, hS10, _, h⟩ := wrA_e h
              have kS10 : S10 a = S a := by rw [hS10]; exact ((up_row (by omega)).trans rfl)
              obtain ⟨q12, hq12, h⟩ := bnd_e h
              obtain ⟨q13, hq13, h⟩ := bnd_e h
              have kq13 : q13.2 a = S a := (w_fX5_after hq13 (by omega)).trans kS10
              obtain ⟨q14, hq14, h⟩ := bnd_e h
              rcases ite_e h with ⟨_, h⟩ | ⟨_, h⟩
              · obtain ⟨v15, _, _, h⟩ := rdA_e h
                rcases ite_e h with ⟨_, h⟩ | ⟨_, h⟩
                · obtain rfl := Option.some.inj h
                  exact kq13
                · obtain ⟨q17, hq17, h⟩ := bnd_e h
                  have kq17 : q17 a = S a := (w_fX10_open hq17 (by omega)).trans kq13
                  obtain ⟨x18, hx18, h⟩ := lt_e h
                  exact (ih _ _ _ h).trans kq17
              · obtain ⟨q20, hq20, h⟩ := bnd_e h
                have kq20 : q20 a = S a := (w_fX10_open hq20 (by omega)).trans kq13
                obtain ⟨x21, hx21, h⟩ := lt_e h
                exact (ih _ _ _ h).trans kq20
          · obtain rfl := Option.some.inj h
            exact rfl
set_option maxHeartbeats 4000000 in
theorem w_fX10_hasRing {t : Nat} {p1 : Int} {p2 : Int} {p3 : Nat} {S : SS} {rr : Bool × SS} (h : fX10_hasRing t p1 p2 p3 S = some rr) {a : Nat} (ha : (a < 30 ∨ 33 < a) ∧ a ≠ t ∧ a ≠ t + 1 ∧ a ≠ t + 5 ∧ a ≠ t + 6 ∧ a ≠ t + 7) : rr.2 a = S a := by
  unfold fX10_hasRing at h
  obtain ⟨q1, hq1, h⟩ := bnd_e h
  have kq1 : q1 a = S a := (w_fX10_begin hq1 (by omega)).trans rfl
  obtain ⟨q2, hq2, h⟩ := bnd_e h
  have kq2 : q2 a = S a := (w_fJ7_fill_53178_120 hq2 (by omega)).trans kq1
  obtain ⟨S3, hS3, h⟩ := lt_e h
  have kS3 : S3 a = S a := by rw [hS3]; exact ((up_row (by omega)).trans kq2)
  obtain ⟨q4, hq4, h⟩ := bnd_e h
  have kq4 : q4 a = S a := (w_fX10_open hq4 (by omega)).trans kS3
  obtain ⟨q5, hq5, h⟩ := bnd_e h
  have kq5 : q5.2 a = S a := (w_fX10_hasRing_L26 (by omega) _ _ _ _ hq5).trans kq4
  rcases ite_e h with ⟨_, h⟩ | ⟨_, h⟩
  · obtain rfl := Option.some.inj h
    exact kq5
  · obtain rfl := Option.some.inj h
    exact kq5
set_option maxHeartbeats 4000000 in
theorem w_fX11_isBylaw {p1 : Int} {p2 : Int} {S : SS} {rr : Bool × SS} (h : fX11_isBylaw p1 p2 S = some rr) {a : Nat} (ha : (a < 15 ∨ 18 < a) ∧ (a < 30 ∨ 33 < a) ∧ (a < 35 ∨ 36 < a) ∧ (a < 40 ∨ 42 < a)) : rr.2 a = S a := by
  unfold fX11_isBylaw at h
  obtain ⟨q1, hq1, h⟩ := bnd_e h
  have kq1 : q1 a = S a := (w_fX6_copyOf hq1 (by omega)).trans rfl
  obtain ⟨q2, hq2, h⟩ := bnd_e h
  have kq2 : q2 a = S a := (w_fX6_signAll hq2 (by omega)).trans kq1
  obtain ⟨q3, hq3, h⟩ := bnd_e h
  obtain ⟨q4, hq4, h⟩ := bnd_e h
  have kq4 : q4.2 a = S a := (w_fX10_hasRing hq4 (by omega)).trans kq2
  rcases ite_e h with ⟨_, h⟩ | ⟨_, h⟩
  · obtain rfl := Option.some.inj h
    exact kq4
  · obtain rfl := Option.some.inj h
    exact kq4
set_option maxHeartbeats 4000000 in
theorem w_fX11_laws_L44 {l1 : Int} {l2 : Int} {a : Nat} (ha : (a < 15 ∨ 18 < a) ∧ (a < 30 ∨ 33 < a) ∧ (a < 35 ∨ 36 < a) ∧ (a < 40 ∨ 42 < a)) : ∀ n l3 l4 S rr, fX11_laws_L44 l1 l2 n l3 l4 S = some rr → rr.2 a = S a := by
  intro n
  induction n with
  | zero => intro l3 l4 S rr h; cases h
  | succ n ih =>
    intro l3 l4 S rr h
    unfold fX11_laws_L44 at h
    rcases ite_e h with ⟨_, h⟩ | ⟨_, h⟩
    · obtain rfl := Option.some.inj h
      exact rfl
    · obtain ⟨q1, hq1, h⟩ := bnd_e h
      have kq1 : q1.2 a = S a := by
        rcases ite_e hq1 with ⟨_, hq1⟩ | ⟨_, hq1⟩
        · obtain ⟨q2, hq2, hq1⟩ := bnd_e hq1
          have kq2 : q2.2 a = S a := (w_fX11_isBylaw hq2 (by omega)).trans rfl
          rcases ite_e hq1 with ⟨_, hq1⟩ | ⟨_, hq1⟩
          · obtain ⟨x3, hx3, hq1⟩ := lt_e hq1
            obtain rfl := Option.some.inj hq1
            exact kq2
          · obtain rfl := Option.some.inj hq1
            exact kq2
        · obtain rfl := Option.some.inj hq1
          exact rfl
      obtain ⟨x6, hx6, h⟩ := lt_e h
      exact (ih _ _ _ _ h).trans kq1
set_option maxHeartbeats 4000000 in
theorem w_fX11_laws {p1 : Int} {S : SS} {rr : Int × SS} (h : fX11_laws p1 S = some rr) {a : Nat} (ha : (a < 15 ∨ 18 < a) ∧ (a < 30 ∨ 33 < a) ∧ (a < 35 ∨ 36 < a) ∧ (a < 40 ∨ 42 < a)) : rr.2 a = S a := by
  unfold fX11_laws at h
  obtain ⟨q1, hq1, h⟩ := bnd_e h
  rcases ite_e h with ⟨_, h⟩ | ⟨_, h⟩
  · obtain ⟨q2, hq2, h⟩ := bnd_e h
    obtain ⟨q3, hq3, h⟩ := bnd_e h
    obtain ⟨x4, hx4, h⟩ := lt_e h
    obtain ⟨q5, hq5, h⟩ := bnd_e h
    have kq5 : q5.2 a = S a := (w_fX11_laws_L44 (by omega) _ _ _ _ _ hq5).trans rfl
    obtain rfl := Option.some.inj h
    exact kq5
  · obtain rfl := Option.some.inj h
    exact rfl
set_option maxHeartbeats 4000000 in
theorem w_fX11_bylaw_L58 {l1 : Int} {l2 : Int} {l3 : Int} {a : Nat} (ha : (a < 15 ∨ 18 < a) ∧ (a < 30 ∨ 33 < a) ∧ (a < 35 ∨ 36 < a) ∧ (a < 40 ∨ 42 < a)) : ∀ n l4 l5 l6 S rr, fX11_bylaw_L58 l1 l2 l3 n l4 l5 l6 S = some rr → rr.2.2 a = S a := by
  intro n
  induction n with
  | zero => intro l4 l5 l6 S rr h; cases h
  | succ n ih =>
    intro l4 l5 l6 S rr h
    unfold fX11_bylaw_L58 at h
    rcases ite_e h with ⟨_, h⟩ | ⟨_, h⟩
    · obtain rfl := Option.some.inj h
      exact rfl
    · obtain ⟨q1, hq1, h⟩ := bnd_e h
      have kq1 : q1.2.2 a = S a := by
        rcases ite_e hq1 with ⟨_, hq1⟩ | ⟨_, hq1⟩
        · obtain ⟨q2, hq2, hq1⟩ := bnd_e hq1
          rcases ite_e hq1 with ⟨_, hq1⟩ | ⟨_, hq1⟩
          · obtain rfl := Option.some.inj hq1
            exact rfl
          · obtain ⟨q3, hq3, hq1⟩ := bnd_e hq1
            have kq3 : q3.2 a = S a := (w_fX11_isBylaw hq3 (by omega)).trans rfl
            rcases ite_e hq1 with ⟨_, hq1⟩ | ⟨_, hq1⟩
            · obtain ⟨q4, hq4, hq1⟩ := bnd_e hq1
              obtain rfl := Option.some.inj hq1
              exact kq3
            · obtain rfl := Option.some.inj hq1
              exact kq3
        · obtain rfl := Option.some.inj hq1
          exact rfl
      obtain ⟨x8, hx8, h⟩ := lt_e h
      exact (ih _ _ _ _ _ h).trans kq1
set_option maxHeartbeats 4000000 in
theorem w_fX11_bylaw {p1 : Int} {p2 : Int} {S : SS} {rr : Int × SS} (h : fX11_bylaw p1 p2 S = some rr) {a : Nat} (ha : (a < 15 ∨ 18 < a) ∧ (a < 30 ∨ 33 < a) ∧ (a < 35 ∨ 36 < a) ∧ (a < 40 ∨ 42 < a)) : rr.2 a = S a := by
  unfold fX11_bylaw at h
  obtain ⟨q1, hq1, h⟩ := bnd_e h
  rcases ite_e h with ⟨_, h⟩ | ⟨_, h⟩
  · rcases ite_e h with ⟨_, h⟩ | ⟨_, h⟩
    · obtain rfl := Option.some.inj h
      exact rfl
    · rcases ite_e h with ⟨_, h⟩ | ⟨_, h⟩
      · obtain ⟨q2, hq2, h⟩ := bnd_e h
        obtain ⟨q3, hq3, h⟩ := bnd_e h
        obtain ⟨x4, hx4, h⟩ := lt_e h
        obtain ⟨x5, hx5, h⟩ := lt_e h
        obtain ⟨q6, hq6, h⟩ := bnd_e h
        have kq6 : q6.2.2 a = S a := (w_fX11_bylaw_L58 (by omega) _ _ _ _ _ _ hq6).trans rfl
        rcases ite_e h with ⟨_, h⟩ | ⟨_, h⟩
        · obtain rfl := Option.some.inj h
          exact kq6
        · rcases ite_e h with ⟨_, h⟩ | ⟨_, h⟩
          · obtain rfl := Option.some.inj h
            exact kq6
          · obtain rfl := Option.some.inj h
            exact kq6
      · obtain rfl := Option.some.inj h
        exact rfl
  · obtain rfl := Option.some.inj h
    exact rfl
set_option maxHeartbeats 4000000 in
theorem w_fX6_shutAll_L2 {l0 : Nat} {l1 : Int} {l2 : Int} {a : Nat} (ha : a ≠ l0 + 1) : ∀ n l3 S rr, fX6_shutAll_L2 l0 l1 l2 n l3 S = some rr → rr a = S a := by
  intro n
  induction n with
  | zero => intro l3 S rr h; cases h
  | succ n ih =>
    intro l3 S rr h
    unfold fX6_shutAll_L2 at h
    rcases ite_e h with ⟨_, h⟩ | ⟨_, h⟩
    · obtain rfl := Option.some.inj h
      exact rfl
    · rcases ite_e h with ⟨_, h⟩ | ⟨_, h⟩
      · obtain rfl := Option.some.inj h
        exact rfl
      · obtain ⟨q1, hq1, h⟩ := bnd_e h
        have kq1 : q1 a = S a := by
          rcases ite_e hq1 with ⟨_, hq1⟩ | ⟨_, hq1⟩
          · obtain ⟨S2, hS2, _, hq1⟩ := wrA_e hq1
            have kS2 : S2 a = S a := by rw [hS2]; exact ((up_row (by omega)).trans rfl)
            obtain rfl := Option.some.inj hq1
            exact kS2
          · obtain rfl := Option.some.inj hq1
            exact rfl
        obtain ⟨x5, hx5, h⟩ := lt_e h
        exact (ih _ _ _ h).trans kq1
set_option maxHeartbeats 4000000 in
theorem w_fX6_shutAll {t : Nat} {p1 : Int} {p2 : Int} {S : SS} {rr : SS} (h : fX6_shutAll t p1 p2 S = some rr) {a : Nat} (ha : a ≠ t + 1) : rr a = S a := by
  unfold fX6_shutAll at h
  obtain ⟨q1, hq1, h⟩ := bnd_e h
  have kq1 : q1 a = S a := (w_fX6_shutAll_L2 (by omega) _ _ _ _ hq1).trans rfl
  obtain rfl := Option.some.inj h
  exact kq1
set_option maxHeartbeats 4000000 in
theorem w_fX11_shutsOff {p1 : Int} {p2 : Int} {p3 : Int} {S : SS} {rr : Bool × SS} (h : fX11_shutsOff p1 p2 p3 S = some rr) {a : Nat} (ha : (a < 15 ∨ 18 < a) ∧ (a < 30 ∨ 33 < a) ∧ (a < 35 ∨ 40 < a)) : rr.2 a = S a := by
  unfold fX11_shutsOff at h
  obtain ⟨q1, hq1, h⟩ := bnd_e h
  have kq1 : q1 a = S a := (w_fX6_copyOf hq1 (by omega)).trans rfl
  obtain ⟨q2, hq2, h⟩ := bnd_e h
  have kq2 : q2 a = S a := (w_fX6_shutAll hq2 (by omega)).trans kq1
  obtain ⟨q3, hq3, h⟩ := bnd_e h
  have kq3 : q3.2 a = S a := (w_fX11_comesTo hq3 (by omega)).trans kq2
  rcases ite_e h with ⟨_, h⟩ | ⟨_, h⟩
  · obtain rfl := Option.some.inj h
    exact kq3
  · obtain rfl := Option.some.inj h
    exact kq3
set_option maxHeartbeats 4000000 in
theorem w_fX11_shut_L81 {l1 : Int} {l2 : Int} {l3 : Int} {l4 : Int} {a : Nat} (ha : (a < 15 ∨ 18 < a) ∧ (a < 30 ∨ 33 < a) ∧ (a < 35 ∨ 40 < a)) : ∀ n l5 l6 S rr, fX11_shut_L81 l1 l2 l3 l4 n l5 l6 S = some rr → rr.2 a = S a := by
  intro n
  induction n with
  | zero => intro l5 l6 S rr h; cases h
  | succ n ih =>
    intro l5 l6 S rr h
    unfold fX11_shut_L81 at h
    rcases ite_e h with ⟨_, h⟩ | ⟨_, h⟩
    · obtain rfl := Option.some.inj h
      exact rfl
    · obtain ⟨q1, hq1, h⟩ := bnd_e h
      obtain ⟨q2, hq2, h⟩ := bnd_e h
      obtain ⟨q3, hq3, h⟩ := bnd_e h
      obtain ⟨q5, hq5, h⟩ := bnd_e h
      have kq5 : q5.2 a = S a := by
        rcases ite_e hq5 with ⟨_, hq5⟩ | ⟨_, hq5⟩
        · rcases ite_e hq5 with ⟨_, hq5⟩ | ⟨_, hq5⟩
          · obtain rfl := Option.some.inj hq5
            exact rfl
          · obtain ⟨q6, hq6, hq5⟩ := bnd_e hq5
            have kq6 : q6.2 a = S a := (w_fX11_shutsOff hq6 (by omega)).trans rfl
            rcases ite_e hq5 with ⟨_, hq5⟩ | ⟨_, hq5⟩
            · obtain rfl := Option.some.inj hq5
              exact kq6
            · obtain rfl := Option.some.inj hq5
              exact kq6
        · obtain rfl := Option.some.inj hq5
          exact rfl
      obtain ⟨x10, hx10, h⟩ := lt_e h
      exact (ih _ _ _ _ h).trans kq5
set_option maxHeartbeats 4000000 in
theorem w_fX11_shut {p1 : Int} {p2 : Int} {p3 : Int} {S : SS} {rr : Int × SS} (h : fX11_shut p1 p2 p3 S = some rr) {a : Nat} (ha : (a < 15 ∨ 18 < a) ∧ (a < 30 ∨ 33 < a) ∧ (a < 35 ∨ 40 < a)) : rr.2 a = S a := by
  unfold fX11_shut at h
  obtain ⟨q1, hq1, h⟩ := bnd_e h
  rcases ite_e h with ⟨_, h⟩ | ⟨_, h⟩
  · obtain ⟨q2, hq2, h⟩ := bnd_e h
    rcases ite_e h with ⟨_, h⟩ | ⟨_, h⟩
    · rcases ite_e h with ⟨_, h⟩ | ⟨_, h⟩
      · obtain rfl := Option.some.inj h
        exact rfl
      · rcases ite_e h with ⟨_, h⟩ | ⟨_, h⟩
        · obtain ⟨q3, hq3, h⟩ := bnd_e h
          rcases ite_e h with ⟨_, h⟩ | ⟨_, h⟩
          · obtain rfl := Option.some.inj h
            exact rfl
          · obtain ⟨q4, hq4, h⟩ := bnd_e h
            obtain ⟨q5, hq5, h⟩ := bnd_e h
            obtain ⟨x6, hx6, h⟩ := lt_e h
            obtain ⟨q7, hq7, h⟩ := bnd_e h
            have kq7 : q7.2 a = S a := (w_fX11_shut_L81 (by omega) _ _ _ _ _ hq7).trans rfl
            rcases ite_e h with ⟨_, h⟩ | ⟨_, h⟩
            · obtain ⟨q9, hq9, h⟩ := bnd_e h
              obtain rfl := Option.some.inj h
              exact kq7
            · obtain rfl := Option.some.inj h
              exact kq7
        · obtain rfl := Option.some.inj h
          exact rfl
    · obtain rfl := Option.some.inj h
      exact rfl
  · obtain rfl := Option.some.inj h
    exact rfl
set_option maxHeartbeats 4000000 in
theorem w_fX11_needed_L47 {l1 : Int} {l2 : Int} {a : Nat} (ha : (a < 15 ∨ 18 < a) ∧ (a < 30 ∨ 33 < a) ∧ (a < 35 ∨ 40 < a)) : ∀ n l3 l4 S rr, fX11_needed_L47 l1 l2 n l3 l4 S = some rr → rr.2 a = S a := by
  intro n
  induction n with
  | zero => intro l3 l4 S rr h; cases h
  | succ n ih =>
    intro l3 l4 S rr h
    unfold fX11_needed_L47 at h
    rcases ite_e h with ⟨_, h⟩ | ⟨_, h⟩
    · obtain rfl := Option.some.inj h
      exact rfl
    · obtain ⟨q1, hq1, h⟩ := bnd_e h
      obtain ⟨q2, hq2, h⟩ := bnd_e h
      have kq2 : q2.2 a = S a := by
        rcases ite_e hq2 with ⟨_, hq2⟩ | ⟨_, hq2⟩
        · obtain rfl := Option.some.inj hq2
          exact rfl
        · obtain ⟨q3, hq3, hq2⟩ := bnd_e hq2
          have kq3 : q3.2 a = S a := (w_fX11_shutsOff hq3 (by omega)).trans rfl
          rcases ite_e hq2 with ⟨_, hq2⟩ | ⟨_, hq2⟩
          · obtain ⟨x4, hx4, hq2⟩ := lt_e hq2
            obtain rfl := Option.some.inj hq2
            exact kq3
          · obtain rfl := Option.some.inj hq2
            exact kq3
      obtain ⟨x7, hx7, h⟩ := lt_e h
      exact (ih _ _ _ _ h).trans kq2
set_option maxHeartbeats 4000000 in
theorem w_fX11_needed {p1 : Int} {p2 : Int} {S : SS} {rr : Int × SS} (h : fX11_needed p1 p2 S = some rr) {a : Nat} (ha : (a < 15 ∨ 18 < a) ∧ (a < 30 ∨ 33 < a) ∧ (a < 35 ∨ 40 < a)) : rr.2 a = S a := by
  unfold fX11_needed at h
  obtain ⟨q1, hq1, h⟩ := bnd_e h
  rcases ite_e h with ⟨_, h⟩ | ⟨_, h⟩
  · obtain ⟨q2, hq2, h⟩ := bnd_e h
    rcases ite_e h with ⟨_, h⟩ | ⟨_, h⟩
    · obtain ⟨q3, hq3, h⟩ := bnd_e h
      have kq3 : q3.2 a = S a := (w_fX11_comesTo hq3 (by omega)).trans rfl
      rcases ite_e h with ⟨_, h⟩ | ⟨_, h⟩
      · obtain rfl := Option.some.inj h
        exact kq3
      · obtain ⟨q4, hq4, h⟩ := bnd_e h
        have kq4 : q4.2 a = S a := (w_fX11_needed_L47 (by omega) _ _ _ _ _ hq4).trans kq3
        obtain rfl := Option.some.inj h
        exact kq4
    · obtain rfl := Option.some.inj h
      exact rfl
  · obtain rfl := Option.some.inj h
    exact rfl
set_option maxHeartbeats 4000000 in
theorem w_fX11_yearBehindRow_L22 {l1 : Nat} {l2 : Int} {l4 : Nat} {a : Nat} (ha : (a < 31 ∨ 33 < a)) : ∀ n l5 l6 S rr, fX11_yearBehindRow_L22 l1 l2 l4 n l5 l6 S = some rr → rr.2 a = S a := by
  intro n
  induction n with
  | zero => intro l5 l6 S rr h; cases h
  | succ n ih =>
    intro l5 l6 S rr h
    unfold fX11_yearBehindRow_L22 at h
    obtain ⟨hg, h⟩ := gsh_e h
    have hg0 := sh_n0 hg (by decide)
    rcases ite_e h with ⟨_, h⟩ | ⟨_, h⟩
    · obtain rfl := Option.some.inj h
      exact rfl
    · rcases ite_e h with ⟨_, h⟩ | ⟨_, h⟩
      · obtain rfl := Option.some.inj h
        exact rfl
      · obtain ⟨q2, hq2, h⟩ := bnd_e h
        obtain ⟨q3, hq3, h⟩ := bnd_e h
        have kq3 : q3.2 a = S a := (w_fX5_after hq3 (by omega)).trans rfl
        obtain ⟨x4, hx4, h⟩ := lt_e h
        exact (ih _ _ _ _ h).trans kq3
set_option maxHeartbeats 4000000 in
theorem w_fX11_yearBehindRow {p1 : Nat} {p2 : Int} {p3 : Int} {p4 : Nat} {S : SS} {rr : Int × SS} (h : fX11_yearBehindRow p1 p2 p3 p4 S = some rr) {a : Nat} (ha : (a < 31 ∨ 33 < a)) : rr.2 a = S a := by
  unfold fX11_yearBehindRow at h
  rcases ite_e h with ⟨_, h⟩ | ⟨_, h⟩
  · obtain rfl := Option.some.inj h
    exact rfl
  · obtain ⟨q1, hq1, h⟩ := bnd_e h
    obtain ⟨x2, hx2, h⟩ := lt_e h
    obtain ⟨q3, hq3, h⟩ := bnd_e h
    have kq3 : q3.2 a = S a := (w_fX11_yearBehindRow_L22 (by omega) _ _ _ _ _ hq3).trans rfl
    rcases ite_e h with ⟨_, h⟩ | ⟨_, h⟩
    · obtain rfl := Option.some.inj h
      exact kq3
    · obtain rfl := Option.some.inj h
      exact kq3
set_option maxHeartbeats 4000000 in
theorem w_fX11_from_L31 {l2 : Int} {l3 : Int} {l4 : Nat} {a : Nat} (ha : (a < 31 ∨ 33 < a)) : ∀ n l6 l7 S rr, fX11_from_L31 l2 l3 l4 n l6 l7 S = some rr → rr.2 a = S a := by
  intro n
  induction n with
  | zero => intro l6 l7 S rr h; cases h
  | succ n ih =>
    intro l6 l7 S rr h
    unfold fX11_from_L31 at h
    rcases ite_e h with ⟨_, h⟩ | ⟨_, h⟩
    · obtain rfl := Option.some.inj h
      exact rfl
    · obtain ⟨q1, hq1, h⟩ := bnd_e h
      have kq1 : q1.2 a = S a := (w_fX11_yearBehindRow hq1 (by omega)).trans rfl
      obtain ⟨q2, hq2, h⟩ := bnd_e h
      obtain ⟨x5, hx5, h⟩ := lt_e h
      exact (ih _ _ _ _ h).trans kq1
set_option maxHeartbeats 4000000 in
theorem w_fX11_from {p1 : Int} {p2 : Int} {p3 : Int} {S : SS} {rr : Int × SS} (h : fX11_from p1 p2 p3 S = some rr) {a : Nat} (ha : (a < 31 ∨ 33 < a)) : rr.2 a = S a := by
  unfold fX11_from at h
  obtain ⟨q1, hq1, h⟩ := bnd_e h
  have rq1 := rg_fX11_trayAt hq1
  obtain ⟨q2, hq2, h⟩ := bnd_e h
  rcases ite_e h with ⟨_, h⟩ | ⟨_, h⟩
  · obtain ⟨q3, hq3, h⟩ := bnd_e h
    have kq3 : q3.2 a = S a := (w_fX11_from_L31 (by omega) _ _ _ _ _ hq3).trans rfl
    obtain rfl := Option.some.inj h
    exact kq3
  · obtain rfl := Option.some.inj h
    exact rfl
set_option maxHeartbeats 4000000 in
theorem w_fX11_bollardsTold_L17 {l1 : Nat} {l2 : Int} {l3 : Int} {a : Nat} (ha : a ≠ 15 ∧ (a < 31 ∨ 33 < a)) : ∀ n l4 l5 S rr, fX11_bollardsTold_L17 l1 l2 l3 n l4 l5 S = some rr → rr.2 a = S a := by
  intro n
  induction n with
  | zero => intro l4 l5 S rr h; cases h
  | succ n ih =>
    intro l4 l5 S rr h
    unfold fX11_bollardsTold_L17 at h
    rcases ite_e h with ⟨_, h⟩ | ⟨_, h⟩
    · obtain rfl := Option.some.inj h
      exact rfl
    · obtain ⟨S1, hS1, h⟩ := lt_e h
      have kS1 : S1 a = S a := by rw [hS1]; exact ((up_row (by omega)).trans rfl)
      obtain ⟨q2, hq2, h⟩ := bnd_e h
      obtain ⟨q3, hq3, h⟩ := bnd_e h
      have kq3 : q3.2 a = S a := (w_fX11_yearBehindRow hq3 (by omega)).trans kS1
      obtain ⟨q4, hq4, h⟩ := bnd_e h
      obtain ⟨x7, hx7, h⟩ := lt_e h
      exact (ih _ _ _ _ h).trans kq3
set_option maxHeartbeats 4000000 in
theorem w_fX11_bollardsTold {p1 : Nat} {p2 : Int} {p3 : Int} {S : SS} {rr : Int × SS} (h : fX11_bollardsTold p1 p2 p3 S = some rr) {a : Nat} (ha : (a < 15 ∨ 18 < a) ∧ (a < 31 ∨ 33 < a)) : rr.2 a = S a := by
  unfold fX11_bollardsTold at h
  obtain ⟨q1, hq1, h⟩ := bnd_e h
  have kq1 : q1 a = S a := (w_fX6_copyOf hq1 (by omega)).trans rfl
  obtain ⟨q2, hq2, h⟩ := bnd_e h
  have kq2 : q2.2 a = S a := (w_fX11_bollardsTold_L17 (by omega) _ _ _ _ _ hq2).trans kq1
  obtain rfl := Option.some.inj h
  exact kq2
set_option maxHeartbeats 4000000 in
theorem w_fX11_bollardsBy {p1 : Int} {p2 : Int} {p3 : Int} {S : SS} {rr : Int × SS} (h : fX11_bollardsBy p1 p2 p3 S = some rr) {a : Nat} (ha : (a < 15 ∨ 18 < a) ∧ (a < 31 ∨ 33 < a)) : rr.2 a = S a := by
  unfold fX11_bollardsBy at h
  obtain ⟨q1, hq1, h⟩ := bnd_e h
  have rq1 := rg_fX11_trayAt hq1
  obtain ⟨q2, hq2, h⟩ := bnd_e h
  rcases ite_e h with ⟨_, h⟩ | ⟨_, h⟩
  · obtain ⟨q3, hq3, h⟩ := bnd_e h
    have kq3 : q3.2 a = S a := (w_fX11_bollardsTold hq3 (by omega)).trans rfl
    obtain rfl := Option.some.inj h
    exact kq3
  · obtain rfl := Option.some.inj h
    exact rfl
set_option maxHeartbeats 4000000 in
theorem w_fJ7_fill_53178_20_L5 {l0 : Nat} {l1 : Int} {l3 : Int} {a : Nat} (ha : a ≠ l0) : ∀ n l2 S rr, fJ7_fill_53178_20_L5 l0 l1 l3 n l2 S = some rr → rr a = S a := by
  intro n
  induction n with
  | zero => intro l2 S rr h; cases h
  | succ n ih =>
    intro l2 S rr h
    unfold fJ7_fill_53178_20_L5 at h
    rcases ite_e h with ⟨_, h⟩ | ⟨_, h⟩
    · obtain rfl := Option.some.inj h
      exact rfl
    · obtain ⟨S1, hS1, _, h⟩ := wrA_e h
      have kS1 : S1 a = S a := by rw [hS1]; exact ((up_row (by omega)).trans rfl)
      obtain ⟨x3, hx3, h⟩ := lt_e h
      exact (ih _ _ _ h).trans kS1
set_option maxHeartbeats 4000000 in
theorem w_fJ7_fill_53178_20 {p0 : Nat} {p1 : Int} {S : SS} {rr : SS} (h : fJ7_fill_53178_20 p0 p1 S = some rr) {a : Nat} (ha : a ≠ p0) : rr a = S a := by
  unfold fJ7_fill_53178_20 at h
  obtain ⟨q1, hq1, h⟩ := bnd_e h
  have kq1 : q1 a = S a := (w_fJ7_fill_53178_20_L5 (by omega) _ _ _ _ hq1).trans rfl
  obtain rfl := Option.some.inj h
  exact kq1
set_option maxHeartbeats 4000000 in
theorem w_fX11_mostAlike_L25 {l1 : Int} {l2 : Int} {l3 : Int} {a : Nat} (ha : a ≠ 15 ∧ (a < 31 ∨ 33 < a) ∧ a ≠ 103) : ∀ n l4 l5 S rr, fX11_mostAlike_L25 l1 l2 l3 n l4 l5 S = some rr → rr.2 a = S a := by
  intro n
  induction n with
  | zero => intro l4 l5 S rr h; cases h
  | succ n ih =>
    intro l4 l5 S rr h
    unfold fX11_mostAlike_L25 at h
    rcases ite_e h with ⟨_, h⟩ | ⟨_, h⟩
    · obtain rfl := Option.some.inj h
      exact rfl
    · obtain ⟨q1, hq1, h⟩ := bnd_e h
      have kq1 : q1.2 a = S a := by
        rcases ite_e hq1 with ⟨_, hq1⟩ | ⟨_, hq1⟩
        · obtain rfl := Option.some.inj hq1
          exact rfl
        · obtain ⟨S2, hS2, hq1⟩ := lt_e hq1
          have kS2 : S2 a = S a := by rw [hS2]; exact ((up_row (by omega)).trans rfl)
          obtain ⟨q3, hq3, hq1⟩ := bnd_e hq1
          obtain ⟨q4, hq4, hq1⟩ := bnd_e hq1
          have kq4 : q4.2 a = S a := (w_fX5_after hq4 (by omega)).trans kS2
          obtain ⟨q5, hq5, hq1⟩ := bnd_e hq1
          obtain ⟨q8, hq8, hq1⟩ := bnd_e hq1
          rcases ite_e hq1 with ⟨_, hq1⟩ | ⟨_, hq1⟩
          · obtain ⟨v9, _, _, hq1⟩ := rdA_e hq1
            obtain ⟨S11, hS11, _, hq1⟩ := wrA_e hq1
            have kS11 : S11 a = S a := by rw [hS11]; exact ((up_row (by omega)).trans kq4)
            obtain ⟨v13, _, _, hq1⟩ := rdA_e hq1
            obtain ⟨x15, hx15, hq1⟩ := lt_e hq1
            obtain rfl := Option.some.inj hq1
            exact kS11
          · obtain rfl := Option.some.inj hq1
            exact kq4
      obtain ⟨x18, hx18, h⟩ := lt_e h
      exact (ih _ _ _ _ h).trans kq1
set_option maxHeartbeats 4000000 in
theorem w_fX11_mostAlike {p1 : Int} {p2 : Int} {p3 : Int} {S : SS} {rr : Int × SS} (h : fX11_mostAlike p1 p2 p3 S = some rr) {a : Nat} (ha : (a < 15 ∨ 18 < a) ∧ (a < 31 ∨ 33 < a) ∧ a ≠ 103) : rr.2 a = S a := by
  unfold fX11_mostAlike at h
  obtain ⟨q1, hq1, h⟩ := bnd_e h
  have kq1 : q1 a = S a := (w_fX6_copyOf hq1 (by omega)).trans rfl
  obtain ⟨q2, hq2, h⟩ := bnd_e h
  have kq2 : q2 a = S a := (w_fJ7_fill_53178_20 hq2 (by omega)).trans kq1
  obtain ⟨q3, hq3, h⟩ := bnd_e h
  have kq3 : q3.2 a = S a := (w_fX11_mostAlike_L25 (by omega) _ _ _ _ _ hq3).trans kq2
  obtain rfl := Option.some.inj h
  exact kq3
set_option maxHeartbeats 4000000 in
theorem w_fX11_attempt_L52 {l2 : Int} {l6 : Int} {a : Nat} (ha : (a < 15 ∨ 18 < a) ∧ (a < 31 ∨ 33 < a) ∧ a ≠ 103) : ∀ n l7 l8 l9 S rr, fX11_attempt_L52 l2 l6 n l7 l8 l9 S = some rr → rr.2 a = S a := by
  intro n
  induction n with
  | zero => intro l7 l8 l9 S rr h; cases h
  | succ n ih =>
    intro l7 l8 l9 S rr h
    unfold fX11_attempt_L52 at h
    rcases ite_e h with ⟨_, h⟩ | ⟨_, h⟩
    · obtain rfl := Option.some.inj h
      exact rfl
    · obtain ⟨q1, hq1, h⟩ := bnd_e h
      have kq1 : q1.2 a = S a := (w_fX11_mostAlike hq1 (by omega)).trans rfl
      obtain ⟨q2, hq2, h⟩ := bnd_e h
      obtain ⟨x4, hx4, h⟩ := lt_e h
      exact (ih _ _ _ _ _ h).trans kq1
set_option maxHeartbeats 4000000 in
theorem w_fX11_attempt {p1 : Int} {p2 : Int} {p3 : Int} {S : SS} {rr : Int × SS} (h : fX11_attempt p1 p2 p3 S = some rr) {a : Nat} (ha : (a < 15 ∨ 18 < a) ∧ (a < 31 ∨ 33 < a) ∧ a ≠ 103) : rr.2 a = S a := by
  unfold fX11_attempt at h
  obtain ⟨q1, hq1, h⟩ := bnd_e h
  have rq1 := rg_fX11_trayAt hq1
  obtain ⟨q2, hq2, h⟩ := bnd_e h
  rcases ite_e h with ⟨_, h⟩ | ⟨_, h⟩
  · obtain ⟨q3, hq3, h⟩ := bnd_e h
    have kq3 : q3.2 a = S a := (w_fX11_bollardsTold hq3 (by omega)).trans rfl
    rcases ite_e h with ⟨_, h⟩ | ⟨_, h⟩
    · obtain rfl := Option.some.inj h
      exact kq3
    · obtain ⟨x4, hx4, h⟩ := lt_e h
      obtain ⟨q5, hq5, h⟩ := bnd_e h
      have kq5 : q5.2 a = S a := (w_fX11_attempt_L52 (by omega) _ _ _ _ _ _ hq5).trans kq3
      obtain rfl := Option.some.inj h
      exact kq5
  · obtain rfl := Option.some.inj h
    exact rfl
set_option maxHeartbeats 4000000 in
theorem w_fX1_begin {p1 : Int} {p2 : Int} {p3 : Nat} {S : SS} {rr : SS} (h : fX1_begin p1 p2 p3 S = some rr) {a : Nat} (ha : a ≠ 30 ∧ a ≠ 33 ∧ (a < 54 ∨ 58 < a)) : rr a = S a := by
  unfold fX1_begin at h
  obtain ⟨q1, hq1, h⟩ := bnd_e h
  have kq1 : q1 a = S a := (w_fX5_settle hq1 (by omega)).trans rfl
  obtain ⟨S2, hS2, h⟩ := lt_e h
  have kS2 : S2 a = S a := by rw [hS2]; exact ((up_row (by omega)).trans kq1)
  obtain ⟨S3, hS3, h⟩ := lt_e h
  have kS3 : S3 a = S a := by rw [hS3]; exact ((up_row (by omega)).trans kS2)
  obtain ⟨q4, hq4, h⟩ := bnd_e h
  have kq4 : q4 a = S a := (w_fX6_copyOf hq4 (by omega)).trans kS3
  obtain rfl := Option.some.inj h
  exact kq4
set_option maxHeartbeats 4000000 in
theorem w_fX1_wins_L22 {rc : Nat → Int → Int → Int → SS → Option (Bool × SS)} {l1 : Int} {l2 : Int} {a : Nat} (hrc : ∀ x0 x1 x2 x3 x4 rr, rc x0 x1 x2 x3 x4 = some rr → rr.2 a = x4 a) (ha : (a < 31 ∨ 33 < a) ∧ a ≠ 56) : ∀ n l3 S rr, fX1_wins_L22 rc l1 l2 n l3 S = some rr → rr.2 a = S a := by
  intro n
  induction n with
  | zero => intro l3 S rr h; cases h
  | succ n ih =>
    intro l3 S rr h
    unfold fX1_wins_L22 at h
    rcases ite_e h with ⟨_, h⟩ | ⟨_, h⟩
    · obtain rfl := Option.some.inj h
      exact rfl
    · obtain ⟨q1, hq1, h⟩ := bnd_e h
      have kq1 : q1.2 a = S a := (hrc _ _ _ _ _ _ hq1).trans rfl
      rcases ite_e h with ⟨_, h⟩ | ⟨_, h⟩
      · obtain rfl := Option.some.inj h
        exact kq1
      · obtain ⟨x2, hx2, h⟩ := lt_e h
        exact (ih _ _ _ h).trans kq1
set_option maxHeartbeats 4000000 in
theorem w_fX1_wins {rc : Nat → Int → Int → Int → SS → Option (Bool × SS)} {p1 : Int} {p2 : Int} {S : SS} {rr : Bool × SS} {a : Nat} (hrc : ∀ x0 x1 x2 x3 x4 rr, rc x0 x1 x2 x3 x4 = some rr → rr.2 a = x4 a) (h : fX1_wins rc p1 p2 S = some rr) (ha : (a < 31 ∨ 33 < a) ∧ a ≠ 56) : rr.2 a = S a := by
  unfold fX1_wins at h
  rcases ite_e h with ⟨_, h⟩ | ⟨_, h⟩
  · obtain rfl := Option.some.inj h
    exact rfl
  · rcases ite_e h with ⟨_, h⟩ | ⟨_, h⟩
    · obtain ⟨q1, hq1, h⟩ := bnd_e h
      have kq1 : q1.2 a = S a := (w_fX1_wins_L22 hrc (by omega) _ _ _ _ hq1).trans rfl
      rcases ite_e h with ⟨_, h⟩ | ⟨_, h⟩
      · obtain rfl := Option.some.inj h
        exact kq1
      · obtain ⟨q3, hq3, h⟩ := bnd_e h
        have kq3 : q3.2 a = S a := (hrc _ _ _ _ _ _ hq3).trans kq1
        obtain rfl := Option.some.inj h
        exact kq3
    · obtain rfl := Option.some.inj h
      exact rfl
set_option maxHeartbeats 4000000 in
theorem w_fX1_winsBy {rc : Nat → Int → Int → Int → SS → Option (Bool × SS)} {p1 : Int} {p2 : Int} {p3 : Int} {S : SS} {rr : Bool × SS} {a : Nat} (hrc : ∀ x0 x1 x2 x3 x4 rr, rc x0 x1 x2 x3 x4 = some rr → rr.2 a = x4 a) (h : fX1_winsBy rc p1 p2 p3 S = some rr) (ha : (a < 31 ∨ 33 < a) ∧ a ≠ 56) : rr.2 a = S a := by
  unfold fX1_winsBy at h
  obtain ⟨q1, hq1, h⟩ := bnd_e h
  have kq1 : q1.2 a = S a := by
    rcases ite_e hq1 with ⟨_, hq1⟩ | ⟨_, hq1⟩
    · obtain rfl := Option.some.inj hq1
      exact rfl
    · obtain ⟨q2, hq2, hq1⟩ := bnd_e hq1
      have kq2 : q2.2 a = S a := (w_fX5_after hq2 (by omega)).trans rfl
      obtain rfl := Option.some.inj hq1
      exact kq2
  rcases ite_e h with ⟨_, h⟩ | ⟨_, h⟩
  · rcases ite_e h with ⟨_, h⟩ | ⟨_, h⟩
    · obtain rfl := Option.some.inj h
      exact kq1
    · rcases ite_e h with ⟨_, h⟩ | ⟨_, h⟩
      · obtain rfl := Option.some.inj h
        exact kq1
      · obtain ⟨q4, hq4, h⟩ := bnd_e h
        have kq4 : q4.2 a = S a := (hrc _ _ _ _ _ _ hq4).trans kq1
        rcases ite_e h with ⟨_, h⟩ | ⟨_, h⟩
        · obtain rfl := Option.some.inj h
          exact kq4
        · obtain rfl := Option.some.inj h
          exact kq4
  · obtain rfl := Option.some.inj h
    exact kq1
set_option maxHeartbeats 4000000 in
theorem w_fX1_winsWhateverIsShut_L2 {rc : Nat → Int → Int → Int → SS → Option (Bool × SS)} {l1 : Int} {l2 : Int} {a : Nat} (hrc : ∀ x0 x1 x2 x3 x4 rr, rc x0 x1 x2 x3 x4 = some rr → rr.2 a = x4 a) (ha : (a < 31 ∨ 33 < a) ∧ a ≠ 56) : ∀ n l3 S rr, fX1_winsWhateverIsShut_L2 rc l1 l2 n l3 S = some rr → rr.2 a = S a := by
  intro n
  induction n with
  | zero => intro l3 S rr h; cases h
  | succ n ih =>
    intro l3 S rr h
    unfold fX1_winsWhateverIsShut_L2 at h
    rcases ite_e h with ⟨_, h⟩ | ⟨_, h⟩
    · obtain rfl := Option.some.inj h
      exact rfl
    · obtain ⟨q1, hq1, h⟩ := bnd_e h
      rcases ite_e h with ⟨_, h⟩ | ⟨_, h⟩
      · obtain ⟨x2, hx2, h⟩ := lt_e h
        exact (ih _ _ _ h).trans rfl
      · obtain ⟨q3, hq3, h⟩ := bnd_e h
        have kq3 : q3 a = S a := (w_fX6_setSign hq3 (by omega)).trans rfl
        obtain ⟨q4, hq4, h⟩ := bnd_e h
        have kq4 : q4.2 a = S a := (hrc _ _ _ _ _ _ hq4).trans kq3
        obtain ⟨q5, hq5, h⟩ := bnd_e h
        have kq5 : q5 a = S a := (w_fX6_setSign hq5 (by omega)).trans kq4
        rcases ite_e h with ⟨_, h⟩ | ⟨_, h⟩
        · obtain ⟨x6, hx6, h⟩ := lt_e h
          exact (ih _ _ _ h).trans kq5
        · obtain rfl := Option.some.inj h
          exact kq5
set_option maxHeartbeats 4000000 in
theorem w_fX1_winsWhateverIsShut {rc : Nat → Int → Int → Int → SS → Option (Bool × SS)} {p1 : Int} {p2 : Int} {S : SS} {rr : Bool × SS} {a : Nat} (hrc : ∀ x0 x1 x2 x3 x4 rr, rc x0 x1 x2 x3 x4 = some rr → rr.2 a = x4 a) (h : fX1_winsWhateverIsShut rc p1 p2 S = some rr) (ha : (a < 31 ∨ 33 < a) ∧ a ≠ 56) : rr.2 a = S a := by
  unfold fX1_winsWhateverIsShut at h
  obtain ⟨q1, hq1, h⟩ := bnd_e h
  have kq1 : q1.2 a = S a := (w_fX1_winsWhateverIsShut_L2 hrc (by omega) _ _ _ _ hq1).trans rfl
  rcases ite_e h with ⟨_, h⟩ | ⟨_, h⟩
  · obtain rfl := Option.some.inj h
    exact kq1
  · obtain ⟨q3, hq3, h⟩ := bnd_e h
    have kq3 : q3.2 a = S a := (hrc _ _ _ _ _ _ hq3).trans kq1
    obtain rfl := Option.some.inj h
    exact kq3
theorem w_fGX1_wins {a : Nat} (ha : (a < 31 ∨ 33 < a) ∧ a ≠ 56) : ∀ n x0 x1 x2 x3 x4 rr, fGX1_wins n x0 x1 x2 x3 x4 = some rr → rr.2 a = x4 a := by
  intro n
  induction n with
  | zero => intro x0 x1 x2 x3 x4 rr h; cases h
  | succ n ih =>
    intro x0 x1 x2 x3 x4 rr h
    unfold fGX1_wins at h
    rcases ite_e h with ⟨_, h⟩ | ⟨_, h⟩
    · exact w_fX1_wins ih h ha
    rcases ite_e h with ⟨_, h⟩ | ⟨_, h⟩
    · exact w_fX1_winsBy ih h ha
    exact w_fX1_winsWhateverIsShut ih h ha
theorem w_gX1_wins {p1 : Int} {p2 : Int} {S : SS} {rr : Bool × SS} (h : gX1_wins p1 p2 S = some rr) {a : Nat} (ha : (a < 31 ∨ 33 < a) ∧ a ≠ 56) : rr.2 a = S a := w_fGX1_wins ha _ _ _ _ _ _ _ h
theorem w_gX1_winsBy {p1 : Int} {p2 : Int} {p3 : Int} {S : SS} {rr : Bool × SS} (h : gX1_winsBy p1 p2 p3 S = some rr) {a : Nat} (ha : (a < 31 ∨ 33 < a) ∧ a ≠ 56) : rr.2 a = S a := w_fGX1_wins ha _ _ _ _ _ _ _ h
theorem w_gX1_winsWhateverIsShut {p1 : Int} {p2 : Int} {S : SS} {rr : Bool × SS} (h : gX1_winsWhateverIsShut p1 p2 S = some rr) {a : Nat} (ha : (a < 31 ∨ 33 < a) ∧ a ≠ 56) : rr.2 a = S a := w_fGX1_wins ha _ _ _ _ _ _ _ h
set_option maxHeartbeats 4000000 in
theorem w_fX1_fewestTurns_L2  {a : Nat} (ha : (a < 31 ∨ 33 < a) ∧ a ≠ 56) : ∀ n l1 S rr, fX1_fewestTurns_L2  n l1 S = some rr → rr.2.2 a = S a := by
  intro n
  induction n with
  | zero => intro l1 S rr h; cases h
  | succ n ih =>
    intro l1 S rr h
    unfold fX1_fewestTurns_L2 at h
    rcases ite_e h with ⟨_, h⟩ | ⟨_, h⟩
    · obtain rfl := Option.some.inj h
      exact rfl
    · obtain ⟨q1, hq1, h⟩ := bnd_e h
      obtain ⟨q2, hq2, h⟩ := bnd_e h
      have kq2 : q2.2 a = S a := (w_gX1_wins hq2 (by omega)).trans rfl
      rcases ite_e h with ⟨_, h⟩ | ⟨_, h⟩
      · obtain rfl := Option.some.inj h
        exact kq2
      · obtain ⟨x3, hx3, h⟩ := lt_e h
        exact (ih _ _ _ h).trans kq2
set_option maxHeartbeats 4000000 in
theorem w_fX1_fewestTurns {S : SS} {rr : Int × SS} (h : fX1_fewestTurns S = some rr) {a : Nat} (ha : (a < 31 ∨ 33 < a) ∧ a ≠ 56) : rr.2 a = S a := by
  unfold fX1_fewestTurns at h
  obtain ⟨q1, hq1, h⟩ := bnd_e h
  have kq1 : q1.2.2 a = S a := (w_fX1_fewestTurns_L2 (by omega) _ _ _ _ hq1).trans rfl
  rcases ite_e h with ⟨_, h⟩ | ⟨_, h⟩
  · obtain rfl := Option.some.inj h
    exact kq1
  · obtain rfl := Option.some.inj h
    exact kq1
set_option maxHeartbeats 4000000 in
theorem w_fX11_forces {p1 : Int} {p2 : Int} {S : SS} {rr : Int × SS} (h : fX11_forces p1 p2 S = some rr) {a : Nat} (ha : (a < 30 ∨ 33 < a) ∧ (a < 54 ∨ 58 < a)) : rr.2 a = S a := by
  unfold fX11_forces at h
  obtain ⟨q1, hq1, h⟩ := bnd_e h
  rcases ite_e h with ⟨_, h⟩ | ⟨_, h⟩
  · obtain ⟨q2, hq2, h⟩ := bnd_e h
    rcases ite_e h with ⟨_, h⟩ | ⟨_, h⟩
    · obtain ⟨q3, hq3, h⟩ := bnd_e h
      have kq3 : q3 a = S a := (w_fX1_begin hq3 (by omega)).trans rfl
      obtain ⟨q4, hq4, h⟩ := bnd_e h
      have kq4 : q4.2 a = S a := (w_fX1_fewestTurns hq4 (by omega)).trans kq3
      obtain rfl := Option.some.inj h
      exact kq4
    · obtain rfl := Option.some.inj h
      exact rfl
  · obtain rfl := Option.some.inj h
    exact rfl
set_option maxHeartbeats 4000000 in
theorem w_fX1_firstStreet_L26 {l1 : Int} {l2 : Int} {a : Nat} (ha : (a < 31 ∨ 33 < a) ∧ a ≠ 56) : ∀ n l3 S rr, fX1_firstStreet_L26 l1 l2 n l3 S = some rr → rr.2.2 a = S a := by
  intro n
  induction n with
  | zero => intro l3 S rr h; cases h
  | succ n ih =>
    intro l3 S rr h
    unfold fX1_firstStreet_L26 at h
    rcases ite_e h with ⟨_, h⟩ | ⟨_, h⟩
    · obtain rfl := Option.some.inj h
      exact rfl
    · obtain ⟨q1, hq1, h⟩ := bnd_e h
      have kq1 : q1.2 a = S a := (w_gX1_winsBy hq1 (by omega)).trans rfl
      rcases ite_e h with ⟨_, h⟩ | ⟨_, h⟩
      · obtain rfl := Option.some.inj h
        exact kq1
      · obtain ⟨x2, hx2, h⟩ := lt_e h
        exact (ih _ _ _ h).trans kq1
set_option maxHeartbeats 4000000 in
theorem w_fX1_firstStreet {S : SS} {rr : Int × SS} (h : fX1_firstStreet S = some rr) {a : Nat} (ha : (a < 31 ∨ 33 < a) ∧ a ≠ 56) : rr.2 a = S a := by
  unfold fX1_firstStreet at h
  obtain ⟨q1, hq1, h⟩ := bnd_e h
  have kq1 : q1.2 a = S a := (w_fX1_fewestTurns hq1 (by omega)).trans rfl
  rcases ite_e h with ⟨_, h⟩ | ⟨_, h⟩
  · obtain ⟨q2, hq2, h⟩ := bnd_e h
    obtain ⟨q3, hq3, h⟩ := bnd_e h
    have kq3 : q3.2.2 a = S a := (w_fX1_firstStreet_L26 (by omega) _ _ _ _ hq3).trans kq1
    rcases ite_e h with ⟨_, h⟩ | ⟨_, h⟩
    · obtain rfl := Option.some.inj h
      exact kq3
    · obtain ⟨q5, hq5, h⟩ := bnd_e h
      have kq5 : q5.2 a = S a := (w_gX1_winsBy hq5 (by omega)).trans kq3
      rcases ite_e h with ⟨_, h⟩ | ⟨_, h⟩
      · obtain rfl := Option.some.inj h
        exact kq5
      · obtain rfl := Option.some.inj h
        exact kq5
  · obtain rfl := Option.some.inj h
    exact kq1
set_option maxHeartbeats 4000000 in
theorem w_fX11_best {p1 : Int} {p2 : Int} {S : SS} {rr : Int × SS} (h : fX11_best p1 p2 S = some rr) {a : Nat} (ha : (a < 30 ∨ 33 < a) ∧ (a < 54 ∨ 58 < a)) : rr.2 a = S a := by
  unfold fX11_best at h
  obtain ⟨q1, hq1, h⟩ := bnd_e h
  rcases ite_e h with ⟨_, h⟩ | ⟨_, h⟩
  · obtain ⟨q2, hq2, h⟩ := bnd_e h
    rcases ite_e h with ⟨_, h⟩ | ⟨_, h⟩
    · obtain ⟨q3, hq3, h⟩ := bnd_e h
      have kq3 : q3 a = S a := (w_fX1_begin hq3 (by omega)).trans rfl
      obtain ⟨q4, hq4, h⟩ := bnd_e h
      have kq4 : q4.2 a = S a := (w_fX1_firstStreet hq4 (by omega)).trans kq3
      obtain rfl := Option.some.inj h
      exact kq4
    · obtain rfl := Option.some.inj h
      exact rfl
  · obtain rfl := Option.some.inj h
    exact rfl
set_option maxHeartbeats 4000000 in
theorem w_fX11_chance {p1 : Int} {p2 : Int} {p3 : Int} {p4 : Int} {S : SS} {rr : Int × SS} (h : fX11_chance p1 p2 p3 p4 S = some rr) {a : Nat} (ha : (a < 30 ∨ 33 < a) ∧ (a < 51 ∨ 53 < a)) : rr.2 a = S a := by
  unfold fX11_chance at h
  obtain ⟨q1, hq1, h⟩ := bnd_e h
  rcases ite_e h with ⟨_, h⟩ | ⟨_, h⟩
  · obtain ⟨q2, hq2, h⟩ := bnd_e h
    rcases ite_e h with ⟨_, h⟩ | ⟨_, h⟩
    · rcases ite_e h with ⟨_, h⟩ | ⟨_, h⟩
      · obtain rfl := Option.some.inj h
        exact rfl
      · rcases ite_e h with ⟨_, h⟩ | ⟨_, h⟩
        · rcases ite_e h with ⟨_, h⟩ | ⟨_, h⟩
          · obtain rfl := Option.some.inj h
            exact rfl
          · rcases ite_e h with ⟨_, h⟩ | ⟨_, h⟩
            · obtain ⟨q3, hq3, h⟩ := bnd_e h
              obtain ⟨q4, hq4, h⟩ := bnd_e h
              have kq4 : q4 a = S a := (w_fX7_countWays hq4 (by omega)).trans rfl
              obtain ⟨q5, hq5, h⟩ := bnd_e h
              obtain ⟨q6, hq6, h⟩ := bnd_e h
              obtain rfl := Option.some.inj h
              exact kq4
            · obtain rfl := Option.some.inj h
              exact rfl
        · obtain rfl := Option.some.inj h
          exact rfl
    · obtain rfl := Option.some.inj h
      exact rfl
  · obtain rfl := Option.some.inj h
    exact rfl
set_option maxHeartbeats 4000000 in
theorem w_fX11_mean {p1 : Int} {p2 : Int} {p3 : Int} {S : SS} {rr : Int × SS} (h : fX11_mean p1 p2 p3 S = some rr) {a : Nat} (ha : (a < 30 ∨ 33 < a) ∧ (a < 51 ∨ 53 < a)) : rr.2 a = S a := by
  unfold fX11_mean at h
  obtain ⟨q1, hq1, h⟩ := bnd_e h
  rcases ite_e h with ⟨_, h⟩ | ⟨_, h⟩
  · rcases ite_e h with ⟨_, h⟩ | ⟨_, h⟩
    · obtain rfl := Option.some.inj h
      exact rfl
    · rcases ite_e h with ⟨_, h⟩ | ⟨_, h⟩
      · rcases ite_e h with ⟨_, h⟩ | ⟨_, h⟩
        · obtain rfl := Option.some.inj h
          exact rfl
        · rcases ite_e h with ⟨_, h⟩ | ⟨_, h⟩
          · obtain ⟨q2, hq2, h⟩ := bnd_e h
            obtain ⟨q3, hq3, h⟩ := bnd_e h
            have kq3 : q3 a = S a := (w_fX7_countWays hq3 (by omega)).trans rfl
            obtain ⟨q4, hq4, h⟩ := bnd_e h
            obtain ⟨q5, hq5, h⟩ := bnd_e h
            obtain rfl := Option.some.inj h
            exact kq3
          · obtain rfl := Option.some.inj h
            exact rfl
      · obtain rfl := Option.some.inj h
        exact rfl
  · obtain rfl := Option.some.inj h
    exact rfl
set_option maxHeartbeats 4000000 in
theorem w_fX11_likeliest {p1 : Int} {p2 : Int} {S : SS} {rr : Int × SS} (h : fX11_likeliest p1 p2 S = some rr) {a : Nat} (ha : (a < 30 ∨ 33 < a) ∧ (a < 51 ∨ 53 < a)) : rr.2 a = S a := by
  unfold fX11_likeliest at h
  obtain ⟨q1, hq1, h⟩ := bnd_e h
  rcases ite_e h with ⟨_, h⟩ | ⟨_, h⟩
  · rcases ite_e h with ⟨_, h⟩ | ⟨_, h⟩
    · obtain rfl := Option.some.inj h
      exact rfl
    · rcases ite_e h with ⟨_, h⟩ | ⟨_, h⟩
      · obtain ⟨q2, hq2, h⟩ := bnd_e h
        obtain ⟨q3, hq3, h⟩ := bnd_e h
        have kq3 : q3 a = S a := (w_fX7_countWays hq3 (by omega)).trans rfl
        obtain ⟨q4, hq4, h⟩ := bnd_e h
        obtain rfl := Option.some.inj h
        exact kq3
      · obtain rfl := Option.some.inj h
        exact rfl
  · obtain rfl := Option.some.inj h
    exact rfl
set_option maxHeartbeats 4000000 in
theorem w_fJ7_fill_d0a16_40_L6 {l0 : Nat} {l1 : Int} {l4 : Int} {a : Nat} (ha : a ≠ l0) : ∀ n l3 S rr, fJ7_fill_d0a16_40_L6 l0 l1 l4 n l3 S = some rr → rr a = S a := by
  intro n
  induction n with
  | zero => intro l3 S rr h; cases h
  | succ n ih =>
    intro l3 S rr h
    unfold fJ7_fill_d0a16_40_L6 at h
    rcases ite_e h with ⟨_, h⟩ | ⟨_, h⟩
    · obtain rfl := Option.some.inj h
      exact rfl
    · obtain ⟨S1, hS1, _, h⟩ := wrA_e h
      have kS1 : S1 a = S a := by rw [hS1]; exact ((up_row (by omega)).trans rfl)
      obtain ⟨x3, hx3, h⟩ := lt_e h
      exact (ih _ _ _ h).trans kS1
set_option maxHeartbeats 4000000 in
theorem w_fJ7_fill_d0a16_40 {p0 : Nat} {p1 : Int} {S : SS} {rr : SS} (h : fJ7_fill_d0a16_40 p0 p1 S = some rr) {a : Nat} (ha : a ≠ p0) : rr a = S a := by
  unfold fJ7_fill_d0a16_40 at h
  obtain ⟨q1, hq1, h⟩ := bnd_e h
  have kq1 : q1 a = S a := (w_fJ7_fill_d0a16_40_L6 (by omega) _ _ _ _ hq1).trans rfl
  obtain rfl := Option.some.inj h
  exact kq1
set_option maxHeartbeats 4000000 in
theorem w_fX9_begin {t : Nat} {p1 : Int} {p2 : Int} {S : SS} {rr : SS} (h : fX9_begin t p1 p2 S = some rr) {a : Nat} (ha : a ≠ t ∧ a ≠ t + 1) : rr a = S a := by
  unfold fX9_begin at h
  obtain ⟨q1, hq1, h⟩ := bnd_e h
  have kq1 : q1 a = S a := (w_fJ7_fill_d0a16_40 hq1 (by omega)).trans rfl
  obtain ⟨S2, hS2, h⟩ := lt_e h
  have kS2 : S2 a = S a := by rw [hS2]; exact ((up_row (by omega)).trans kq1)
  obtain ⟨S3, hS3, h⟩ := lt_e h
  have kS3 : S3 a = S a := by rw [hS3]; exact ((up_row (by omega)).trans kS2)
  obtain rfl := Option.some.inj h
  exact kS3
set_option maxHeartbeats 4000000 in
theorem w_fX11_numbers {p1 : Int} {p2 : Int} {p3 : Int} {S : SS} {rr : Int × SS} (h : fX11_numbers p1 p2 p3 S = some rr) {a : Nat} (ha : (a < 104 ∨ 111 < a)) : rr.2 a = S a := by
  unfold fX11_numbers at h
  obtain ⟨q1, hq1, h⟩ := bnd_e h
  have rq1 := rg_fX11_trayAt hq1
  rcases ite_e h with ⟨_, h⟩ | ⟨_, h⟩
  · obtain rfl := Option.some.inj h
    exact rfl
  · rcases ite_e h with ⟨_, h⟩ | ⟨_, h⟩
    · obtain rfl := Option.some.inj h
      exact rfl
    · rcases ite_e h with ⟨_, h⟩ | ⟨_, h⟩
      · rcases ite_e h with ⟨_, h⟩ | ⟨_, h⟩
        · obtain rfl := Option.some.inj h
          exact rfl
        · rcases ite_e h with ⟨_, h⟩ | ⟨_, h⟩
          · obtain ⟨hg, h⟩ := gsh_e h
            have hg0 := sh_n0 hg (by decide)
            obtain ⟨q3, hq3, h⟩ := bnd_e h
            have kq3 : q3 a = S a := (w_fX9_begin hq3 (by omega)).trans rfl
            obtain rfl := Option.some.inj h
            exact kq3
          · obtain rfl := Option.some.inj h
            exact rfl
      · obtain rfl := Option.some.inj h
        exact rfl
set_option maxHeartbeats 4000000 in
theorem w_fX9_set {t : Nat} {p1 : Int} {p2 : Int} {S : SS} {rr : SS} (h : fX9_set t p1 p2 S = some rr) {a : Nat} (ha : a ≠ t + 1) : rr a = S a := by
  unfold fX9_set at h
  obtain ⟨q1, hq1, h⟩ := bnd_e h
  rcases ite_e h with ⟨_, h⟩ | ⟨_, h⟩
  · obtain ⟨q2, hq2, h⟩ := bnd_e h
    obtain ⟨S3, hS3, _, h⟩ := wrA_e h
    have kS3 : S3 a = S a := by rw [hS3]; exact ((up_row (by omega)).trans rfl)
    obtain rfl := Option.some.inj h
    exact kS3
  · obtain rfl := Option.some.inj h
    exact rfl
set_option maxHeartbeats 4000000 in
theorem w_fX11_write {p1 : Int} {p2 : Int} {p3 : Int} {S : SS} {rr : Int × SS} (h : fX11_write p1 p2 p3 S = some rr) {a : Nat} (ha : (a < 105 ∨ 111 < a)) : rr.2 a = S a := by
  unfold fX11_write at h
  obtain ⟨q1, hq1, h⟩ := bnd_e h
  have rq1 := rg_fX11_trayAt hq1
  rcases ite_e h with ⟨_, h⟩ | ⟨_, h⟩
  · obtain rfl := Option.some.inj h
    exact rfl
  · obtain ⟨hg, h⟩ := gsh_e h
    have hg0 := sh_n0 hg (by decide)
    obtain ⟨q3, hq3, h⟩ := bnd_e h
    rcases ite_e h with ⟨_, h⟩ | ⟨_, h⟩
    · obtain rfl := Option.some.inj h
      exact rfl
    · obtain ⟨q4, hq4, h⟩ := bnd_e h
      rcases ite_e h with ⟨_, h⟩ | ⟨_, h⟩
      · obtain ⟨q5, hq5, h⟩ := bnd_e h
        have kq5 : q5 a = S a := (w_fX9_set hq5 (by omega)).trans rfl
        obtain ⟨q6, hq6, h⟩ := bnd_e h
        obtain rfl := Option.some.inj h
        exact kq5
      · obtain rfl := Option.some.inj h
        exact rfl
set_option maxHeartbeats 4000000 in
theorem w_fX11_lists_L111 {l5 : Nat} {l7 : Int} {l8 : Int} {a : Nat} (ha : a ≠ l5 + 1) : ∀ n l9 S rr, fX11_lists_L111 l5 l7 l8 n l9 S = some rr → rr a = S a := by
  intro n
  induction n with
  | zero => intro l9 S rr h; cases h
  | succ n ih =>
    intro l9 S rr h
    unfold fX11_lists_L111 at h
    rcases ite_e h with ⟨_, h⟩ | ⟨_, h⟩
    · obtain rfl := Option.some.inj h
      exact rfl
    · obtain ⟨q1, hq1, h⟩ := bnd_e h
      obtain ⟨q2, hq2, h⟩ := bnd_e h
      have kq2 : q2 a = S a := (w_fX9_set hq2 (by omega)).trans rfl
      obtain ⟨x3, hx3, h⟩ := lt_e h
      exact (ih _ _ _ h).trans kq2
set_option maxHeartbeats 4000000 in
theorem w_fX11_lists {p1 : Int} {p2 : Int} {p3 : Int} {p4 : Int} {S : SS} {rr : Int × SS} (h : fX11_lists p1 p2 p3 p4 S = some rr) {a : Nat} (ha : (a < 30 ∨ 33 < a) ∧ (a < 35 ∨ 40 < a) ∧ (a < 105 ∨ 111 < a)) : rr.2 a = S a := by
  unfold fX11_lists at h
  obtain ⟨q1, hq1, h⟩ := bnd_e h
  have rq1 := rg_fX11_trayAt hq1
  rcases ite_e h with ⟨_, h⟩ | ⟨_, h⟩
  · obtain rfl := Option.some.inj h
    exact rfl
  · obtain ⟨q2, hq2, h⟩ := bnd_e h
    rcases ite_e h with ⟨_, h⟩ | ⟨_, h⟩
    · obtain ⟨q3, hq3, h⟩ := bnd_e h
      rcases ite_e h with ⟨_, h⟩ | ⟨_, h⟩
      · obtain ⟨hg, h⟩ := gsh_e h
        have hg0 := sh_n0 hg (by decide)
        obtain ⟨q5, hq5, h⟩ := bnd_e h
        rcases ite_e h with ⟨_, h⟩ | ⟨_, h⟩
        · obtain rfl := Option.some.inj h
          exact rfl
        · obtain ⟨q6, hq6, h⟩ := bnd_e h
          rcases ite_e h with ⟨_, h⟩ | ⟨_, h⟩
          · obtain ⟨q7, hq7, h⟩ := bnd_e h
            have kq7 : q7.2 a = S a := (w_fX11_comesTo hq7 (by omega)).trans rfl
            rcases ite_e h with ⟨_, h⟩ | ⟨_, h⟩
            · obtain rfl := Option.some.inj h
              exact kq7
            · obtain ⟨q8, hq8, h⟩ := bnd_e h
              obtain ⟨x9, hx9, h⟩ := lt_e h
              obtain ⟨q10, hq10, h⟩ := bnd_e h
              have kq10 : q10 a = S a := (w_fX11_lists_L111 (by omega) _ _ _ _ hq10).trans kq7
              obtain rfl := Option.some.inj h
              exact kq10
          · obtain rfl := Option.some.inj h
            exact rfl
      · obtain rfl := Option.some.inj h
        exact rfl
    · obtain rfl := Option.some.inj h
      exact rfl
theorem rg_fX11_imageAt {p1 : Int} {S : SS} {rr : Nat} (h : fX11_imageAt p1 S = some rr) : rr = 0 ∨ (112 ≤ rr ∧ rr ≤ 121) := by
  unfold fX11_imageAt at h
  rcases ite_e h with ⟨_, h⟩ | ⟨_, h⟩
  · cases h; exact Or.inl rfl
  rcases ite_e h with ⟨_, h⟩ | ⟨_, h⟩
  · cases h; exact Or.inl rfl
  obtain ⟨v, hv, gv, h⟩ := rdR_e h
  have := rgR_102 hv gv.1 gv.2
  cases h; exact Or.inr this
set_option maxHeartbeats 4000000 in
theorem w_fX11_image {p1 : Int} {S : SS} {rr : Int × SS} (h : fX11_image p1 S = some rr) {a : Nat} (ha : a ≠ 1 ∧ (a < 112 ∨ 129 < a)) : rr.2 a = S a := by
  unfold fX11_image at h
  obtain ⟨q1, hq1, h⟩ := bnd_e h
  have rq1 := rg_fX11_imageAt hq1
  rcases ite_e h with ⟨_, h⟩ | ⟨_, h⟩
  · obtain rfl := Option.some.inj h
    exact rfl
  · obtain ⟨hg, h⟩ := gsh_e h
    have hg0 := sh_n0 hg (by decide)
    obtain ⟨q3, hq3, h⟩ := bnd_e h
    have kq3 : q3 a = S a := (w_fX8_copyOf hq3 (by omega)).trans rfl
    obtain ⟨S4, hS4, h⟩ := lt_e h
    have kS4 : S4 a = S a := by rw [hS4]; exact ((up_row (by omega)).trans kq3)
    obtain rfl := Option.some.inj h
    exact kS4
set_option maxHeartbeats 4000000 in
theorem w_fX11_restore {p1 : Int} {S : SS} {rr : Int × SS} (h : fX11_restore p1 S = some rr) {a : Nat} (ha : (a < 2 ∨ 10 < a) ∧ a ≠ 30 ∧ a ≠ 59) : rr.2 a = S a := by
  unfold fX11_restore at h
  obtain ⟨q1, hq1, h⟩ := bnd_e h
  have rq1 := rg_fX11_imageAt hq1
  rcases ite_e h with ⟨_, h⟩ | ⟨_, h⟩
  · obtain rfl := Option.some.inj h
    exact rfl
  · rcases ite_e h with ⟨_, h⟩ | ⟨_, h⟩
    · obtain rfl := Option.some.inj h
      exact rfl
    · obtain ⟨hg, h⟩ := gsh_e h
      have hg0 := sh_n0 hg (by decide)
      obtain ⟨q3, hq3, h⟩ := bnd_e h
      have kq3 : q3 a = S a := (w_fX11_becomes hq3 (by omega)).trans rfl
      obtain rfl := Option.some.inj h
      exact kq3
set_option maxHeartbeats 4000000 in
theorem w_fX12_feed_L24 {l1 : Int} {l2 : Int} {l3 : Int} {l4 : Int} {l5 : Int} {a : Nat} (ha : a ≠ 130 ∧ a ≠ 133) : ∀ n l6 S rr, fX12_feed_L24 l1 l2 l3 l4 l5 n l6 S = some rr → rr a = S a := by
  intro n
  induction n with
  | zero => intro l6 S rr h; cases h
  | succ n ih =>
    intro l6 S rr h
    unfold fX12_feed_L24 at h
    rcases ite_e h with ⟨_, h⟩ | ⟨_, h⟩
    · obtain rfl := Option.some.inj h
      exact rfl
    · obtain ⟨q1, hq1, h⟩ := bnd_e h
      obtain ⟨S6, hS6, _, h⟩ := wrA_e h
      have kS6 : S6 a = S a := by rw [hS6]; exact ((up_row (by omega)).trans rfl)
      obtain ⟨S8, hS8, h⟩ := lt_e h
      have kS8 : S8 a = S a := by rw [hS8]; exact ((up_row (by omega)).trans kS6)
      obtain ⟨x9, hx9, h⟩ := lt_e h
      exact (ih _ _ _ h).trans kS8
set_option maxHeartbeats 4000000 in
theorem w_fX12_feed {p1 : Int} {p2 : Int} {p3 : Int} {p4 : Int} {p5 : Int} {S : SS} {rr : Int × SS} (h : fX12_feed p1 p2 p3 p4 p5 S = some rr) {a : Nat} (ha : a ≠ 130 ∧ a ≠ 133) : rr.2 a = S a := by
  unfold fX12_feed at h
  obtain ⟨S1, hS1, h⟩ := lt_e h
  have kS1 : S1 a = S a := by rw [hS1]; exact ((up_row (by omega)).trans rfl)
  rcases ite_e h with ⟨_, h⟩ | ⟨_, h⟩
  · obtain ⟨q2, hq2, h⟩ := bnd_e h
    have kq2 : q2 a = S a := (w_fX12_feed_L24 (by omega) _ _ _ _ hq2).trans kS1
    obtain rfl := Option.some.inj h
    exact kq2
  · obtain rfl := Option.some.inj h
    exact kS1
set_option maxHeartbeats 4000000 in
theorem w_fX12_fails {p1 : Int} {S : SS} {rr : SS} (h : fX12_fails p1 S = some rr) {a : Nat} (ha : a ≠ 130) : rr a = S a := by
  unfold fX12_fails at h
  rcases ite_e h with ⟨_, h⟩ | ⟨_, h⟩
  · obtain ⟨q1, hq1, h⟩ := bnd_e h
    obtain ⟨S3, hS3, h⟩ := lt_e h
    have kS3 : S3 a = S a := by rw [hS3]; exact ((up_row (by omega)).trans rfl)
    obtain ⟨S4, hS4, h⟩ := lt_e h
    have kS4 : S4 a = S a := by rw [hS4]; exact ((up_row (by omega)).trans kS3)
    obtain rfl := Option.some.inj h
    exact kS4
  · obtain rfl := Option.some.inj h
    exact rfl
set_option maxHeartbeats 4000000 in
theorem w_fX12_codes {p1 : Int} {S : SS} {rr : SS} (h : fX12_codes p1 S = some rr) {a : Nat} (ha : a ≠ 134) : rr a = S a := by
  unfold fX12_codes at h
  rcases ite_e h with ⟨_, h⟩ | ⟨_, h⟩
  · obtain ⟨v1, _, _, h⟩ := rdA_e h
    obtain ⟨S3, hS3, _, h⟩ := wrA_e h
    have kS3 : S3 a = S a := by rw [hS3]; exact ((up_row (by omega)).trans rfl)
    obtain ⟨v5, _, _, h⟩ := rdA_e h
    obtain ⟨S7, hS7, _, h⟩ := wrA_e h
    have kS7 : S7 a = S a := by rw [hS7]; exact ((up_row (by omega)).trans kS3)
    obtain rfl := Option.some.inj h
    exact kS7
  · obtain rfl := Option.some.inj h
    exact rfl
set_option maxHeartbeats 4000000 in
theorem w_fX12_plain_1101_L2 {l0 : Nat} {a : Nat} (ha : a ≠ l0) : ∀ n l1 S rr, fX12_plain_1101_L2 l0 n l1 S = some rr → rr a = S a := by
  intro n
  induction n with
  | zero => intro l1 S rr h; cases h
  | succ n ih =>
    intro l1 S rr h
    unfold fX12_plain_1101_L2 at h
    rcases ite_e h with ⟨_, h⟩ | ⟨_, h⟩
    · obtain rfl := Option.some.inj h
      exact rfl
    · obtain ⟨S1, hS1, _, h⟩ := wrA_e h
      have kS1 : S1 a = S a := by rw [hS1]; exact ((up_row (by omega)).trans rfl)
      obtain ⟨x3, hx3, h⟩ := lt_e h
      exact (ih _ _ _ h).trans kS1
set_option maxHeartbeats 4000000 in
theorem w_fX12_plain_1101 {p0 : Nat} {S : SS} {rr : SS} (h : fX12_plain_1101 p0 S = some rr) {a : Nat} (ha : a ≠ p0) : rr a = S a := by
  unfold fX12_plain_1101 at h
  obtain ⟨q1, hq1, h⟩ := bnd_e h
  have kq1 : q1 a = S a := (w_fX12_plain_1101_L2 (by omega) _ _ _ _ hq1).trans rfl
  obtain ⟨S3, hS3, _, h⟩ := wrA_e h
  have kS3 : S3 a = S a := by rw [hS3]; exact ((up_row (by omega)).trans kq1)
  obtain rfl := Option.some.inj h
  exact kS3
set_option maxHeartbeats 4000000 in
theorem w_fX12_fault {p1 : Int} {S : SS} {rr : Int × SS} (h : fX12_fault p1 S = some rr) {a : Nat} (ha : a ≠ 130) : rr.2 a = S a := by
  unfold fX12_fault at h
  obtain ⟨S1, hS1, h⟩ := lt_e h
  have kS1 : S1 a = S a := by rw [hS1]; exact ((up_row (by omega)).trans rfl)
  rcases ite_e h with ⟨_, h⟩ | ⟨_, h⟩
  · obtain rfl := Option.some.inj h
    exact kS1
  · rcases ite_e h with ⟨_, h⟩ | ⟨_, h⟩
    · obtain rfl := Option.some.inj h
      exact kS1
    · obtain rfl := Option.some.inj h
      exact kS1
set_option maxHeartbeats 4000000 in
theorem w_fX12_reckons_L64 {l1 : Int} {a : Nat} (ha : a ≠ 135) : ∀ n l6 l7 S rr, fX12_reckons_L64 l1 n l6 l7 S = some rr → rr a = S a := by
  intro n
  induction n with
  | zero => intro l6 l7 S rr h; cases h
  | succ n ih =>
    intro l6 l7 S rr h
    unfold fX12_reckons_L64 at h
    obtain ⟨v1, _, _, h⟩ := rdA_e h
    rcases ite_e h with ⟨_, h⟩ | ⟨_, h⟩
    · obtain rfl := Option.some.inj h
      exact rfl
    · obtain ⟨v3, _, _, h⟩ := rdA_e h
      obtain ⟨v5, _, _, h⟩ := rdA_e h
      obtain ⟨q7, hq7, h⟩ := bnd_e h
      have kq7 : q7.2 a = S a := by
        rcases ite_e hq7 with ⟨_, hq7⟩ | ⟨_, hq7⟩
        · rcases ite_e hq7 with ⟨_, hq7⟩ | ⟨_, hq7⟩
          · obtain ⟨v8, _, _, hq7⟩ := rdA_e hq7
            obtain ⟨S10, hS10, _, hq7⟩ := wrA_e hq7
            have kS10 : S10 a = S a := by rw [hS10]; exact ((up_row (by omega)).trans rfl)
            obtain rfl := Option.some.inj hq7
            exact kS10
          · rcases ite_e hq7 with ⟨_, hq7⟩ | ⟨_, hq7⟩
            · obtain ⟨x12, hx12, hq7⟩ := lt_e hq7
              obtain ⟨v13, _, _, hq7⟩ := rdA_e hq7
              obtain ⟨q15, hq15, hq7⟩ := bnd_e hq7
              obtain ⟨S21, hS21, _, hq7⟩ := wrA_e hq7
              have kS21 : S21 a = S a := by rw [hS21]; exact ((up_row (by omega)).trans rfl)
              obtain rfl := Option.some.inj hq7
              exact kS21
            · obtain ⟨x23, hx23, hq7⟩ := lt_e hq7
              obtain ⟨v24, _, _, hq7⟩ := rdA_e hq7
              obtain ⟨v26, _, _, hq7⟩ := rdA_e hq7
              obtain ⟨q28, hq28, hq7⟩ := bnd_e hq7
              obtain ⟨S29, hS29, _, hq7⟩ := wrA_e hq7
              have kS29 : S29 a = S a := by rw [hS29]; exact ((up_row (by omega)).trans rfl)
              obtain rfl := Option.some.inj hq7
              exact kS29
        · obtain ⟨q33, hq33, hq7⟩ := bnd_e hq7
          obtain ⟨S37, hS37, _, hq7⟩ := wrA_e hq7
          have kS37 : S37 a = S a := by rw [hS37]; exact ((up_row (by omega)).trans rfl)
          obtain ⟨x39, hx39, hq7⟩ := lt_e hq7
          obtain rfl := Option.some.inj hq7
          exact kS37
      obtain ⟨x41, hx41, h⟩ := lt_e h
      exact (ih _ _ _ _ h).trans kq7
set_option maxHeartbeats 4000000 in
theorem w_fX12_reckons {p1 : Int} {p2 : Int} {p3 : Int} {p4 : Int} {p5 : Int} {S : SS} {rr : Int × SS} (h : fX12_reckons p1 p2 p3 p4 p5 S = some rr) {a : Nat} (ha : (a < 135 ∨ 136 < a)) : rr.2 a = S a := by
  unfold fX12_reckons at h
  obtain ⟨S1, hS1, _, h⟩ := wrA_e h
  have kS1 : S1 a = S a := by rw [hS1]; exact ((up_row (by omega)).trans rfl)
  obtain ⟨v3, _, _, h⟩ := rdA_e h
  obtain ⟨S5, hS5, _, h⟩ := wrA_e h
  have kS5 : S5 a = S a := by rw [hS5]; exact ((up_row (by omega)).trans kS1)
  obtain ⟨S7, hS7, _, h⟩ := wrA_e h
  have kS7 : S7 a = S a := by rw [hS7]; exact ((up_row (by omega)).trans kS5)
  obtain ⟨S9, hS9, _, h⟩ := wrA_e h
  have kS9 : S9 a = S a := by rw [hS9]; exact ((up_row (by omega)).trans kS7)
  obtain ⟨v11, _, _, h⟩ := rdA_e h
  obtain ⟨S13, hS13, _, h⟩ := wrA_e h
  have kS13 : S13 a = S a := by rw [hS13]; exact ((up_row (by omega)).trans kS9)
  obtain ⟨S15, hS15, _, h⟩ := wrA_e h
  have kS15 : S15 a = S a := by rw [hS15]; exact ((up_row (by omega)).trans kS13)
  obtain ⟨q17, hq17, h⟩ := bnd_e h
  have kq17 : q17 a = S a := (w_fX12_reckons_L64 (by omega) _ _ _ _ _ hq17).trans kS15
  obtain ⟨v19, _, _, h⟩ := rdA_e h
  obtain rfl := Option.some.inj h
  exact kq17
set_option maxHeartbeats 4000000 in
theorem w_fX12_yearBy {p1 : Int} {p2 : Int} {p3 : Int} {p4 : Int} {S : SS} {rr : Int × SS} (h : fX12_yearBy p1 p2 p3 p4 S = some rr) {a : Nat} (ha : (a < 135 ∨ 136 < a)) : rr.2 a = S a := by
  unfold fX12_yearBy at h
  obtain ⟨v1, _, _, h⟩ := rdA_e h
  obtain ⟨q3, hq3, h⟩ := bnd_e h
  have kq3 : q3.2 a = S a := by
    rcases ite_e hq3 with ⟨_, hq3⟩ | ⟨_, hq3⟩
    · obtain ⟨q4, hq4, hq3⟩ := bnd_e hq3
      have kq4 : q4.2 a = S a := (w_fX12_reckons hq4 (by omega)).trans rfl
      obtain rfl := Option.some.inj hq3
      exact kq4
    · rcases ite_e hq3 with ⟨_, hq3⟩ | ⟨_, hq3⟩
      · obtain ⟨v5, _, _, hq3⟩ := rdA_e hq3
        obtain rfl := Option.some.inj hq3
        exact rfl
      · obtain ⟨v7, _, _, hq3⟩ := rdA_e hq3
        obtain rfl := Option.some.inj hq3
        exact rfl
  obtain rfl := Option.some.inj h
  exact kq3
set_option maxHeartbeats 4000000 in
theorem w_fX12_whyBy {p1 : Int} {p2 : Int} {p3 : Int} {p4 : Int} {S : SS} {rr : Int × SS} (h : fX12_whyBy p1 p2 p3 p4 S = some rr) {a : Nat} (ha : (a < 135 ∨ 136 < a)) : rr.2 a = S a := by
  unfold fX12_whyBy at h
  obtain ⟨x1, hx1, h⟩ := lt_e h
  obtain ⟨v2, _, _, h⟩ := rdA_e h
  rcases ite_e h with ⟨_, h⟩ | ⟨_, h⟩
  · obtain ⟨v4, _, _, h⟩ := rdA_e h
    obtain ⟨q6, hq6, h⟩ := bnd_e h
    obtain ⟨q8, hq8, h⟩ := bnd_e h
    rcases ite_e h with ⟨_, h⟩ | ⟨_, h⟩
    · obtain ⟨v9, _, _, h⟩ := rdA_e h
      rcases ite_e h with ⟨_, h⟩ | ⟨_, h⟩
      · obtain ⟨q11, hq11, h⟩ := bnd_e h
        have kq11 : q11.2 a = S a := (w_fX12_reckons hq11 (by omega)).trans rfl
        rcases ite_e h with ⟨_, h⟩ | ⟨_, h⟩
        · obtain rfl := Option.some.inj h
          exact kq11
        · obtain ⟨q12, hq12, h⟩ := bnd_e h
          have kq12 : q12.2 a = S a := (w_fX12_yearBy hq12 (by omega)).trans kq11
          obtain ⟨q13, hq13, h⟩ := bnd_e h
          rcases ite_e h with ⟨_, h⟩ | ⟨_, h⟩
          · obtain rfl := Option.some.inj h
            exact kq12
          · obtain rfl := Option.some.inj h
            exact kq12
      · obtain ⟨q16, hq16, h⟩ := bnd_e h
        have kq16 : q16.2 a = S a := (w_fX12_yearBy hq16 (by omega)).trans rfl
        obtain ⟨q17, hq17, h⟩ := bnd_e h
        rcases ite_e h with ⟨_, h⟩ | ⟨_, h⟩
        · obtain rfl := Option.some.inj h
          exact kq16
        · obtain rfl := Option.some.inj h
          exact kq16
    · obtain rfl := Option.some.inj h
      exact rfl
  · obtain ⟨v21, _, _, h⟩ := rdA_e h
    rcases ite_e h with ⟨_, h⟩ | ⟨_, h⟩
    · obtain ⟨v23, _, _, h⟩ := rdA_e h
      obtain ⟨q25, hq25, h⟩ := bnd_e h
      obtain ⟨q27, hq27, h⟩ := bnd_e h
      rcases ite_e h with ⟨_, h⟩ | ⟨_, h⟩
      · obtain ⟨v28, _, _, h⟩ := rdA_e h
        rcases ite_e h with ⟨_, h⟩ | ⟨_, h⟩
        · obtain ⟨q30, hq30, h⟩ := bnd_e h
          have kq30 : q30.2 a = S a := (w_fX12_reckons hq30 (by omega)).trans rfl
          rcases ite_e h with ⟨_, h⟩ | ⟨_, h⟩
          · obtain rfl := Option.some.inj h
            exact kq30
          · obtain ⟨q31, hq31, h⟩ := bnd_e h
            have kq31 : q31.2 a = S a := (w_fX12_yearBy hq31 (by omega)).trans kq30
            obtain ⟨q32, hq32, h⟩ := bnd_e h
            rcases ite_e h with ⟨_, h⟩ | ⟨_, h⟩
            · obtain rfl := Option.some.inj h
              exact kq31
            · obtain rfl := Option.some.inj h
              exact kq31
        · obtain ⟨q35, hq35, h⟩ := bnd_e h
          have kq35 : q35.2 a = S a := (w_fX12_yearBy hq35 (by omega)).trans rfl
          obtain ⟨q36, hq36, h⟩ := bnd_e h
          rcases ite_e h with ⟨_, h⟩ | ⟨_, h⟩
          · obtain rfl := Option.some.inj h
            exact kq35
          · obtain rfl := Option.some.inj h
            exact kq35
      · obtain rfl := Option.some.inj h
        exact rfl
    · obtain rfl := Option.some.inj h
      exact rfl
set_option maxHeartbeats 4000000 in
theorem w_fX12_goneTo {p1 : Int} {p2 : Int} {p3 : Int} {S : SS} {rr : Int × SS} (h : fX12_goneTo p1 p2 p3 S = some rr) {a : Nat} (ha : (a < 135 ∨ 136 < a)) : rr.2 a = S a := by
  unfold fX12_goneTo at h
  obtain ⟨v1, _, _, h⟩ := rdA_e h
  obtain ⟨q3, hq3, h⟩ := bnd_e h
  obtain ⟨q5, hq5, h⟩ := bnd_e h
  obtain ⟨q11, hq11, h⟩ := bnd_e h
  have kq11 : q11.2 a = S a := (w_fX12_yearBy hq11 (by omega)).trans rfl
  obtain rfl := Option.some.inj h
  exact kq11
set_option maxHeartbeats 4000000 in
theorem w_fX12_whyGo {p1 : Int} {p3 : Int} {S : SS} {rr : Int × SS} (h : fX12_whyGo p1 p3 S = some rr) {a : Nat} (ha : (a < 135 ∨ 136 < a)) : rr.2 a = S a := by
  unfold fX12_whyGo at h
  obtain ⟨q1, hq1, h⟩ := bnd_e h
  rcases ite_e h with ⟨_, h⟩ | ⟨_, h⟩
  · obtain ⟨q2, hq2, h⟩ := bnd_e h
    rcases ite_e h with ⟨_, h⟩ | ⟨_, h⟩
    · obtain ⟨q3, hq3, h⟩ := bnd_e h
      obtain ⟨v4, _, _, h⟩ := rdA_e h
      obtain ⟨q6, hq6, h⟩ := bnd_e h
      have kq6 : q6.2 a = S a := (w_fX12_whyBy hq6 (by omega)).trans rfl
      obtain rfl := Option.some.inj h
      exact kq6
    · obtain rfl := Option.some.inj h
      exact rfl
  · obtain rfl := Option.some.inj h
    exact rfl
set_option maxHeartbeats 4000000 in
theorem w_fX12_street {p1 : Int} {p2 : Int} {S : SS} {rr : Int × SS} (h : fX12_street p1 p2 S = some rr) {a : Nat} (ha : a ≠ 130) : rr.2 a = S a := by
  unfold fX12_street at h
  obtain ⟨S1, hS1, h⟩ := lt_e h
  have kS1 : S1 a = S a := by rw [hS1]; exact ((up_row (by omega)).trans rfl)
  obtain ⟨q2, hq2, h⟩ := bnd_e h
  rcases ite_e h with ⟨_, h⟩ | ⟨_, h⟩
  · rcases ite_e h with ⟨_, h⟩ | ⟨_, h⟩
    · obtain ⟨v4, _, _, h⟩ := rdA_e h
      obtain rfl := Option.some.inj h
      exact kS1
    · rcases ite_e h with ⟨_, h⟩ | ⟨_, h⟩
      · obtain ⟨v7, _, _, h⟩ := rdA_e h
        obtain rfl := Option.some.inj h
        exact kS1
      · rcases ite_e h with ⟨_, h⟩ | ⟨_, h⟩
        · obtain ⟨v10, _, _, h⟩ := rdA_e h
          obtain rfl := Option.some.inj h
          exact kS1
        · rcases ite_e h with ⟨_, h⟩ | ⟨_, h⟩
          · obtain ⟨v13, _, _, h⟩ := rdA_e h
            obtain rfl := Option.some.inj h
            exact kS1
          · obtain rfl := Option.some.inj h
            exact kS1
  · obtain rfl := Option.some.inj h
    exact kS1
set_option maxHeartbeats 4000000 in
theorem w_fX12_goer_L63 {l1 : Int} {a : Nat} (ha : (a < 135 ∨ 136 < a)) : ∀ n l3 l4 S rr, fX12_goer_L63 l1 n l3 l4 S = some rr → rr.2 a = S a := by
  intro n
  induction n with
  | zero => intro l3 l4 S rr h; cases h
  | succ n ih =>
    intro l3 l4 S rr h
    unfold fX12_goer_L63 at h
    obtain ⟨v1, _, _, h⟩ := rdA_e h
    rcases ite_e h with ⟨_, h⟩ | ⟨_, h⟩
    · obtain rfl := Option.some.inj h
      exact rfl
    · obtain ⟨q3, hq3, h⟩ := bnd_e h
      have kq3 : q3.2 a = S a := (w_fX12_whyGo hq3 (by omega)).trans rfl
      obtain ⟨q4, hq4, h⟩ := bnd_e h
      obtain ⟨x6, hx6, h⟩ := lt_e h
      obtain ⟨x7, hx7, h⟩ := lt_e h
      exact (ih _ _ _ _ h).trans kq3
set_option maxHeartbeats 4000000 in
theorem w_fX12_goer {p1 : Int} {p2 : Int} {S : SS} {rr : Int × SS} (h : fX12_goer p1 p2 S = some rr) {a : Nat} (ha : a ≠ 130 ∧ (a < 135 ∨ 136 < a)) : rr.2 a = S a := by
  unfold fX12_goer at h
  obtain ⟨S1, hS1, h⟩ := lt_e h
  have kS1 : S1 a = S a := by rw [hS1]; exact ((up_row (by omega)).trans rfl)
  obtain ⟨q2, hq2, h⟩ := bnd_e h
  rcases ite_e h with ⟨_, h⟩ | ⟨_, h⟩
  · obtain ⟨q3, hq3, h⟩ := bnd_e h
    rcases ite_e h with ⟨_, h⟩ | ⟨_, h⟩
    · rcases ite_e h with ⟨_, h⟩ | ⟨_, h⟩
      · obtain ⟨v4, _, _, h⟩ := rdA_e h
        obtain rfl := Option.some.inj h
        exact kS1
      · rcases ite_e h with ⟨_, h⟩ | ⟨_, h⟩
        · obtain ⟨v6, _, _, h⟩ := rdA_e h
          obtain rfl := Option.some.inj h
          exact kS1
        · obtain ⟨q8, hq8, h⟩ := bnd_e h
          have kq8 : q8.2 a = S a := (w_fX12_goer_L63 (by omega) _ _ _ _ _ hq8).trans kS1
          obtain rfl := Option.some.inj h
          exact kq8
    · obtain rfl := Option.some.inj h
      exact kS1
  · obtain rfl := Option.some.inj h
    exact kS1
set_option maxHeartbeats 4000000 in
theorem w_fX12_why {p1 : Int} {p2 : Int} {S : SS} {rr : Int × SS} (h : fX12_why p1 p2 S = some rr) {a : Nat} (ha : a ≠ 130 ∧ (a < 135 ∨ 136 < a)) : rr.2 a = S a := by
  unfold fX12_why at h
  obtain ⟨S1, hS1, h⟩ := lt_e h
  have kS1 : S1 a = S a := by rw [hS1]; exact ((up_row (by omega)).trans rfl)
  obtain ⟨q2, hq2, h⟩ := bnd_e h
  have kq2 : q2.2 a = S a := (w_fX12_whyGo hq2 (by omega)).trans kS1
  obtain rfl := Option.some.inj h
  exact kq2
set_option maxHeartbeats 4000000 in
theorem w_fX12_by {p1 : Int} {p2 : Int} {p3 : Int} {S : SS} {rr : Int × SS} (h : fX12_by p1 p2 p3 S = some rr) {a : Nat} (ha : a ≠ 130 ∧ (a < 135 ∨ 136 < a)) : rr.2 a = S a := by
  unfold fX12_by at h
  obtain ⟨S1, hS1, h⟩ := lt_e h
  have kS1 : S1 a = S a := by rw [hS1]; exact ((up_row (by omega)).trans rfl)
  obtain ⟨q2, hq2, h⟩ := bnd_e h
  rcases ite_e h with ⟨_, h⟩ | ⟨_, h⟩
  · obtain ⟨q3, hq3, h⟩ := bnd_e h
    have kq3 : q3.2 a = S a := (w_fX12_whyGo hq3 (by omega)).trans kS1
    rcases ite_e h with ⟨_, h⟩ | ⟨_, h⟩
    · obtain ⟨q4, hq4, h⟩ := bnd_e h
      obtain ⟨q5, hq5, h⟩ := bnd_e h
      have kq5 : q5.2 a = S a := (w_fX12_goneTo hq5 (by omega)).trans kq3
      rcases ite_e h with ⟨_, h⟩ | ⟨_, h⟩
      · obtain rfl := Option.some.inj h
        exact kq5
      · obtain rfl := Option.some.inj h
        exact kq5
    · obtain rfl := Option.some.inj h
      exact kq3
  · obtain rfl := Option.some.inj h
    exact kS1
set_option maxHeartbeats 4000000 in
theorem w_fX12_keeps_L2  {a : Nat} (ha : a ≠ 137) : ∀ n l1 S rr, fX12_keeps_L2  n l1 S = some rr → rr a = S a := by
  intro n
  induction n with
  | zero => intro l1 S rr h; cases h
  | succ n ih =>
    intro l1 S rr h
    unfold fX12_keeps_L2 at h
    rcases ite_e h with ⟨_, h⟩ | ⟨_, h⟩
    · obtain rfl := Option.some.inj h
      exact rfl
    · obtain ⟨v1, _, _, h⟩ := rdA_e h
      obtain ⟨S3, hS3, _, h⟩ := wrA_e h
      have kS3 : S3 a = S a := by rw [hS3]; exact ((up_row (by omega)).trans rfl)
      obtain ⟨x5, hx5, h⟩ := lt_e h
      exact (ih _ _ _ h).trans kS3
set_option maxHeartbeats 4000000 in
theorem w_fX12_keeps {S : SS} {rr : SS} (h : fX12_keeps S = some rr) {a : Nat} (ha : a ≠ 137) : rr a = S a := by
  unfold fX12_keeps at h
  obtain ⟨q1, hq1, h⟩ := bnd_e h
  have kq1 : q1 a = S a := (w_fX12_keeps_L2 (by omega) _ _ _ _ hq1).trans rfl
  obtain rfl := Option.some.inj h
  exact kq1
set_option maxHeartbeats 4000000 in
theorem w_fX12_isAgain_L2  {a : Nat} (ha : a ≠ 131) : ∀ n l1 S rr, fX12_isAgain_L2  n l1 S = some rr → rr a = S a := by
  intro n
  induction n with
  | zero => intro l1 S rr h; cases h
  | succ n ih =>
    intro l1 S rr h
    unfold fX12_isAgain_L2 at h
    rcases ite_e h with ⟨_, h⟩ | ⟨_, h⟩
    · obtain rfl := Option.some.inj h
      exact rfl
    · obtain ⟨v1, _, _, h⟩ := rdA_e h
      obtain ⟨S3, hS3, _, h⟩ := wrA_e h
      have kS3 : S3 a = S a := by rw [hS3]; exact ((up_row (by omega)).trans rfl)
      obtain ⟨x5, hx5, h⟩ := lt_e h
      exact (ih _ _ _ h).trans kS3
set_option maxHeartbeats 4000000 in
theorem w_fX12_isAgain {S : SS} {rr : SS} (h : fX12_isAgain S = some rr) {a : Nat} (ha : a ≠ 131) : rr a = S a := by
  unfold fX12_isAgain at h
  obtain ⟨q1, hq1, h⟩ := bnd_e h
  have kq1 : q1 a = S a := (w_fX12_isAgain_L2 (by omega) _ _ _ _ hq1).trans rfl
  obtain rfl := Option.some.inj h
  exact kq1
set_option maxHeartbeats 4000000 in
theorem w_fX12_notes_L14  {a : Nat} (ha : a ≠ 131) : ∀ n l1 S rr, fX12_notes_L14  n l1 S = some rr → rr a = S a := by
  intro n
  induction n with
  | zero => intro l1 S rr h; cases h
  | succ n ih =>
    intro l1 S rr h
    unfold fX12_notes_L14 at h
    rcases ite_e h with ⟨_, h⟩ | ⟨_, h⟩
    · obtain rfl := Option.some.inj h
      exact rfl
    · obtain ⟨v1, _, _, h⟩ := rdA_e h
      obtain ⟨S3, hS3, _, h⟩ := wrA_e h
      have kS3 : S3 a = S a := by rw [hS3]; exact ((up_row (by omega)).trans rfl)
      obtain ⟨x5, hx5, h⟩ := lt_e h
      exact (ih _ _ _ h).trans kS3
set_option maxHeartbeats 4000000 in
theorem w_fX12_notes_L58  {a : Nat} (ha : a ≠ 131) : ∀ n l1 S rr, fX12_notes_L58  n l1 S = some rr → rr a = S a := by
  intro n
  induction n with
  | zero => intro l1 S rr h; cases h
  | succ n ih =>
    intro l1 S rr h
    unfold fX12_notes_L58 at h
    rcases ite_e h with ⟨_, h⟩ | ⟨_, h⟩
    · obtain rfl := Option.some.inj h
      exact rfl
    · obtain ⟨v1, _, _, h⟩ := rdA_e h
      obtain ⟨v3, _, _, h⟩ := rdA_e h
      obtain ⟨S5, hS5, _, h⟩ := wrA_e h
      have kS5 : S5 a = S a := by rw [hS5]; exact ((up_row (by omega)).trans rfl)
      obtain ⟨x7, hx7, h⟩ := lt_e h
      exact (ih _ _ _ h).trans kS5
set_option maxHeartbeats 4000000 in
theorem w_fX12_notes {S : SS} {rr : SS} (h : fX12_notes S = some rr) {a : Nat} (ha : a ≠ 131) : rr a = S a := by
  unfold fX12_notes at h
  obtain ⟨v1, _, _, h⟩ := rdA_e h
  obtain ⟨q3, hq3, h⟩ := bnd_e h
  have kq3 : q3 a = S a := by
    rcases ite_e hq3 with ⟨_, hq3⟩ | ⟨_, hq3⟩
    · obtain ⟨q4, hq4, hq3⟩ := bnd_e hq3
      have kq4 : q4 a = S a := (w_fX12_notes_L14 (by omega) _ _ _ _ hq4).trans rfl
      obtain ⟨v6, _, _, hq3⟩ := rdA_e hq3
      obtain ⟨S8, hS8, _, hq3⟩ := wrA_e hq3
      have kS8 : S8 a = S a := by rw [hS8]; exact ((up_row (by omega)).trans kq4)
      obtain rfl := Option.some.inj hq3
      exact kS8
    · obtain rfl := Option.some.inj hq3
      exact rfl
  obtain ⟨q11, hq11, h⟩ := bnd_e h
  have kq11 : q11 a = S a := (w_fX12_notes_L58 (by omega) _ _ _ _ hq11).trans kq3
  obtain ⟨v13, _, _, h⟩ := rdA_e h
  obtain ⟨S15, hS15, _, h⟩ := wrA_e h
  have kS15 : S15 a = S a := by rw [hS15]; exact ((up_row (by omega)).trans kq11)
  obtain rfl := Option.some.inj h
  exact kS15
set_option maxHeartbeats 4000000 in
theorem w_fX12_isAt {p1 : Int} {p2 : Int} {S : SS} {rr : SS} (h : fX12_isAt p1 p2 S = some rr) {a : Nat} (ha : a ≠ 131) : rr a = S a := by
  unfold fX12_isAt at h
  obtain ⟨S1, hS1, _, h⟩ := wrA_e h
  have kS1 : S1 a = S a := by rw [hS1]; exact ((up_row (by omega)).trans rfl)
  obtain ⟨S3, hS3, _, h⟩ := wrA_e h
  have kS3 : S3 a = S a := by rw [hS3]; exact ((up_row (by omega)).trans kS1)
  obtain rfl := Option.some.inj h
  exact kS3
set_option maxHeartbeats 4000000 in
theorem w_fX12_go {p1 : Int} {p2 : Int} {S : SS} {rr : Int × SS} (h : fX12_go p1 p2 S = some rr) {a : Nat} (ha : (a < 130 ∨ 131 < a) ∧ (a < 135 ∨ 137 < a)) : rr.2 a = S a := by
  unfold fX12_go at h
  obtain ⟨S1, hS1, h⟩ := lt_e h
  have kS1 : S1 a = S a := by rw [hS1]; exact ((up_row (by omega)).trans rfl)
  obtain ⟨q2, hq2, h⟩ := bnd_e h
  have kq2 : q2.2 a = S a := (w_fX12_whyGo hq2 (by omega)).trans kS1
  rcases ite_e h with ⟨_, h⟩ | ⟨_, h⟩
  · obtain ⟨q3, hq3, h⟩ := bnd_e h
    have kq3 : q3 a = S a := (w_fX12_keeps hq3 (by omega)).trans kq2
    obtain ⟨q4, hq4, h⟩ := bnd_e h
    obtain ⟨q5, hq5, h⟩ := bnd_e h
    have kq5 : q5.2 a = S a := (w_fX12_goneTo hq5 (by omega)).trans kq3
    obtain ⟨q6, hq6, h⟩ := bnd_e h
    have kq6 : q6 a = S a := (w_fX12_isAt hq6 (by omega)).trans kq5
    obtain ⟨q7, hq7, h⟩ := bnd_e h
    have kq7 : q7 a = S a := (w_fX12_notes hq7 (by omega)).trans kq6
    obtain ⟨v8, _, _, h⟩ := rdA_e h
    obtain rfl := Option.some.inj h
    exact kq7
  · obtain rfl := Option.some.inj h
    exact kq2
set_option maxHeartbeats 4000000 in
theorem w_fX12_sign {p1 : Int} {p2 : Int} {S : SS} {rr : Int × SS} (h : fX12_sign p1 p2 S = some rr) {a : Nat} (ha : (a < 130 ∨ 131 < a) ∧ a ≠ 137) : rr.2 a = S a := by
  unfold fX12_sign at h
  obtain ⟨S1, hS1, h⟩ := lt_e h
  have kS1 : S1 a = S a := by rw [hS1]; exact ((up_row (by omega)).trans rfl)
  obtain ⟨q2, hq2, h⟩ := bnd_e h
  rcases ite_e h with ⟨_, h⟩ | ⟨_, h⟩
  · obtain ⟨q3, hq3, h⟩ := bnd_e h
    rcases ite_e h with ⟨_, h⟩ | ⟨_, h⟩
    · obtain ⟨q4, hq4, h⟩ := bnd_e h
      have kq4 : q4 a = S a := (w_fX12_keeps hq4 (by omega)).trans kS1
      obtain ⟨S5, hS5, _, h⟩ := wrA_e h
      have kS5 : S5 a = S a := by rw [hS5]; exact ((up_row (by omega)).trans kq4)
      obtain ⟨q7, hq7, h⟩ := bnd_e h
      have kq7 : q7 a = S a := (w_fX12_notes hq7 (by omega)).trans kS5
      obtain ⟨v8, _, _, h⟩ := rdA_e h
      obtain rfl := Option.some.inj h
      exact kq7
    · obtain rfl := Option.some.inj h
      exact kS1
  · obtain rfl := Option.some.inj h
    exact kS1
set_option maxHeartbeats 4000000 in
theorem w_fX12_bollards {p1 : Int} {S : SS} {rr : Int × SS} (h : fX12_bollards p1 S = some rr) {a : Nat} (ha : (a < 130 ∨ 131 < a) ∧ a ≠ 137) : rr.2 a = S a := by
  unfold fX12_bollards at h
  obtain ⟨S1, hS1, h⟩ := lt_e h
  have kS1 : S1 a = S a := by rw [hS1]; exact ((up_row (by omega)).trans rfl)
  obtain ⟨q2, hq2, h⟩ := bnd_e h
  rcases ite_e h with ⟨_, h⟩ | ⟨_, h⟩
  · obtain ⟨q3, hq3, h⟩ := bnd_e h
    have kq3 : q3 a = S a := (w_fX12_keeps hq3 (by omega)).trans kS1
    obtain ⟨S4, hS4, _, h⟩ := wrA_e h
    have kS4 : S4 a = S a := by rw [hS4]; exact ((up_row (by omega)).trans kq3)
    obtain ⟨q6, hq6, h⟩ := bnd_e h
    have kq6 : q6 a = S a := (w_fX12_notes hq6 (by omega)).trans kS4
    obtain ⟨v7, _, _, h⟩ := rdA_e h
    obtain rfl := Option.some.inj h
    exact kq6
  · obtain rfl := Option.some.inj h
    exact kS1
set_option maxHeartbeats 4000000 in
theorem w_fX12_put {p1 : Int} {p2 : Int} {p3 : Int} {S : SS} {rr : Int × SS} (h : fX12_put p1 p2 p3 S = some rr) {a : Nat} (ha : (a < 130 ∨ 131 < a) ∧ a ≠ 137) : rr.2 a = S a := by
  unfold fX12_put at h
  obtain ⟨S1, hS1, h⟩ := lt_e h
  have kS1 : S1 a = S a := by rw [hS1]; exact ((up_row (by omega)).trans rfl)
  obtain ⟨q2, hq2, h⟩ := bnd_e h
  rcases ite_e h with ⟨_, h⟩ | ⟨_, h⟩
  · obtain ⟨q3, hq3, h⟩ := bnd_e h
    rcases ite_e h with ⟨_, h⟩ | ⟨_, h⟩
    · obtain ⟨q4, hq4, h⟩ := bnd_e h
      rcases ite_e h with ⟨_, h⟩ | ⟨_, h⟩
      · obtain ⟨q5, hq5, h⟩ := bnd_e h
        have kq5 : q5 a = S a := (w_fX12_keeps hq5 (by omega)).trans kS1
        obtain ⟨S6, hS6, _, h⟩ := wrA_e h
        have kS6 : S6 a = S a := by rw [hS6]; exact ((up_row (by omega)).trans kq5)
        obtain ⟨S8, hS8, _, h⟩ := wrA_e h
        have kS8 : S8 a = S a := by rw [hS8]; exact ((up_row (by omega)).trans kS6)
        obtain ⟨q10, hq10, h⟩ := bnd_e h
        have kq10 : q10 a = S a := (w_fX12_notes hq10 (by omega)).trans kS8
        obtain ⟨v11, _, _, h⟩ := rdA_e h
        obtain ⟨v13, _, _, h⟩ := rdA_e h
        obtain rfl := Option.some.inj h
        exact kq10
      · obtain rfl := Option.some.inj h
        exact kS1
    · obtain rfl := Option.some.inj h
      exact kS1
  · obtain rfl := Option.some.inj h
    exact kS1
set_option maxHeartbeats 4000000 in
theorem w_fX12_undo_L44  {a : Nat} (ha : a ≠ 131) : ∀ n l2 S rr, fX12_undo_L44  n l2 S = some rr → rr a = S a := by
  intro n
  induction n with
  | zero => intro l2 S rr h; cases h
  | succ n ih =>
    intro l2 S rr h
    unfold fX12_undo_L44 at h
    rcases ite_e h with ⟨_, h⟩ | ⟨_, h⟩
    · obtain rfl := Option.some.inj h
      exact rfl
    · obtain ⟨v1, _, _, h⟩ := rdA_e h
      obtain ⟨v3, _, _, h⟩ := rdA_e h
      obtain ⟨S5, hS5, _, h⟩ := wrA_e h
      have kS5 : S5 a = S a := by rw [hS5]; exact ((up_row (by omega)).trans rfl)
      obtain ⟨x7, hx7, h⟩ := lt_e h
      exact (ih _ _ _ h).trans kS5
set_option maxHeartbeats 4000000 in
theorem w_fX12_undo {p1 : Int} {S : SS} {rr : Int × SS} (h : fX12_undo p1 S = some rr) {a : Nat} (ha : (a < 130 ∨ 131 < a)) : rr.2 a = S a := by
  unfold fX12_undo at h
  obtain ⟨S1, hS1, h⟩ := lt_e h
  have kS1 : S1 a = S a := by rw [hS1]; exact ((up_row (by omega)).trans rfl)
  obtain ⟨q2, hq2, h⟩ := bnd_e h
  rcases ite_e h with ⟨_, h⟩ | ⟨_, h⟩
  · obtain ⟨v3, _, _, h⟩ := rdA_e h
    rcases ite_e h with ⟨_, h⟩ | ⟨_, h⟩
    · obtain ⟨v5, _, _, h⟩ := rdA_e h
      obtain ⟨S7, hS7, _, h⟩ := wrA_e h
      have kS7 : S7 a = S a := by rw [hS7]; exact ((up_row (by omega)).trans kS1)
      obtain ⟨q9, hq9, h⟩ := bnd_e h
      have kq9 : q9 a = S a := (w_fX12_undo_L44 (by omega) _ _ _ _ hq9).trans kS7
      obtain ⟨v11, _, _, h⟩ := rdA_e h
      obtain rfl := Option.some.inj h
      exact kq9
    · obtain rfl := Option.some.inj h
      exact kS1
  · obtain rfl := Option.some.inj h
    exact kS1
set_option maxHeartbeats 4000000 in
theorem w_fX12_whyNot {p1 : Int} {S : SS} {rr : Int × SS} (h : fX12_whyNot p1 S = some rr) {a : Nat} (ha : (a < 135 ∨ 136 < a)) : rr.2 a = S a := by
  unfold fX12_whyNot at h
  obtain ⟨q1, hq1, h⟩ := bnd_e h
  rcases ite_e h with ⟨_, h⟩ | ⟨_, h⟩
  · obtain ⟨q2, hq2, h⟩ := bnd_e h
    have kq2 : q2.2 a = S a := (w_fX12_whyGo hq2 (by omega)).trans rfl
    obtain rfl := Option.some.inj h
    exact kq2
  · obtain ⟨q3, hq3, h⟩ := bnd_e h
    rcases ite_e h with ⟨_, h⟩ | ⟨_, h⟩
    · obtain ⟨q4, hq4, h⟩ := bnd_e h
      rcases ite_e h with ⟨_, h⟩ | ⟨_, h⟩
      · rcases ite_e h with ⟨_, h⟩ | ⟨_, h⟩
        · obtain rfl := Option.some.inj h
          exact rfl
        · obtain rfl := Option.some.inj h
          exact rfl
      · obtain rfl := Option.some.inj h
        exact rfl
    · obtain ⟨q7, hq7, h⟩ := bnd_e h
      rcases ite_e h with ⟨_, h⟩ | ⟨_, h⟩
      · obtain rfl := Option.some.inj h
        exact rfl
      · obtain ⟨q8, hq8, h⟩ := bnd_e h
        rcases ite_e h with ⟨_, h⟩ | ⟨_, h⟩
        · obtain ⟨q9, hq9, h⟩ := bnd_e h
          rcases ite_e h with ⟨_, h⟩ | ⟨_, h⟩
          · obtain ⟨q10, hq10, h⟩ := bnd_e h
            rcases ite_e h with ⟨_, h⟩ | ⟨_, h⟩
            · obtain ⟨q11, hq11, h⟩ := bnd_e h
              rcases ite_e h with ⟨_, h⟩ | ⟨_, h⟩
              · obtain rfl := Option.some.inj h
                exact rfl
              · obtain rfl := Option.some.inj h
                exact rfl
            · obtain rfl := Option.some.inj h
              exact rfl
          · obtain rfl := Option.some.inj h
            exact rfl
        · obtain rfl := Option.some.inj h
          exact rfl
set_option maxHeartbeats 4000000 in
theorem w_fX12_does {p1 : Int} {S : SS} {rr : SS} (h : fX12_does p1 S = some rr) {a : Nat} (ha : a ≠ 131 ∧ (a < 135 ∨ 136 < a)) : rr a = S a := by
  unfold fX12_does at h
  rcases ite_e h with ⟨_, h⟩ | ⟨_, h⟩
  · rcases ite_e h with ⟨_, h⟩ | ⟨_, h⟩
    · rcases ite_e h with ⟨_, h⟩ | ⟨_, h⟩
      · obtain ⟨q1, hq1, h⟩ := bnd_e h
        have kq1 : q1 a = S a := (w_fX12_isAt hq1 (by omega)).trans rfl
        obtain rfl := Option.some.inj h
        exact kq1
      · obtain ⟨S2, hS2, _, h⟩ := wrA_e h
        have kS2 : S2 a = S a := by rw [hS2]; exact ((up_row (by omega)).trans rfl)
        obtain rfl := Option.some.inj h
        exact kS2
    · obtain ⟨S5, hS5, _, h⟩ := wrA_e h
      have kS5 : S5 a = S a := by rw [hS5]; exact ((up_row (by omega)).trans rfl)
      obtain rfl := Option.some.inj h
      exact kS5
  · obtain ⟨q8, hq8, h⟩ := bnd_e h
    obtain ⟨q9, hq9, h⟩ := bnd_e h
    have kq9 : q9.2 a = S a := (w_fX12_goneTo hq9 (by omega)).trans rfl
    obtain ⟨q10, hq10, h⟩ := bnd_e h
    have kq10 : q10 a = S a := (w_fX12_isAt hq10 (by omega)).trans kq9
    obtain rfl := Option.some.inj h
    exact kq10
set_option maxHeartbeats 4000000 in
theorem w_fX12_tells_L7 {l1 : Int} {a : Nat} (ha : (a < 130 ∨ 131 < a) ∧ (a < 135 ∨ 136 < a)) : ∀ n l2 S rr, fX12_tells_L7 l1 n l2 S = some rr → rr.2.2 a = S a := by
  intro n
  induction n with
  | zero => intro l2 S rr h; cases h
  | succ n ih =>
    intro l2 S rr h
    unfold fX12_tells_L7 at h
    obtain ⟨v1, _, _, h⟩ := rdA_e h
    rcases ite_e h with ⟨_, h⟩ | ⟨_, h⟩
    · obtain rfl := Option.some.inj h
      exact rfl
    · obtain ⟨v3, _, _, h⟩ := rdA_e h
      obtain ⟨q5, hq5, h⟩ := bnd_e h
      have kq5 : q5.2 a = S a := (w_fX12_whyNot hq5 (by omega)).trans rfl
      obtain ⟨S6, hS6, h⟩ := lt_e h
      have kS6 : S6 a = S a := by rw [hS6]; exact ((up_row (by omega)).trans kq5)
      rcases ite_e h with ⟨_, h⟩ | ⟨_, h⟩
      · obtain ⟨v7, _, _, h⟩ := rdA_e h
        obtain ⟨q9, hq9, h⟩ := bnd_e h
        have kq9 : q9 a = S a := (w_fX12_does hq9 (by omega)).trans kS6
        obtain ⟨x10, hx10, h⟩ := lt_e h
        exact (ih _ _ _ h).trans kq9
      · obtain rfl := Option.some.inj h
        exact kS6
set_option maxHeartbeats 4000000 in
theorem w_fX12_tells {p1 : Int} {S : SS} {rr : Int × SS} (h : fX12_tells p1 S = some rr) {a : Nat} (ha : (a < 130 ∨ 131 < a) ∧ (a < 135 ∨ 136 < a)) : rr.2 a = S a := by
  unfold fX12_tells at h
  obtain ⟨S1, hS1, h⟩ := lt_e h
  have kS1 : S1 a = S a := by rw [hS1]; exact ((up_row (by omega)).trans rfl)
  obtain ⟨q2, hq2, h⟩ := bnd_e h
  have kq2 : q2.2.2 a = S a := (w_fX12_tells_L7 (by omega) _ _ _ _ hq2).trans kS1
  rcases ite_e h with ⟨_, h⟩ | ⟨_, h⟩
  · obtain rfl := Option.some.inj h
    exact kq2
  · obtain ⟨v4, _, _, h⟩ := rdA_e h
    obtain rfl := Option.some.inj h
    exact kq2
set_option maxHeartbeats 4000000 in
theorem w_fX12_judge {p1 : Int} {p2 : Int} {S : SS} {rr : Int × SS} (h : fX12_judge p1 p2 S = some rr) {a : Nat} (ha : (a < 130 ∨ 131 < a) ∧ (a < 135 ∨ 137 < a)) : rr.2 a = S a := by
  unfold fX12_judge at h
  obtain ⟨S1, hS1, h⟩ := lt_e h
  have kS1 : S1 a = S a := by rw [hS1]; exact ((up_row (by omega)).trans rfl)
  obtain ⟨q2, hq2, h⟩ := bnd_e h
  rcases ite_e h with ⟨_, h⟩ | ⟨_, h⟩
  · obtain ⟨q3, hq3, h⟩ := bnd_e h
    rcases ite_e h with ⟨_, h⟩ | ⟨_, h⟩
    · obtain ⟨q4, hq4, h⟩ := bnd_e h
      have kq4 : q4 a = S a := (w_fX12_keeps hq4 (by omega)).trans kS1
      obtain ⟨q5, hq5, h⟩ := bnd_e h
      have kq5 : q5.2 a = S a := (w_fX12_tells hq5 (by omega)).trans kq4
      obtain ⟨q6, hq6, h⟩ := bnd_e h
      obtain ⟨q7, hq7, h⟩ := bnd_e h
      obtain ⟨q8, hq8, h⟩ := bnd_e h
      have kq8 : q8 a = S a := (w_fX12_isAgain hq8 (by omega)).trans kq5
      rcases ite_e h with ⟨_, h⟩ | ⟨_, h⟩
      · rcases ite_e h with ⟨_, h⟩ | ⟨_, h⟩
        · obtain rfl := Option.some.inj h
          exact kq8
        · obtain rfl := Option.some.inj h
          exact kq8
      · rcases ite_e h with ⟨_, h⟩ | ⟨_, h⟩
        · obtain rfl := Option.some.inj h
          exact kq8
        · rcases ite_e h with ⟨_, h⟩ | ⟨_, h⟩
          · obtain rfl := Option.some.inj h
            exact kq8
          · obtain rfl := Option.some.inj h
            exact kq8
    · obtain rfl := Option.some.inj h
      exact kS1
  · obtain rfl := Option.some.inj h
    exact kS1
set_option maxHeartbeats 4000000 in
theorem w_fX12_perform {p1 : Int} {S : SS} {rr : Int × SS} (h : fX12_perform p1 S = some rr) {a : Nat} (ha : (a < 130 ∨ 131 < a) ∧ (a < 135 ∨ 137 < a)) : rr.2 a = S a := by
  unfold fX12_perform at h
  obtain ⟨S1, hS1, h⟩ := lt_e h
  have kS1 : S1 a = S a := by rw [hS1]; exact ((up_row (by omega)).trans rfl)
  obtain ⟨q2, hq2, h⟩ := bnd_e h
  rcases ite_e h with ⟨_, h⟩ | ⟨_, h⟩
  · obtain ⟨q3, hq3, h⟩ := bnd_e h
    have kq3 : q3 a = S a := (w_fX12_keeps hq3 (by omega)).trans kS1
    obtain ⟨q4, hq4, h⟩ := bnd_e h
    have kq4 : q4.2 a = S a := (w_fX12_tells hq4 (by omega)).trans kq3
    obtain ⟨q5, hq5, h⟩ := bnd_e h
    have kq5 : q5 a = S a := by
      rcases ite_e hq5 with ⟨_, hq5⟩ | ⟨_, hq5⟩
      · obtain rfl := Option.some.inj hq5
        exact kq4
      · obtain ⟨q6, hq6, hq5⟩ := bnd_e hq5
        have kq6 : q6 a = S a := (w_fX12_notes hq6 (by omega)).trans kq4
        obtain rfl := Option.some.inj hq5
        exact kq6
    obtain rfl := Option.some.inj h
    exact kq5
  · obtain rfl := Option.some.inj h
    exact kS1
set_option maxHeartbeats 4000000 in
theorem w_fX12_draw {p1 : Int} {S : SS} {rr : Int × SS} (h : fX12_draw p1 S = some rr) {a : Nat} (ha : a ≠ 130) : rr.2 a = S a := by
  unfold fX12_draw at h
  obtain ⟨S1, hS1, h⟩ := lt_e h
  have kS1 : S1 a = S a := by rw [hS1]; exact ((up_row (by omega)).trans rfl)
  obtain ⟨_, h⟩ := nz_e h
  obtain rfl := Option.some.inj h
  exact kS1
set_option maxHeartbeats 4000000 in
theorem w_fX12_drawn {S : SS} {rr : Int × SS} (h : fX12_drawn S = some rr) {a : Nat} (ha : a ≠ 130) : rr.2 a = S a := by
  unfold fX12_drawn at h
  obtain ⟨q1, hq1, h⟩ := bnd_e h
  have kq1 : q1.2 a = S a := (w_fX12_draw hq1 (by omega)).trans rfl
  rcases ite_e h with ⟨_, h⟩ | ⟨_, h⟩
  · obtain ⟨q2, hq2, h⟩ := bnd_e h
    have kq2 : q2.2 a = S a := (w_fX12_draw hq2 (by omega)).trans kq1
    obtain rfl := Option.some.inj h
    exact kq2
  · rcases ite_e h with ⟨_, h⟩ | ⟨_, h⟩
    · obtain ⟨q3, hq3, h⟩ := bnd_e h
      have kq3 : q3.2 a = S a := (w_fX12_draw hq3 (by omega)).trans kq1
      obtain ⟨q4, hq4, h⟩ := bnd_e h
      have kq4 : q4.2 a = S a := (w_fX12_draw hq4 (by omega)).trans kq3
      obtain rfl := Option.some.inj h
      exact kq4
    · obtain ⟨q5, hq5, h⟩ := bnd_e h
      have kq5 : q5.2 a = S a := (w_fX12_draw hq5 (by omega)).trans kq1
      obtain ⟨q6, hq6, h⟩ := bnd_e h
      have kq6 : q6.2 a = S a := (w_fX12_draw hq6 (by omega)).trans kq5
      obtain rfl := Option.some.inj h
      exact kq6
set_option maxHeartbeats 4000000 in
theorem w_fX12_day_L34 {l2 : Int} {a : Nat} (ha : (a < 130 ∨ 131 < a) ∧ (a < 135 ∨ 136 < a)) : ∀ n l3 l4 S rr, fX12_day_L34 l2 n l3 l4 S = some rr → rr.2 a = S a := by
  intro n
  induction n with
  | zero => intro l3 l4 S rr h; cases h
  | succ n ih =>
    intro l3 l4 S rr h
    unfold fX12_day_L34 at h
    rcases ite_e h with ⟨_, h⟩ | ⟨_, h⟩
    · obtain rfl := Option.some.inj h
      exact rfl
    · obtain ⟨q1, hq1, h⟩ := bnd_e h
      have kq1 : q1.2 a = S a := (w_fX12_drawn hq1 (by omega)).trans rfl
      obtain ⟨q2, hq2, h⟩ := bnd_e h
      have kq2 : q2.2 a = S a := (w_fX12_whyNot hq2 (by omega)).trans kq1
      obtain ⟨q3, hq3, h⟩ := bnd_e h
      have kq3 : q3.2 a = S a := by
        rcases ite_e hq3 with ⟨_, hq3⟩ | ⟨_, hq3⟩
        · obtain ⟨q4, hq4, hq3⟩ := bnd_e hq3
          have kq4 : q4 a = S a := (w_fX12_does hq4 (by omega)).trans kq2
          obtain ⟨x5, hx5, hq3⟩ := lt_e hq3
          obtain rfl := Option.some.inj hq3
          exact kq4
        · obtain rfl := Option.some.inj hq3
          exact kq2
      obtain ⟨x7, hx7, h⟩ := lt_e h
      exact (ih _ _ _ _ h).trans kq3
set_option maxHeartbeats 4000000 in
theorem w_fX12_day {p1 : Int} {p2 : Int} {S : SS} {rr : Int × SS} (h : fX12_day p1 p2 S = some rr) {a : Nat} (ha : (a < 130 ∨ 131 < a) ∧ (a < 135 ∨ 137 < a)) : rr.2 a = S a := by
  unfold fX12_day at h
  obtain ⟨S1, hS1, h⟩ := lt_e h
  have kS1 : S1 a = S a := by rw [hS1]; exact ((up_row (by omega)).trans rfl)
  obtain ⟨q2, hq2, h⟩ := bnd_e h
  rcases ite_e h with ⟨_, h⟩ | ⟨_, h⟩
  · obtain ⟨q3, hq3, h⟩ := bnd_e h
    have kq3 : q3 a = S a := (w_fX12_keeps hq3 (by omega)).trans kS1
    obtain ⟨S4, hS4, h⟩ := lt_e h
    have kS4 : S4 a = S a := by rw [hS4]; exact ((up_row (by omega)).trans kq3)
    obtain ⟨q5, hq5, h⟩ := bnd_e h
    have kq5 : q5.2 a = S a := (w_fX12_day_L34 (by omega) _ _ _ _ _ hq5).trans kS4
    obtain ⟨q7, hq7, h⟩ := bnd_e h
    have kq7 : q7 a = S a := by
      rcases ite_e hq7 with ⟨_, hq7⟩ | ⟨_, hq7⟩
      · obtain rfl := Option.some.inj hq7
        exact kq5
      · obtain ⟨q8, hq8, hq7⟩ := bnd_e hq7
        have kq8 : q8 a = S a := (w_fX12_notes hq8 (by omega)).trans kq5
        obtain rfl := Option.some.inj hq7
        exact kq8
    obtain rfl := Option.some.inj h
    exact kq7
  · obtain rfl := Option.some.inj h
    exact kS1
set_option maxHeartbeats 4000000 in
theorem w_fX12_laysThen_L18 {l1 : Int} {l2 : Int} {l3 : Int} {a : Nat} (ha : (a < 135 ∨ 136 < a) ∧ a ≠ 138) : ∀ n l4 S rr, fX12_laysThen_L18 l1 l2 l3 n l4 S = some rr → rr a = S a := by
  intro n
  induction n with
  | zero => intro l4 S rr h; cases h
  | succ n ih =>
    intro l4 S rr h
    unfold fX12_laysThen_L18 at h
    rcases ite_e h with ⟨_, h⟩ | ⟨_, h⟩
    · obtain rfl := Option.some.inj h
      exact rfl
    · obtain ⟨v1, _, _, h⟩ := rdA_e h
      obtain ⟨q3, hq3, h⟩ := bnd_e h
      have kq3 : q3.2 a = S a := by
        rcases ite_e hq3 with ⟨_, hq3⟩ | ⟨_, hq3⟩
        · obtain rfl := Option.some.inj hq3
          exact rfl
        · obtain ⟨q4, hq4, hq3⟩ := bnd_e hq3
          rcases ite_e hq3 with ⟨_, hq3⟩ | ⟨_, hq3⟩
          · obtain rfl := Option.some.inj hq3
            exact rfl
          · obtain ⟨v5, _, _, hq3⟩ := rdA_e hq3
            obtain ⟨q7, hq7, hq3⟩ := bnd_e hq3
            have kq7 : q7.2 a = S a := (w_fX12_whyBy hq7 (by omega)).trans rfl
            rcases ite_e hq3 with ⟨_, hq3⟩ | ⟨_, hq3⟩
            · obtain ⟨q8, hq8, hq3⟩ := bnd_e hq3
              have kq8 : q8.2 a = S a := (w_fX12_goneTo hq8 (by omega)).trans kq7
              obtain rfl := Option.some.inj hq3
              exact kq8
            · obtain rfl := Option.some.inj hq3
              exact kq7
      obtain ⟨S12, hS12, _, h⟩ := wrA_e h
      have kS12 : S12 a = S a := by rw [hS12]; exact ((up_row (by omega)).trans kq3)
      obtain ⟨x14, hx14, h⟩ := lt_e h
      exact (ih _ _ _ h).trans kS12
set_option maxHeartbeats 4000000 in
theorem w_fX12_laysThen_L2 {l1 : Int} {l2 : Int} {a : Nat} (ha : (a < 135 ∨ 136 < a) ∧ a ≠ 138) : ∀ n l3 S rr, fX12_laysThen_L2 l1 l2 n l3 S = some rr → rr a = S a := by
  intro n
  induction n with
  | zero => intro l3 S rr h; cases h
  | succ n ih =>
    intro l3 S rr h
    unfold fX12_laysThen_L2 at h
    obtain ⟨v1, _, _, h⟩ := rdA_e h
    rcases ite_e h with ⟨_, h⟩ | ⟨_, h⟩
    · obtain rfl := Option.some.inj h
      exact rfl
    · obtain ⟨q3, hq3, h⟩ := bnd_e h
      have kq3 : q3 a = S a := (w_fX12_laysThen_L18 (by omega) _ _ _ _ hq3).trans rfl
      obtain ⟨x5, hx5, h⟩ := lt_e h
      exact (ih _ _ _ h).trans kq3
set_option maxHeartbeats 4000000 in
theorem w_fX12_laysThen {p1 : Int} {p2 : Int} {S : SS} {rr : SS} (h : fX12_laysThen p1 p2 S = some rr) {a : Nat} (ha : (a < 135 ∨ 136 < a) ∧ a ≠ 138) : rr a = S a := by
  unfold fX12_laysThen at h
  obtain ⟨q1, hq1, h⟩ := bnd_e h
  have kq1 : q1 a = S a := (w_fX12_laysThen_L2 (by omega) _ _ _ _ hq1).trans rfl
  obtain rfl := Option.some.inj h
  exact kq1
set_option maxHeartbeats 4000000 in
theorem w_fX12_laysFar_L9 {l1 : Int} {l2 : Int} {l3 : Int} {a : Nat} (ha : a ≠ 139) : ∀ n l4 S rr, fX12_laysFar_L9 l1 l2 l3 n l4 S = some rr → rr a = S a := by
  intro n
  induction n with
  | zero => intro l4 S rr h; cases h
  | succ n ih =>
    intro l4 S rr h
    unfold fX12_laysFar_L9 at h
    rcases ite_e h with ⟨_, h⟩ | ⟨_, h⟩
    · obtain rfl := Option.some.inj h
      exact rfl
    · obtain ⟨q1, hq1, h⟩ := bnd_e h
      obtain ⟨q2, hq2, h⟩ := bnd_e h
      obtain ⟨S4, hS4, _, h⟩ := wrA_e h
      have kS4 : S4 a = S a := by rw [hS4]; exact ((up_row (by omega)).trans rfl)
      obtain ⟨x6, hx6, h⟩ := lt_e h
      exact (ih _ _ _ h).trans kS4
set_option maxHeartbeats 4000000 in
theorem w_fX12_laysFar_L72 {l1 : Int} {l5 : Int} {a : Nat} (ha : a ≠ 139) : ∀ n l4 l6 S rr, fX12_laysFar_L72 l1 l5 n l4 l6 S = some rr → rr.2 a = S a := by
  intro n
  induction n with
  | zero => intro l4 l6 S rr h; cases h
  | succ n ih =>
    intro l4 l6 S rr h
    unfold fX12_laysFar_L72 at h
    rcases ite_e h with ⟨_, h⟩ | ⟨_, h⟩
    · obtain rfl := Option.some.inj h
      exact rfl
    · obtain ⟨v1, _, _, h⟩ := rdA_e h
      rcases ite_e h with ⟨_, h⟩ | ⟨_, h⟩
      · obtain rfl := Option.some.inj h
        exact rfl
      · obtain ⟨q3, hq3, h⟩ := bnd_e h
        obtain ⟨v4, _, _, h⟩ := rdA_e h
        obtain ⟨q6, hq6, h⟩ := bnd_e h
        have kq6 : q6.2 a = S a := by
          rcases ite_e hq6 with ⟨_, hq6⟩ | ⟨_, hq6⟩
          · obtain ⟨q7, hq7, hq6⟩ := bnd_e hq6
            obtain ⟨S8, hS8, _, hq6⟩ := wrA_e hq6
            have kS8 : S8 a = S a := by rw [hS8]; exact ((up_row (by omega)).trans rfl)
            obtain rfl := Option.some.inj hq6
            exact kS8
          · obtain rfl := Option.some.inj hq6
            exact rfl
        obtain ⟨x11, hx11, h⟩ := lt_e h
        exact (ih _ _ _ _ h).trans kq6
set_option maxHeartbeats 4000000 in
theorem w_fX12_laysFar_L60 {l1 : Int} {a : Nat} (ha : a ≠ 139) : ∀ n l4 l5 S rr, fX12_laysFar_L60 l1 n l4 l5 S = some rr → rr.2 a = S a := by
  intro n
  induction n with
  | zero => intro l4 l5 S rr h; cases h
  | succ n ih =>
    intro l4 l5 S rr h
    unfold fX12_laysFar_L60 at h
    obtain ⟨q1, hq1, h⟩ := bnd_e h
    rcases ite_e h with ⟨_, h⟩ | ⟨_, h⟩
    · obtain rfl := Option.some.inj h
      exact rfl
    · obtain ⟨q2, hq2, h⟩ := bnd_e h
      have kq2 : q2.2 a = S a := (w_fX12_laysFar_L72 (by omega) _ _ _ _ _ hq2).trans rfl
      obtain ⟨x4, hx4, h⟩ := lt_e h
      exact (ih _ _ _ _ h).trans kq2
set_option maxHeartbeats 4000000 in
theorem w_fX12_laysFar_L49 {l1 : Int} {a : Nat} (ha : a ≠ 139) : ∀ n l4 S rr, fX12_laysFar_L49 l1 n l4 S = some rr → rr a = S a := by
  intro n
  induction n with
  | zero => intro l4 S rr h; cases h
  | succ n ih =>
    intro l4 S rr h
    unfold fX12_laysFar_L49 at h
    rcases ite_e h with ⟨_, h⟩ | ⟨_, h⟩
    · obtain rfl := Option.some.inj h
      exact rfl
    · obtain ⟨q1, hq1, h⟩ := bnd_e h
      have kq1 : q1.2 a = S a := (w_fX12_laysFar_L60 (by omega) _ _ _ _ _ hq1).trans rfl
      exact (ih _ _ _ h).trans kq1
set_option maxHeartbeats 4000000 in
theorem w_fX12_laysFar {p1 : Int} {p2 : Int} {p3 : Int} {S : SS} {rr : Int × SS} (h : fX12_laysFar p1 p2 p3 S = some rr) {a : Nat} (ha : (a < 135 ∨ 136 < a) ∧ (a < 138 ∨ 139 < a)) : rr.2 a = S a := by
  unfold fX12_laysFar at h
  obtain ⟨q1, hq1, h⟩ := bnd_e h
  have kq1 : q1 a = S a := (w_fX12_laysThen hq1 (by omega)).trans rfl
  obtain ⟨q2, hq2, h⟩ := bnd_e h
  have kq2 : q2 a = S a := (w_fX12_laysFar_L9 (by omega) _ _ _ _ hq2).trans kq1
  obtain ⟨q4, hq4, h⟩ := bnd_e h
  have kq4 : q4 a = S a := (w_fX12_laysFar_L49 (by omega) _ _ _ _ hq4).trans kq2
  obtain ⟨q6, hq6, h⟩ := bnd_e h
  obtain ⟨v7, _, _, h⟩ := rdA_e h
  obtain rfl := Option.some.inj h
  exact kq4
set_option maxHeartbeats 4000000 in
theorem w_fX12_soonest {p1 : Int} {p2 : Int} {p3 : Int} {S : SS} {rr : Int × SS} (h : fX12_soonest p1 p2 p3 S = some rr) {a : Nat} (ha : a ≠ 130 ∧ (a < 135 ∨ 136 < a) ∧ (a < 138 ∨ 139 < a)) : rr.2 a = S a := by
  unfold fX12_soonest at h
  obtain ⟨S1, hS1, h⟩ := lt_e h
  have kS1 : S1 a = S a := by rw [hS1]; exact ((up_row (by omega)).trans rfl)
  obtain ⟨q2, hq2, h⟩ := bnd_e h
  rcases ite_e h with ⟨_, h⟩ | ⟨_, h⟩
  · obtain ⟨q3, hq3, h⟩ := bnd_e h
    have kq3 : q3.2 a = S a := (w_fX12_laysFar hq3 (by omega)).trans kS1
    obtain ⟨q4, hq4, h⟩ := bnd_e h
    obtain rfl := Option.some.inj h
    exact kq3
  · obtain rfl := Option.some.inj h
    exact kS1
set_option maxHeartbeats 4000000 in
theorem w_fX12_way {p1 : Int} {p2 : Int} {p3 : Int} {p4 : Int} {S : SS} {rr : Int × SS} (h : fX12_way p1 p2 p3 p4 S = some rr) {a : Nat} (ha : a ≠ 130 ∧ (a < 135 ∨ 136 < a) ∧ (a < 138 ∨ 139 < a)) : rr.2 a = S a := by
  unfold fX12_way at h
  obtain ⟨S1, hS1, h⟩ := lt_e h
  have kS1 : S1 a = S a := by rw [hS1]; exact ((up_row (by omega)).trans rfl)
  obtain ⟨q2, hq2, h⟩ := bnd_e h
  rcases ite_e h with ⟨_, h⟩ | ⟨_, h⟩
  · rcases ite_e h with ⟨_, h⟩ | ⟨_, h⟩
    · obtain ⟨q3, hq3, h⟩ := bnd_e h
      have kq3 : q3.2 a = S a := (w_fX12_laysFar hq3 (by omega)).trans kS1
      obtain ⟨q4, hq4, h⟩ := bnd_e h
      obtain rfl := Option.some.inj h
      exact kq3
    · obtain rfl := Option.some.inj h
      exact kS1
  · obtain rfl := Option.some.inj h
    exact kS1
set_option maxHeartbeats 4000000 in
theorem w_fX12_beginsMany_L8 {l1 : Int} {a : Nat} (ha : (a < 142 ∨ 143 < a)) : ∀ n l2 S rr, fX12_beginsMany_L8 l1 n l2 S = some rr → rr a = S a := by
  intro n
  induction n with
  | zero => intro l2 S rr h; cases h
  | succ n ih =>
    intro l2 S rr h
    unfold fX12_beginsMany_L8 at h
    rcases ite_e h with ⟨_, h⟩ | ⟨_, h⟩
    · obtain rfl := Option.some.inj h
      exact rfl
    · obtain ⟨q1, hq1, h⟩ := bnd_e h
      obtain ⟨q2, hq2, h⟩ := bnd_e h
      obtain ⟨S4, hS4, _, h⟩ := wrA_e h
      have kS4 : S4 a = S a := by rw [hS4]; exact ((up_row (by omega)).trans rfl)
      obtain ⟨S6, hS6, _, h⟩ := wrA_e h
      have kS6 : S6 a = S a := by rw [hS6]; exact ((up_row (by omega)).trans kS4)
      obtain ⟨x8, hx8, h⟩ := lt_e h
      exact (ih _ _ _ h).trans kS6
set_option maxHeartbeats 4000000 in
theorem w_fX12_beginsMany {p1 : Int} {S : SS} {rr : SS} (h : fX12_beginsMany p1 S = some rr) {a : Nat} (ha : (a < 135 ∨ 136 < a) ∧ a ≠ 138 ∧ (a < 142 ∨ 143 < a)) : rr a = S a := by
  unfold fX12_beginsMany at h
  obtain ⟨q1, hq1, h⟩ := bnd_e h
  have kq1 : q1 a = S a := (w_fX12_laysThen hq1 (by omega)).trans rfl
  obtain ⟨q2, hq2, h⟩ := bnd_e h
  have kq2 : q2 a = S a := (w_fX12_beginsMany_L8 (by omega) _ _ _ _ hq2).trans kq1
  obtain rfl := Option.some.inj h
  exact kq2
set_option maxHeartbeats 4000000 in
theorem w_fX12_goesMany_L12 {l1 : Int} {l2 : Int} {a : Nat} (ha : a ≠ 143) : ∀ n l3 S rr, fX12_goesMany_L12 l1 l2 n l3 S = some rr → rr a = S a := by
  intro n
  induction n with
  | zero => intro l3 S rr h; cases h
  | succ n ih =>
    intro l3 S rr h
    unfold fX12_goesMany_L12 at h
    obtain ⟨v1, _, _, h⟩ := rdA_e h
    rcases ite_e h with ⟨_, h⟩ | ⟨_, h⟩
    · obtain rfl := Option.some.inj h
      exact rfl
    · obtain ⟨v3, _, _, h⟩ := rdA_e h
      rcases ite_e h with ⟨_, h⟩ | ⟨_, h⟩
      · obtain rfl := Option.some.inj h
        exact rfl
      · obtain ⟨v5, _, _, h⟩ := rdA_e h
        obtain ⟨q7, hq7, h⟩ := bnd_e h
        have kq7 : q7 a = S a := by
          rcases ite_e hq7 with ⟨_, hq7⟩ | ⟨_, hq7⟩
          · rcases ite_e hq7 with ⟨_, hq7⟩ | ⟨_, hq7⟩
            · obtain rfl := Option.some.inj hq7
              exact rfl
            · obtain ⟨v8, _, _, hq7⟩ := rdA_e hq7
              obtain ⟨v10, _, _, hq7⟩ := rdA_e hq7
              obtain ⟨S12, hS12, _, hq7⟩ := wrA_e hq7
              have kS12 : S12 a = S a := by rw [hS12]; exact ((up_row (by omega)).trans rfl)
              obtain rfl := Option.some.inj hq7
              exact kS12
          · obtain ⟨v15, _, _, hq7⟩ := rdA_e hq7
            obtain ⟨v17, _, _, hq7⟩ := rdA_e hq7
            obtain ⟨S19, hS19, _, hq7⟩ := wrA_e hq7
            have kS19 : S19 a = S a := by rw [hS19]; exact ((up_row (by omega)).trans rfl)
            obtain rfl := Option.some.inj hq7
            exact kS19
        obtain ⟨x22, hx22, h⟩ := lt_e h
        exact (ih _ _ _ h).trans kq7
set_option maxHeartbeats 4000000 in
theorem w_fX12_goesMany_L2 {l1 : Int} {a : Nat} (ha : a ≠ 143) : ∀ n l2 S rr, fX12_goesMany_L2 l1 n l2 S = some rr → rr a = S a := by
  intro n
  induction n with
  | zero => intro l2 S rr h; cases h
  | succ n ih =>
    intro l2 S rr h
    unfold fX12_goesMany_L2 at h
    obtain ⟨q1, hq1, h⟩ := bnd_e h
    rcases ite_e h with ⟨_, h⟩ | ⟨_, h⟩
    · obtain rfl := Option.some.inj h
      exact rfl
    · obtain ⟨q2, hq2, h⟩ := bnd_e h
      have kq2 : q2 a = S a := (w_fX12_goesMany_L12 (by omega) _ _ _ _ hq2).trans rfl
      obtain ⟨x4, hx4, h⟩ := lt_e h
      exact (ih _ _ _ h).trans kq2
set_option maxHeartbeats 4000000 in
theorem w_fX12_goesMany_L104  {a : Nat} (ha : (a < 142 ∨ 143 < a)) : ∀ n l2 S rr, fX12_goesMany_L104  n l2 S = some rr → rr a = S a := by
  intro n
  induction n with
  | zero => intro l2 S rr h; cases h
  | succ n ih =>
    intro l2 S rr h
    unfold fX12_goesMany_L104 at h
    rcases ite_e h with ⟨_, h⟩ | ⟨_, h⟩
    · obtain rfl := Option.some.inj h
      exact rfl
    · obtain ⟨v1, _, _, h⟩ := rdA_e h
      obtain ⟨S3, hS3, _, h⟩ := wrA_e h
      have kS3 : S3 a = S a := by rw [hS3]; exact ((up_row (by omega)).trans rfl)
      obtain ⟨S5, hS5, _, h⟩ := wrA_e h
      have kS5 : S5 a = S a := by rw [hS5]; exact ((up_row (by omega)).trans kS3)
      obtain ⟨x7, hx7, h⟩ := lt_e h
      exact (ih _ _ _ h).trans kS5
set_option maxHeartbeats 4000000 in
theorem w_fX12_goesMany {p1 : Int} {S : SS} {rr : SS} (h : fX12_goesMany p1 S = some rr) {a : Nat} (ha : (a < 142 ∨ 143 < a)) : rr a = S a := by
  unfold fX12_goesMany at h
  obtain ⟨q1, hq1, h⟩ := bnd_e h
  have kq1 : q1 a = S a := (w_fX12_goesMany_L2 (by omega) _ _ _ _ hq1).trans rfl
  obtain ⟨q3, hq3, h⟩ := bnd_e h
  have kq3 : q3 a = S a := (w_fX12_goesMany_L104 (by omega) _ _ _ _ hq3).trans kq1
  obtain rfl := Option.some.inj h
  exact kq3
set_option maxHeartbeats 4000000 in
theorem w_fX12_rows_L48 {l2 : Int} {l3 : Int} {l4 : Int} {a : Nat} (ha : (a < 142 ∨ 143 < a)) : ∀ n l6 S rr, fX12_rows_L48 l2 l3 l4 n l6 S = some rr → rr a = S a := by
  intro n
  induction n with
  | zero => intro l6 S rr h; cases h
  | succ n ih =>
    intro l6 S rr h
    unfold fX12_rows_L48 at h
    rcases ite_e h with ⟨_, h⟩ | ⟨_, h⟩
    · obtain rfl := Option.some.inj h
      exact rfl
    · obtain ⟨q1, hq1, h⟩ := bnd_e h
      have kq1 : q1 a = S a := (w_fX12_goesMany hq1 (by omega)).trans rfl
      obtain ⟨x2, hx2, h⟩ := lt_e h
      exact (ih _ _ _ h).trans kq1
set_option maxHeartbeats 4000000 in
theorem w_fX12_rows {p1 : Int} {p2 : Int} {p3 : Int} {p4 : Int} {S : SS} {rr : Int × SS} (h : fX12_rows p1 p2 p3 p4 S = some rr) {a : Nat} (ha : a ≠ 130 ∧ (a < 135 ∨ 136 < a) ∧ a ≠ 138 ∧ (a < 142 ∨ 143 < a)) : rr.2 a = S a := by
  unfold fX12_rows at h
  obtain ⟨S1, hS1, h⟩ := lt_e h
  have kS1 : S1 a = S a := by rw [hS1]; exact ((up_row (by omega)).trans rfl)
  obtain ⟨q2, hq2, h⟩ := bnd_e h
  rcases ite_e h with ⟨_, h⟩ | ⟨_, h⟩
  · obtain ⟨q3, hq3, h⟩ := bnd_e h
    rcases ite_e h with ⟨_, h⟩ | ⟨_, h⟩
    · obtain ⟨q4, hq4, h⟩ := bnd_e h
      have kq4 : q4 a = S a := (w_fX12_beginsMany hq4 (by omega)).trans kS1
      obtain ⟨q5, hq5, h⟩ := bnd_e h
      have kq5 : q5 a = S a := (w_fX12_rows_L48 (by omega) _ _ _ _ hq5).trans kq4
      obtain ⟨q7, hq7, h⟩ := bnd_e h
      obtain rfl := Option.some.inj h
      exact kq5
    · obtain rfl := Option.some.inj h
      exact kS1
  · obtain rfl := Option.some.inj h
    exact kS1
set_option maxHeartbeats 4000000 in
theorem w_fX12_laysGone_120_L2 {l1 : Int} {l2 : Nat} {a : Nat} (ha : a ≠ l2) : ∀ n l3 S rr, fX12_laysGone_120_L2 l1 l2 n l3 S = some rr → rr a = S a := by
  intro n
  induction n with
  | zero => intro l3 S rr h; cases h
  | succ n ih =>
    intro l3 S rr h
    unfold fX12_laysGone_120_L2 at h
    rcases ite_e h with ⟨_, h⟩ | ⟨_, h⟩
    · obtain rfl := Option.some.inj h
      exact rfl
    · obtain ⟨q1, hq1, h⟩ := bnd_e h
      obtain ⟨S3, hS3, _, h⟩ := wrA_e h
      have kS3 : S3 a = S a := by rw [hS3]; exact ((up_row (by omega)).trans rfl)
      obtain ⟨x5, hx5, h⟩ := lt_e h
      exact (ih _ _ _ h).trans kS3
set_option maxHeartbeats 4000000 in
theorem w_fX12_laysGone_120_L52 {l2 : Nat} {l3 : Int} {l4 : Int} {a : Nat} (ha : a ≠ l2) : ∀ n l5 S rr, fX12_laysGone_120_L52 l2 l3 l4 n l5 S = some rr → rr a = S a := by
  intro n
  induction n with
  | zero => intro l5 S rr h; cases h
  | succ n ih =>
    intro l5 S rr h
    unfold fX12_laysGone_120_L52 at h
    rcases ite_e h with ⟨_, h⟩ | ⟨_, h⟩
    · obtain rfl := Option.some.inj h
      exact rfl
    · obtain ⟨v1, _, _, h⟩ := rdA_e h
      rcases ite_e h with ⟨_, h⟩ | ⟨_, h⟩
      · obtain ⟨v3, _, _, h⟩ := rdA_e h
        obtain ⟨q5, hq5, h⟩ := bnd_e h
        have kq5 : q5 a = S a := by
          rcases ite_e hq5 with ⟨_, hq5⟩ | ⟨_, hq5⟩
          · obtain rfl := Option.some.inj hq5
            exact rfl
          · obtain ⟨v6, _, _, hq5⟩ := rdA_e hq5
            rcases ite_e hq5 with ⟨_, hq5⟩ | ⟨_, hq5⟩
            · obtain ⟨S8, hS8, _, hq5⟩ := wrA_e hq5
              have kS8 : S8 a = S a := by rw [hS8]; exact ((up_row (by omega)).trans rfl)
              obtain rfl := Option.some.inj hq5
              exact kS8
            · obtain rfl := Option.some.inj hq5
              exact rfl
        obtain ⟨x12, hx12, h⟩ := lt_e h
        exact (ih _ _ _ h).trans kq5
      · obtain rfl := Option.some.inj h
        exact rfl
set_option maxHeartbeats 4000000 in
theorem w_fX12_laysGone_120_L40 {l2 : Nat} {l3 : Int} {a : Nat} (ha : a ≠ l2) : ∀ n l4 S rr, fX12_laysGone_120_L40 l2 l3 n l4 S = some rr → rr a = S a := by
  intro n
  induction n with
  | zero => intro l4 S rr h; cases h
  | succ n ih =>
    intro l4 S rr h
    unfold fX12_laysGone_120_L40 at h
    obtain ⟨q1, hq1, h⟩ := bnd_e h
    rcases ite_e h with ⟨_, h⟩ | ⟨_, h⟩
    · obtain rfl := Option.some.inj h
      exact rfl
    · obtain ⟨q2, hq2, h⟩ := bnd_e h
      have kq2 : q2 a = S a := (w_fX12_laysGone_120_L52 (by omega) _ _ _ _ hq2).trans rfl
      obtain ⟨x4, hx4, h⟩ := lt_e h
      exact (ih _ _ _ h).trans kq2
set_option maxHeartbeats 4000000 in
theorem w_fX12_laysGone_120_L31 {l2 : Nat} {a : Nat} (ha : a ≠ l2) : ∀ n l3 S rr, fX12_laysGone_120_L31 l2 n l3 S = some rr → rr a = S a := by
  intro n
  induction n with
  | zero => intro l3 S rr h; cases h
  | succ n ih =>
    intro l3 S rr h
    unfold fX12_laysGone_120_L31 at h
    rcases ite_e h with ⟨_, h⟩ | ⟨_, h⟩
    · obtain rfl := Option.some.inj h
      exact rfl
    · obtain ⟨q1, hq1, h⟩ := bnd_e h
      have kq1 : q1 a = S a := (w_fX12_laysGone_120_L40 (by omega) _ _ _ _ hq1).trans rfl
      obtain ⟨x3, hx3, h⟩ := lt_e h
      exact (ih _ _ _ h).trans kq1
set_option maxHeartbeats 4000000 in
theorem w_fX12_laysGone_120 {p1 : Int} {p2 : Nat} {S : SS} {rr : SS} (h : fX12_laysGone_120 p1 p2 S = some rr) {a : Nat} (ha : a ≠ p2) : rr a = S a := by
  unfold fX12_laysGone_120 at h
  obtain ⟨q1, hq1, h⟩ := bnd_e h
  have kq1 : q1 a = S a := (w_fX12_laysGone_120_L2 (by omega) _ _ _ _ hq1).trans rfl
  obtain ⟨q3, hq3, h⟩ := bnd_e h
  have kq3 : q3 a = S a := (w_fX12_laysGone_120_L31 (by omega) _ _ _ _ hq3).trans kq1
  obtain rfl := Option.some.inj h
  exact kq3
set_option maxHeartbeats 4000000 in
theorem w_fX12_laysFromNow {p1 : Int} {S : SS} {rr : SS} (h : fX12_laysFromNow p1 S = some rr) {a : Nat} (ha : (a < 135 ∨ 136 < a) ∧ a ≠ 138 ∧ a ≠ 140) : rr a = S a := by
  unfold fX12_laysFromNow at h
  obtain ⟨q1, hq1, h⟩ := bnd_e h
  have kq1 : q1 a = S a := (w_fX12_laysThen hq1 (by omega)).trans rfl
  obtain ⟨q2, hq2, h⟩ := bnd_e h
  obtain ⟨q3, hq3, h⟩ := bnd_e h
  have kq3 : q3 a = S a := (w_fX12_laysGone_120 hq3 (by omega)).trans kq1
  obtain rfl := Option.some.inj h
  exact kq3
set_option maxHeartbeats 4000000 in
theorem w_fX12_when {p1 : Int} {p2 : Int} {S : SS} {rr : Int × SS} (h : fX12_when p1 p2 S = some rr) {a : Nat} (ha : a ≠ 130 ∧ (a < 135 ∨ 136 < a) ∧ a ≠ 138 ∧ a ≠ 140) : rr.2 a = S a := by
  unfold fX12_when at h
  obtain ⟨S1, hS1, h⟩ := lt_e h
  have kS1 : S1 a = S a := by rw [hS1]; exact ((up_row (by omega)).trans rfl)
  obtain ⟨q2, hq2, h⟩ := bnd_e h
  rcases ite_e h with ⟨_, h⟩ | ⟨_, h⟩
  · obtain ⟨q3, hq3, h⟩ := bnd_e h
    rcases ite_e h with ⟨_, h⟩ | ⟨_, h⟩
    · obtain ⟨q4, hq4, h⟩ := bnd_e h
      have kq4 : q4 a = S a := (w_fX12_laysFromNow hq4 (by omega)).trans kS1
      obtain ⟨q5, hq5, h⟩ := bnd_e h
      obtain rfl := Option.some.inj h
      exact kq4
    · obtain rfl := Option.some.inj h
      exact kS1
  · obtain rfl := Option.some.inj h
    exact kS1
set_option maxHeartbeats 4000000 in
theorem w_fX12_bound {p1 : Int} {p2 : Int} {S : SS} {rr : Int × SS} (h : fX12_bound p1 p2 S = some rr) {a : Nat} (ha : a ≠ 130 ∧ (a < 135 ∨ 136 < a) ∧ a ≠ 138 ∧ a ≠ 140) : rr.2 a = S a := by
  unfold fX12_bound at h
  obtain ⟨S1, hS1, h⟩ := lt_e h
  have kS1 : S1 a = S a := by rw [hS1]; exact ((up_row (by omega)).trans rfl)
  obtain ⟨q2, hq2, h⟩ := bnd_e h
  rcases ite_e h with ⟨_, h⟩ | ⟨_, h⟩
  · obtain ⟨q3, hq3, h⟩ := bnd_e h
    rcases ite_e h with ⟨_, h⟩ | ⟨_, h⟩
    · obtain ⟨q4, hq4, h⟩ := bnd_e h
      have kq4 : q4 a = S a := (w_fX12_laysFromNow hq4 (by omega)).trans kS1
      obtain ⟨v5, _, _, h⟩ := rdA_e h
      obtain ⟨q7, hq7, h⟩ := bnd_e h
      obtain rfl := Option.some.inj h
      exact kq4
    · obtain rfl := Option.some.inj h
      exact kS1
  · obtain rfl := Option.some.inj h
    exact kS1
set_option maxHeartbeats 4000000 in
theorem w_fX12_reach {p1 : Int} {S : SS} {rr : Int × SS} (h : fX12_reach p1 S = some rr) {a : Nat} (ha : a ≠ 130 ∧ (a < 135 ∨ 136 < a) ∧ a ≠ 138 ∧ a ≠ 140) : rr.2 a = S a := by
  unfold fX12_reach at h
  obtain ⟨S1, hS1, h⟩ := lt_e h
  have kS1 : S1 a = S a := by rw [hS1]; exact ((up_row (by omega)).trans rfl)
  obtain ⟨q2, hq2, h⟩ := bnd_e h
  rcases ite_e h with ⟨_, h⟩ | ⟨_, h⟩
  · obtain ⟨q3, hq3, h⟩ := bnd_e h
    have kq3 : q3 a = S a := (w_fX12_laysFromNow hq3 (by omega)).trans kS1
    obtain ⟨q4, hq4, h⟩ := bnd_e h
    obtain rfl := Option.some.inj h
    exact kq3
  · obtain rfl := Option.some.inj h
    exact kS1
set_option maxHeartbeats 4000000 in
theorem w_fX12_meetsAt {p1 : Int} {p2 : Int} {S : SS} {rr : Int × SS} (h : fX12_meetsAt p1 p2 S = some rr) {a : Nat} (ha : (a < 135 ∨ 136 < a) ∧ a ≠ 138 ∧ (a < 140 ∨ 141 < a)) : rr.2 a = S a := by
  unfold fX12_meetsAt at h
  obtain ⟨q1, hq1, h⟩ := bnd_e h
  have kq1 : q1 a = S a := (w_fX12_laysThen hq1 (by omega)).trans rfl
  obtain ⟨q2, hq2, h⟩ := bnd_e h
  obtain ⟨q3, hq3, h⟩ := bnd_e h
  have kq3 : q3 a = S a := (w_fX12_laysGone_120 hq3 (by omega)).trans kq1
  obtain ⟨q4, hq4, h⟩ := bnd_e h
  have kq4 : q4 a = S a := (w_fX12_laysFromNow hq4 (by omega)).trans kq3
  obtain ⟨x5, hx5, h⟩ := lt_e h
  obtain ⟨q6, hq6, h⟩ := bnd_e h
  obtain rfl := Option.some.inj h
  exact kq4
set_option maxHeartbeats 4000000 in
theorem w_fX12_meet {p1 : Int} {p2 : Int} {S : SS} {rr : Int × SS} (h : fX12_meet p1 p2 S = some rr) {a : Nat} (ha : a ≠ 130 ∧ (a < 135 ∨ 136 < a) ∧ a ≠ 138 ∧ (a < 140 ∨ 141 < a)) : rr.2 a = S a := by
  unfold fX12_meet at h
  obtain ⟨S1, hS1, h⟩ := lt_e h
  have kS1 : S1 a = S a := by rw [hS1]; exact ((up_row (by omega)).trans rfl)
  obtain ⟨q2, hq2, h⟩ := bnd_e h
  rcases ite_e h with ⟨_, h⟩ | ⟨_, h⟩
  · obtain ⟨q3, hq3, h⟩ := bnd_e h
    have kq3 : q3.2 a = S a := (w_fX12_meetsAt hq3 (by omega)).trans kS1
    rcases ite_e h with ⟨_, h⟩ | ⟨_, h⟩
    · obtain rfl := Option.some.inj h
      exact kq3
    · obtain ⟨v4, _, _, h⟩ := rdA_e h
      obtain ⟨v6, _, _, h⟩ := rdA_e h
      obtain rfl := Option.some.inj h
      exact kq3
  · obtain rfl := Option.some.inj h
    exact kS1
set_option maxHeartbeats 4000000 in
theorem w_fX12_meetAt {p1 : Int} {p2 : Int} {p3 : Int} {S : SS} {rr : Int × SS} (h : fX12_meetAt p1 p2 p3 S = some rr) {a : Nat} (ha : a ≠ 130 ∧ (a < 135 ∨ 136 < a) ∧ a ≠ 138 ∧ (a < 140 ∨ 141 < a)) : rr.2 a = S a := by
  unfold fX12_meetAt at h
  obtain ⟨S1, hS1, h⟩ := lt_e h
  have kS1 : S1 a = S a := by rw [hS1]; exact ((up_row (by omega)).trans rfl)
  obtain ⟨q2, hq2, h⟩ := bnd_e h
  rcases ite_e h with ⟨_, h⟩ | ⟨_, h⟩
  · obtain ⟨q3, hq3, h⟩ := bnd_e h
    rcases ite_e h with ⟨_, h⟩ | ⟨_, h⟩
    · obtain ⟨q4, hq4, h⟩ := bnd_e h
      have kq4 : q4.2 a = S a := (w_fX12_meetsAt hq4 (by omega)).trans kS1
      rcases ite_e h with ⟨_, h⟩ | ⟨_, h⟩
      · obtain rfl := Option.some.inj h
        exact kq4
      · rcases ite_e h with ⟨_, h⟩ | ⟨_, h⟩
        · obtain rfl := Option.some.inj h
          exact kq4
        · obtain rfl := Option.some.inj h
          exact kq4
    · obtain rfl := Option.some.inj h
      exact kS1
  · obtain rfl := Option.some.inj h
    exact kS1
set_option maxHeartbeats 4000000 in
theorem w_fX12_ring_L28  {a : Nat} (ha : a ≠ 141) : ∀ n l2 l3 S rr, fX12_ring_L28  n l2 l3 S = some rr → rr.2 a = S a := by
  intro n
  induction n with
  | zero => intro l2 l3 S rr h; cases h
  | succ n ih =>
    intro l2 l3 S rr h
    unfold fX12_ring_L28 at h
    obtain ⟨q1, hq1, h⟩ := bnd_e h
    rcases ite_e h with ⟨_, h⟩ | ⟨_, h⟩
    · obtain rfl := Option.some.inj h
      exact rfl
    · obtain ⟨v2, _, _, h⟩ := rdA_e h
      obtain ⟨q4, hq4, h⟩ := bnd_e h
      have kq4 : q4.2 a = S a := by
        rcases ite_e hq4 with ⟨_, hq4⟩ | ⟨_, hq4⟩
        · obtain rfl := Option.some.inj hq4
          exact rfl
        · obtain ⟨q5, hq5, hq4⟩ := bnd_e hq4
          have kq5 : q5 a = S a := (w_fX12_laysGone_120 hq5 (by omega)).trans rfl
          obtain ⟨q6, hq6, hq4⟩ := bnd_e hq4
          obtain rfl := Option.some.inj hq4
          exact kq5
      obtain ⟨x9, hx9, h⟩ := lt_e h
      exact (ih _ _ _ _ h).trans kq4
set_option maxHeartbeats 4000000 in
theorem w_fX12_ring {p1 : Int} {S : SS} {rr : Int × SS} (h : fX12_ring p1 S = some rr) {a : Nat} (ha : a ≠ 130 ∧ (a < 135 ∨ 136 < a) ∧ a ≠ 138 ∧ (a < 140 ∨ 141 < a)) : rr.2 a = S a := by
  unfold fX12_ring at h
  obtain ⟨S1, hS1, h⟩ := lt_e h
  have kS1 : S1 a = S a := by rw [hS1]; exact ((up_row (by omega)).trans rfl)
  obtain ⟨q2, hq2, h⟩ := bnd_e h
  rcases ite_e h with ⟨_, h⟩ | ⟨_, h⟩
  · obtain ⟨q3, hq3, h⟩ := bnd_e h
    have kq3 : q3 a = S a := (w_fX12_laysFromNow hq3 (by omega)).trans kS1
    obtain ⟨q4, hq4, h⟩ := bnd_e h
    have kq4 : q4.2 a = S a := (w_fX12_ring_L28 (by omega) _ _ _ _ _ hq4).trans kq3
    obtain ⟨q6, hq6, h⟩ := bnd_e h
    obtain rfl := Option.some.inj h
    exact kq4
  · obtain rfl := Option.some.inj h
    exact kS1
set_option maxHeartbeats 4000000 in
theorem w_fX12_laysBoth_L12 {l1 : Int} {l2 : Int} {a : Nat} (ha : (a < 135 ∨ 136 < a) ∧ a ≠ 144) : ∀ n l3 S rr, fX12_laysBoth_L12 l1 l2 n l3 S = some rr → rr a = S a := by
  intro n
  induction n with
  | zero => intro l3 S rr h; cases h
  | succ n ih =>
    intro l3 S rr h
    unfold fX12_laysBoth_L12 at h
    rcases ite_e h with ⟨_, h⟩ | ⟨_, h⟩
    · obtain rfl := Option.some.inj h
      exact rfl
    · obtain ⟨x1, hx1, h⟩ := lt_e h
      obtain ⟨v2, _, _, h⟩ := rdA_e h
      obtain ⟨q4, hq4, h⟩ := bnd_e h
      have kq4 : q4.2 a = S a := by
        rcases ite_e hq4 with ⟨_, hq4⟩ | ⟨_, hq4⟩
        · obtain rfl := Option.some.inj hq4
          exact rfl
        · obtain ⟨q5, hq5, hq4⟩ := bnd_e hq4
          rcases ite_e hq4 with ⟨_, hq4⟩ | ⟨_, hq4⟩
          · obtain ⟨q11, hq11, hq4⟩ := bnd_e hq4
            have kq11 : q11.2 a = S a := (w_fX12_whyBy hq11 (by omega)).trans rfl
            rcases ite_e hq4 with ⟨_, hq4⟩ | ⟨_, hq4⟩
            · obtain rfl := Option.some.inj hq4
              exact kq11
            · obtain rfl := Option.some.inj hq4
              exact kq11
          · obtain rfl := Option.some.inj hq4
            exact rfl
      obtain ⟨q15, hq15, h⟩ := bnd_e h
      have kq15 : q15.2 a = S a := by
        rcases ite_e hq15 with ⟨_, hq15⟩ | ⟨_, hq15⟩
        · obtain rfl := Option.some.inj hq15
          exact kq4
        · obtain ⟨q16, hq16, hq15⟩ := bnd_e hq15
          have kq16 : q16.2 a = S a := (w_fX12_goneTo hq16 (by omega)).trans kq4
          obtain rfl := Option.some.inj hq15
          exact kq16
      obtain ⟨S18, hS18, _, h⟩ := wrA_e h
      have kS18 : S18 a = S a := by rw [hS18]; exact ((up_row (by omega)).trans kq15)
      obtain ⟨x20, hx20, h⟩ := lt_e h
      exact (ih _ _ _ h).trans kS18
set_option maxHeartbeats 4000000 in
theorem w_fX12_laysBoth_L2 {l1 : Int} {a : Nat} (ha : (a < 135 ∨ 136 < a) ∧ a ≠ 144) : ∀ n l2 S rr, fX12_laysBoth_L2 l1 n l2 S = some rr → rr a = S a := by
  intro n
  induction n with
  | zero => intro l2 S rr h; cases h
  | succ n ih =>
    intro l2 S rr h
    unfold fX12_laysBoth_L2 at h
    obtain ⟨q1, hq1, h⟩ := bnd_e h
    rcases ite_e h with ⟨_, h⟩ | ⟨_, h⟩
    · obtain rfl := Option.some.inj h
      exact rfl
    · obtain ⟨q2, hq2, h⟩ := bnd_e h
      have kq2 : q2 a = S a := (w_fX12_laysBoth_L12 (by omega) _ _ _ _ hq2).trans rfl
      obtain ⟨x4, hx4, h⟩ := lt_e h
      exact (ih _ _ _ h).trans kq2
set_option maxHeartbeats 4000000 in
theorem w_fX12_laysBoth {p1 : Int} {S : SS} {rr : SS} (h : fX12_laysBoth p1 S = some rr) {a : Nat} (ha : (a < 135 ∨ 136 < a) ∧ a ≠ 144) : rr a = S a := by
  unfold fX12_laysBoth at h
  obtain ⟨q1, hq1, h⟩ := bnd_e h
  have kq1 : q1 a = S a := (w_fX12_laysBoth_L2 (by omega) _ _ _ _ hq1).trans rfl
  obtain rfl := Option.some.inj h
  exact kq1
set_option maxHeartbeats 4000000 in
theorem w_fX12_noRing_L2 {l1 : Int} {l2 : Int} {a : Nat} (ha : a ≠ 140 ∧ a ≠ 145) : ∀ n l3 S rr, fX12_noRing_L2 l1 l2 n l3 S = some rr → rr a = S a := by
  intro n
  induction n with
  | zero => intro l3 S rr h; cases h
  | succ n ih =>
    intro l3 S rr h
    unfold fX12_noRing_L2 at h
    rcases ite_e h with ⟨_, h⟩ | ⟨_, h⟩
    · obtain rfl := Option.some.inj h
      exact rfl
    · obtain ⟨q1, hq1, h⟩ := bnd_e h
      obtain ⟨q2, hq2, h⟩ := bnd_e h
      obtain ⟨S4, hS4, _, h⟩ := wrA_e h
      have kS4 : S4 a = S a := by rw [hS4]; exact ((up_row (by omega)).trans rfl)
      obtain ⟨S6, hS6, _, h⟩ := wrA_e h
      have kS6 : S6 a = S a := by rw [hS6]; exact ((up_row (by omega)).trans kS4)
      obtain ⟨x8, hx8, h⟩ := lt_e h
      exact (ih _ _ _ h).trans kS6
set_option maxHeartbeats 4000000 in
theorem w_fX12_noRing_L66 {l2 : Int} {l4 : Int} {a : Nat} (ha : a ≠ 140) : ∀ n l3 l5 S rr, fX12_noRing_L66 l2 l4 n l3 l5 S = some rr → rr.2 a = S a := by
  intro n
  induction n with
  | zero => intro l3 l5 S rr h; cases h
  | succ n ih =>
    intro l3 l5 S rr h
    unfold fX12_noRing_L66 at h
    obtain ⟨v1, _, _, h⟩ := rdA_e h
    rcases ite_e h with ⟨_, h⟩ | ⟨_, h⟩
    · obtain rfl := Option.some.inj h
      exact rfl
    · obtain ⟨v3, _, _, h⟩ := rdA_e h
      rcases ite_e h with ⟨_, h⟩ | ⟨_, h⟩
      · obtain ⟨q5, hq5, h⟩ := bnd_e h
        obtain ⟨q6, hq6, h⟩ := bnd_e h
        have kq6 : q6.2 a = S a := by
          rcases ite_e hq6 with ⟨_, hq6⟩ | ⟨_, hq6⟩
          · obtain rfl := Option.some.inj hq6
            exact rfl
          · obtain ⟨v7, _, _, hq6⟩ := rdA_e hq6
            rcases ite_e hq6 with ⟨_, hq6⟩ | ⟨_, hq6⟩
            · obtain rfl := Option.some.inj hq6
              exact rfl
            · obtain ⟨S9, hS9, _, hq6⟩ := wrA_e hq6
              have kS9 : S9 a = S a := by rw [hS9]; exact ((up_row (by omega)).trans rfl)
              obtain rfl := Option.some.inj hq6
              exact kS9
        obtain ⟨x13, hx13, h⟩ := lt_e h
        exact (ih _ _ _ _ h).trans kq6
      · obtain rfl := Option.some.inj h
        exact rfl
set_option maxHeartbeats 4000000 in
theorem w_fX12_noRing_L54 {l2 : Int} {a : Nat} (ha : a ≠ 140) : ∀ n l3 l4 S rr, fX12_noRing_L54 l2 n l3 l4 S = some rr → rr.2 a = S a := by
  intro n
  induction n with
  | zero => intro l3 l4 S rr h; cases h
  | succ n ih =>
    intro l3 l4 S rr h
    unfold fX12_noRing_L54 at h
    obtain ⟨q1, hq1, h⟩ := bnd_e h
    rcases ite_e h with ⟨_, h⟩ | ⟨_, h⟩
    · obtain rfl := Option.some.inj h
      exact rfl
    · obtain ⟨q2, hq2, h⟩ := bnd_e h
      have kq2 : q2.2 a = S a := (w_fX12_noRing_L66 (by omega) _ _ _ _ _ hq2).trans rfl
      obtain ⟨x4, hx4, h⟩ := lt_e h
      exact (ih _ _ _ _ h).trans kq2
set_option maxHeartbeats 4000000 in
theorem w_fX12_noRing_L45 {l2 : Int} {a : Nat} (ha : a ≠ 140) : ∀ n l3 S rr, fX12_noRing_L45 l2 n l3 S = some rr → rr a = S a := by
  intro n
  induction n with
  | zero => intro l3 S rr h; cases h
  | succ n ih =>
    intro l3 S rr h
    unfold fX12_noRing_L45 at h
    rcases ite_e h with ⟨_, h⟩ | ⟨_, h⟩
    · obtain rfl := Option.some.inj h
      exact rfl
    · obtain ⟨q1, hq1, h⟩ := bnd_e h
      have kq1 : q1.2 a = S a := (w_fX12_noRing_L54 (by omega) _ _ _ _ _ hq1).trans rfl
      exact (ih _ _ _ h).trans kq1
set_option maxHeartbeats 4000000 in
theorem w_fX12_noRing_L157 {l2 : Int} {l4 : Int} {a : Nat} (ha : a ≠ 145) : ∀ n l5 S rr, fX12_noRing_L157 l2 l4 n l5 S = some rr → rr a = S a := by
  intro n
  induction n with
  | zero => intro l5 S rr h; cases h
  | succ n ih =>
    intro l5 S rr h
    unfold fX12_noRing_L157 at h
    obtain ⟨v1, _, _, h⟩ := rdA_e h
    rcases ite_e h with ⟨_, h⟩ | ⟨_, h⟩
    · obtain rfl := Option.some.inj h
      exact rfl
    · obtain ⟨v3, _, _, h⟩ := rdA_e h
      rcases ite_e h with ⟨_, h⟩ | ⟨_, h⟩
      · obtain ⟨q5, hq5, h⟩ := bnd_e h
        obtain ⟨q6, hq6, h⟩ := bnd_e h
        have kq6 : q6 a = S a := by
          rcases ite_e hq6 with ⟨_, hq6⟩ | ⟨_, hq6⟩
          · obtain rfl := Option.some.inj hq6
            exact rfl
          · obtain ⟨q7, hq7, hq6⟩ := bnd_e hq6
            obtain ⟨v8, _, _, hq6⟩ := rdA_e hq6
            obtain ⟨S10, hS10, _, hq6⟩ := wrA_e hq6
            have kS10 : S10 a = S a := by rw [hS10]; exact ((up_row (by omega)).trans rfl)
            obtain rfl := Option.some.inj hq6
            exact kS10
        obtain ⟨x13, hx13, h⟩ := lt_e h
        exact (ih _ _ _ h).trans kq6
      · obtain rfl := Option.some.inj h
        exact rfl
set_option maxHeartbeats 4000000 in
theorem w_fX12_noRing_L145 {l2 : Int} {a : Nat} (ha : a ≠ 145) : ∀ n l4 S rr, fX12_noRing_L145 l2 n l4 S = some rr → rr a = S a := by
  intro n
  induction n with
  | zero => intro l4 S rr h; cases h
  | succ n ih =>
    intro l4 S rr h
    unfold fX12_noRing_L145 at h
    obtain ⟨q1, hq1, h⟩ := bnd_e h
    rcases ite_e h with ⟨_, h⟩ | ⟨_, h⟩
    · obtain rfl := Option.some.inj h
      exact rfl
    · obtain ⟨q2, hq2, h⟩ := bnd_e h
      have kq2 : q2 a = S a := (w_fX12_noRing_L157 (by omega) _ _ _ _ hq2).trans rfl
      obtain ⟨x4, hx4, h⟩ := lt_e h
      exact (ih _ _ _ h).trans kq2
set_option maxHeartbeats 4000000 in
theorem w_fX12_noRing_L279 {l2 : Int} {l3 : Int} {l4 : Int} {a : Nat} (ha : a ≠ 145) : ∀ n l5 S rr, fX12_noRing_L279 l2 l3 l4 n l5 S = some rr → rr a = S a := by
  intro n
  induction n with
  | zero => intro l5 S rr h; cases h
  | succ n ih =>
    intro l5 S rr h
    unfold fX12_noRing_L279 at h
    obtain ⟨v1, _, _, h⟩ := rdA_e h
    rcases ite_e h with ⟨_, h⟩ | ⟨_, h⟩
    · obtain rfl := Option.some.inj h
      exact rfl
    · obtain ⟨q3, hq3, h⟩ := bnd_e h
      obtain ⟨q4, hq4, h⟩ := bnd_e h
      have kq4 : q4 a = S a := by
        rcases ite_e hq4 with ⟨_, hq4⟩ | ⟨_, hq4⟩
        · obtain rfl := Option.some.inj hq4
          exact rfl
        · obtain ⟨q5, hq5, hq4⟩ := bnd_e hq4
          obtain ⟨v6, _, _, hq4⟩ := rdA_e hq4
          obtain ⟨S8, hS8, _, hq4⟩ := wrA_e hq4
          have kS8 : S8 a = S a := by rw [hS8]; exact ((up_row (by omega)).trans rfl)
          obtain rfl := Option.some.inj hq4
          exact kS8
      obtain ⟨x11, hx11, h⟩ := lt_e h
      exact (ih _ _ _ h).trans kq4
set_option maxHeartbeats 4000000 in
theorem w_fX12_noRing_L232 {l2 : Int} {a : Nat} (ha : a ≠ 140 ∧ a ≠ 145) : ∀ n l3 l4 S rr, fX12_noRing_L232 l2 n l3 l4 S = some rr → rr.2 a = S a := by
  intro n
  induction n with
  | zero => intro l3 l4 S rr h; cases h
  | succ n ih =>
    intro l3 l4 S rr h
    unfold fX12_noRing_L232 at h
    obtain ⟨q1, hq1, h⟩ := bnd_e h
    rcases ite_e h with ⟨_, h⟩ | ⟨_, h⟩
    · obtain rfl := Option.some.inj h
      exact rfl
    · obtain ⟨v2, _, _, h⟩ := rdA_e h
      obtain ⟨q4, hq4, h⟩ := bnd_e h
      have kq4 : q4.2 a = S a := by
        rcases ite_e hq4 with ⟨_, hq4⟩ | ⟨_, hq4⟩
        · obtain ⟨v5, _, _, hq4⟩ := rdA_e hq4
          rcases ite_e hq4 with ⟨_, hq4⟩ | ⟨_, hq4⟩
          · obtain ⟨S7, hS7, _, hq4⟩ := wrA_e hq4
            have kS7 : S7 a = S a := by rw [hS7]; exact ((up_row (by omega)).trans rfl)
            obtain ⟨q9, hq9, hq4⟩ := bnd_e hq4
            have kq9 : q9 a = S a := (w_fX12_noRing_L279 (by omega) _ _ _ _ hq9).trans kS7
            obtain rfl := Option.some.inj hq4
            exact kq9
          · obtain rfl := Option.some.inj hq4
            exact rfl
        · obtain rfl := Option.some.inj hq4
          exact rfl
      obtain ⟨x13, hx13, h⟩ := lt_e h
      exact (ih _ _ _ _ h).trans kq4
set_option maxHeartbeats 4000000 in
theorem w_fX12_noRing_L223 {l2 : Int} {a : Nat} (ha : a ≠ 140 ∧ a ≠ 145) : ∀ n l3 S rr, fX12_noRing_L223 l2 n l3 S = some rr → rr a = S a := by
  intro n
  induction n with
  | zero => intro l3 S rr h; cases h
  | succ n ih =>
    intro l3 S rr h
    unfold fX12_noRing_L223 at h
    rcases ite_e h with ⟨_, h⟩ | ⟨_, h⟩
    · obtain rfl := Option.some.inj h
      exact rfl
    · obtain ⟨q1, hq1, h⟩ := bnd_e h
      have kq1 : q1.2 a = S a := (w_fX12_noRing_L232 (by omega) _ _ _ _ _ hq1).trans rfl
      exact (ih _ _ _ h).trans kq1
set_option maxHeartbeats 4000000 in
theorem w_fX12_noRing {p1 : Int} {p2 : Int} {S : SS} {rr : Bool × SS} (h : fX12_noRing p1 p2 S = some rr) {a : Nat} (ha : a ≠ 140 ∧ a ≠ 145) : rr.2 a = S a := by
  unfold fX12_noRing at h
  obtain ⟨q1, hq1, h⟩ := bnd_e h
  have kq1 : q1 a = S a := (w_fX12_noRing_L2 (by omega) _ _ _ _ hq1).trans rfl
  obtain ⟨q3, hq3, h⟩ := bnd_e h
  have kq3 : q3 a = S a := (w_fX12_noRing_L45 (by omega) _ _ _ _ hq3).trans kq1
  obtain ⟨q5, hq5, h⟩ := bnd_e h
  have kq5 : q5 a = S a := (w_fX12_noRing_L145 (by omega) _ _ _ _ hq5).trans kq3
  obtain ⟨q7, hq7, h⟩ := bnd_e h
  have kq7 : q7 a = S a := (w_fX12_noRing_L223 (by omega) _ _ _ _ hq7).trans kq5
  obtain ⟨q9, hq9, h⟩ := bnd_e h
  rcases ite_e h with ⟨_, h⟩ | ⟨_, h⟩
  · obtain rfl := Option.some.inj h
    exact kq7
  · obtain rfl := Option.some.inj h
    exact kq7
set_option maxHeartbeats 4000000 in
theorem w_fX12_isByLaw {p1 : Int} {p2 : Int} {S : SS} {rr : Bool × SS} (h : fX12_isByLaw p1 p2 S = some rr) {a : Nat} (ha : a ≠ 140 ∧ a ≠ 145) : rr.2 a = S a := by
  unfold fX12_isByLaw at h
  obtain ⟨q1, hq1, h⟩ := bnd_e h
  rcases ite_e h with ⟨_, h⟩ | ⟨_, h⟩
  · obtain ⟨q2, hq2, h⟩ := bnd_e h
    have kq2 : q2.2 a = S a := (w_fX12_noRing hq2 (by omega)).trans rfl
    rcases ite_e h with ⟨_, h⟩ | ⟨_, h⟩
    · obtain rfl := Option.some.inj h
      exact kq2
    · obtain rfl := Option.some.inj h
      exact kq2
  · obtain rfl := Option.some.inj h
    exact rfl
set_option maxHeartbeats 4000000 in
theorem w_fX12_laws_L26 {l1 : Int} {a : Nat} (ha : a ≠ 140 ∧ a ≠ 145) : ∀ n l2 l3 S rr, fX12_laws_L26 l1 n l2 l3 S = some rr → rr.2 a = S a := by
  intro n
  induction n with
  | zero => intro l2 l3 S rr h; cases h
  | succ n ih =>
    intro l2 l3 S rr h
    unfold fX12_laws_L26 at h
    obtain ⟨v1, _, _, h⟩ := rdA_e h
    rcases ite_e h with ⟨_, h⟩ | ⟨_, h⟩
    · obtain rfl := Option.some.inj h
      exact rfl
    · obtain ⟨q3, hq3, h⟩ := bnd_e h
      have kq3 : q3.2 a = S a := (w_fX12_isByLaw hq3 (by omega)).trans rfl
      obtain ⟨q4, hq4, h⟩ := bnd_e h
      obtain ⟨x6, hx6, h⟩ := lt_e h
      obtain ⟨x7, hx7, h⟩ := lt_e h
      exact (ih _ _ _ _ h).trans kq3
set_option maxHeartbeats 4000000 in
theorem w_fX12_laws {p1 : Int} {S : SS} {rr : Int × SS} (h : fX12_laws p1 S = some rr) {a : Nat} (ha : a ≠ 130 ∧ (a < 135 ∨ 136 < a) ∧ a ≠ 140 ∧ (a < 144 ∨ 145 < a)) : rr.2 a = S a := by
  unfold fX12_laws at h
  obtain ⟨S1, hS1, h⟩ := lt_e h
  have kS1 : S1 a = S a := by rw [hS1]; exact ((up_row (by omega)).trans rfl)
  obtain ⟨q2, hq2, h⟩ := bnd_e h
  rcases ite_e h with ⟨_, h⟩ | ⟨_, h⟩
  · obtain ⟨q3, hq3, h⟩ := bnd_e h
    have kq3 : q3 a = S a := (w_fX12_laysBoth hq3 (by omega)).trans kS1
    obtain ⟨q4, hq4, h⟩ := bnd_e h
    have kq4 : q4.2 a = S a := (w_fX12_laws_L26 (by omega) _ _ _ _ _ hq4).trans kq3
    obtain rfl := Option.some.inj h
    exact kq4
  · obtain rfl := Option.some.inj h
    exact kS1
set_option maxHeartbeats 4000000 in
theorem w_fX12_bylaw_L37 {l1 : Int} {l2 : Int} {a : Nat} (ha : a ≠ 140 ∧ a ≠ 145) : ∀ n l3 l4 S rr, fX12_bylaw_L37 l1 l2 n l3 l4 S = some rr → rr.2 a = S a := by
  intro n
  induction n with
  | zero => intro l3 l4 S rr h; cases h
  | succ n ih =>
    intro l3 l4 S rr h
    unfold fX12_bylaw_L37 at h
    obtain ⟨v1, _, _, h⟩ := rdA_e h
    rcases ite_e h with ⟨_, h⟩ | ⟨_, h⟩
    · obtain rfl := Option.some.inj h
      exact rfl
    · obtain ⟨q3, hq3, h⟩ := bnd_e h
      have kq3 : q3.2 a = S a := by
        rcases ite_e hq3 with ⟨_, hq3⟩ | ⟨_, hq3⟩
        · obtain ⟨q4, hq4, hq3⟩ := bnd_e hq3
          have kq4 : q4.2 a = S a := (w_fX12_isByLaw hq4 (by omega)).trans rfl
          rcases ite_e hq3 with ⟨_, hq3⟩ | ⟨_, hq3⟩
          · obtain rfl := Option.some.inj hq3
            exact kq4
          · obtain rfl := Option.some.inj hq3
            exact kq4
        · obtain ⟨q6, hq6, hq3⟩ := bnd_e hq3
          obtain ⟨q7, hq7, hq3⟩ := bnd_e hq3
          rcases ite_e hq3 with ⟨_, hq3⟩ | ⟨_, hq3⟩
          · obtain rfl := Option.some.inj hq3
            exact rfl
          · obtain ⟨q8, hq8, hq3⟩ := bnd_e hq3
            have kq8 : q8.2 a = S a := (w_fX12_isByLaw hq8 (by omega)).trans rfl
            rcases ite_e hq3 with ⟨_, hq3⟩ | ⟨_, hq3⟩
            · obtain rfl := Option.some.inj hq3
              exact kq8
            · obtain rfl := Option.some.inj hq3
              exact kq8
      obtain ⟨x12, hx12, h⟩ := lt_e h
      exact (ih _ _ _ _ h).trans kq3
set_option maxHeartbeats 4000000 in
theorem w_fX12_bylaw {p1 : Int} {p2 : Int} {S : SS} {rr : Int × SS} (h : fX12_bylaw p1 p2 S = some rr) {a : Nat} (ha : a ≠ 130 ∧ (a < 135 ∨ 136 < a) ∧ a ≠ 140 ∧ (a < 144 ∨ 145 < a)) : rr.2 a = S a := by
  unfold fX12_bylaw at h
  obtain ⟨S1, hS1, h⟩ := lt_e h
  have kS1 : S1 a = S a := by rw [hS1]; exact ((up_row (by omega)).trans rfl)
  obtain ⟨q2, hq2, h⟩ := bnd_e h
  rcases ite_e h with ⟨_, h⟩ | ⟨_, h⟩
  · obtain ⟨q3, hq3, h⟩ := bnd_e h
    rcases ite_e h with ⟨_, h⟩ | ⟨_, h⟩
    · obtain ⟨q4, hq4, h⟩ := bnd_e h
      have kq4 : q4 a = S a := (w_fX12_laysBoth hq4 (by omega)).trans kS1
      obtain ⟨x5, hx5, h⟩ := lt_e h
      obtain ⟨q6, hq6, h⟩ := bnd_e h
      have kq6 : q6.2 a = S a := (w_fX12_bylaw_L37 (by omega) _ _ _ _ _ hq6).trans kq4
      rcases ite_e h with ⟨_, h⟩ | ⟨_, h⟩
      · obtain rfl := Option.some.inj h
        exact kq6
      · rcases ite_e h with ⟨_, h⟩ | ⟨_, h⟩
        · obtain rfl := Option.some.inj h
          exact kq6
        · obtain ⟨q8, hq8, h⟩ := bnd_e h
          obtain rfl := Option.some.inj h
          exact kq6
    · obtain rfl := Option.some.inj h
      exact kS1
  · obtain rfl := Option.some.inj h
    exact kS1
set_option maxHeartbeats 4000000 in
theorem w_fX12_canCome {p1 : Int} {p2 : Int} {p3 : Int} {S : SS} {rr : Bool × SS} (h : fX12_canCome p1 p2 p3 S = some rr) {a : Nat} (ha : (a < 135 ∨ 136 < a) ∧ a ≠ 138 ∧ a ≠ 140) : rr.2 a = S a := by
  unfold fX12_canCome at h
  obtain ⟨q1, hq1, h⟩ := bnd_e h
  have kq1 : q1 a = S a := (w_fX12_laysThen hq1 (by omega)).trans rfl
  obtain ⟨q2, hq2, h⟩ := bnd_e h
  obtain ⟨q3, hq3, h⟩ := bnd_e h
  have kq3 : q3 a = S a := (w_fX12_laysGone_120 hq3 (by omega)).trans kq1
  obtain ⟨q4, hq4, h⟩ := bnd_e h
  obtain ⟨q5, hq5, h⟩ := bnd_e h
  obtain rfl := Option.some.inj h
  exact kq3
set_option maxHeartbeats 4000000 in
theorem w_fX12_shut_L57 {l1 : Int} {l2 : Int} {l3 : Int} {a : Nat} (ha : (a < 135 ∨ 136 < a) ∧ a ≠ 138 ∧ a ≠ 140) : ∀ n l4 l5 S rr, fX12_shut_L57 l1 l2 l3 n l4 l5 S = some rr → rr.2 a = S a := by
  intro n
  induction n with
  | zero => intro l4 l5 S rr h; cases h
  | succ n ih =>
    intro l4 l5 S rr h
    unfold fX12_shut_L57 at h
    obtain ⟨v1, _, _, h⟩ := rdA_e h
    rcases ite_e h with ⟨_, h⟩ | ⟨_, h⟩
    · obtain rfl := Option.some.inj h
      exact rfl
    · obtain ⟨q3, hq3, h⟩ := bnd_e h
      obtain ⟨q4, hq4, h⟩ := bnd_e h
      have kq4 : q4.2 a = S a := by
        rcases ite_e hq4 with ⟨_, hq4⟩ | ⟨_, hq4⟩
        · rcases ite_e hq4 with ⟨_, hq4⟩ | ⟨_, hq4⟩
          · obtain ⟨q5, hq5, hq4⟩ := bnd_e hq4
            have kq5 : q5.2 a = S a := (w_fX12_canCome hq5 (by omega)).trans rfl
            rcases ite_e hq4 with ⟨_, hq4⟩ | ⟨_, hq4⟩
            · obtain rfl := Option.some.inj hq4
              exact kq5
            · obtain rfl := Option.some.inj hq4
              exact kq5
          · obtain ⟨q7, hq7, hq4⟩ := bnd_e hq4
            obtain ⟨q8, hq8, hq4⟩ := bnd_e hq4
            rcases ite_e hq4 with ⟨_, hq4⟩ | ⟨_, hq4⟩
            · obtain ⟨q9, hq9, hq4⟩ := bnd_e hq4
              have kq9 : q9.2 a = S a := (w_fX12_canCome hq9 (by omega)).trans rfl
              rcases ite_e hq4 with ⟨_, hq4⟩ | ⟨_, hq4⟩
              · obtain rfl := Option.some.inj hq4
                exact kq9
              · obtain rfl := Option.some.inj hq4
                exact kq9
            · obtain rfl := Option.some.inj hq4
              exact rfl
        · obtain rfl := Option.some.inj hq4
          exact rfl
      obtain ⟨x14, hx14, h⟩ := lt_e h
      exact (ih _ _ _ _ h).trans kq4
set_option maxHeartbeats 4000000 in
theorem w_fX12_shut {p1 : Int} {p2 : Int} {p3 : Int} {S : SS} {rr : Int × SS} (h : fX12_shut p1 p2 p3 S = some rr) {a : Nat} (ha : a ≠ 130 ∧ (a < 135 ∨ 136 < a) ∧ a ≠ 138 ∧ a ≠ 140) : rr.2 a = S a := by
  unfold fX12_shut at h
  obtain ⟨S1, hS1, h⟩ := lt_e h
  have kS1 : S1 a = S a := by rw [hS1]; exact ((up_row (by omega)).trans rfl)
  obtain ⟨q2, hq2, h⟩ := bnd_e h
  rcases ite_e h with ⟨_, h⟩ | ⟨_, h⟩
  · obtain ⟨q3, hq3, h⟩ := bnd_e h
    rcases ite_e h with ⟨_, h⟩ | ⟨_, h⟩
    · obtain ⟨q4, hq4, h⟩ := bnd_e h
      rcases ite_e h with ⟨_, h⟩ | ⟨_, h⟩
      · obtain ⟨v5, _, _, h⟩ := rdA_e h
        rcases ite_e h with ⟨_, h⟩ | ⟨_, h⟩
        · obtain rfl := Option.some.inj h
          exact kS1
        · obtain ⟨x7, hx7, h⟩ := lt_e h
          obtain ⟨q8, hq8, h⟩ := bnd_e h
          have kq8 : q8.2 a = S a := (w_fX12_shut_L57 (by omega) _ _ _ _ _ hq8).trans kS1
          rcases ite_e h with ⟨_, h⟩ | ⟨_, h⟩
          · obtain rfl := Option.some.inj h
            exact kq8
          · obtain ⟨q10, hq10, h⟩ := bnd_e h
            obtain rfl := Option.some.inj h
            exact kq8
      · obtain rfl := Option.some.inj h
        exact kS1
    · obtain rfl := Option.some.inj h
      exact kS1
  · obtain rfl := Option.some.inj h
    exact kS1
set_option maxHeartbeats 4000000 in
theorem w_fX12_needed_L43 {l1 : Int} {l2 : Int} {a : Nat} (ha : (a < 135 ∨ 136 < a) ∧ a ≠ 138 ∧ a ≠ 140) : ∀ n l3 l4 S rr, fX12_needed_L43 l1 l2 n l3 l4 S = some rr → rr.2 a = S a := by
  intro n
  induction n with
  | zero => intro l3 l4 S rr h; cases h
  | succ n ih =>
    intro l3 l4 S rr h
    unfold fX12_needed_L43 at h
    obtain ⟨v1, _, _, h⟩ := rdA_e h
    rcases ite_e h with ⟨_, h⟩ | ⟨_, h⟩
    · obtain rfl := Option.some.inj h
      exact rfl
    · obtain ⟨v3, _, _, h⟩ := rdA_e h
      obtain ⟨q5, hq5, h⟩ := bnd_e h
      have kq5 : q5.2 a = S a := by
        rcases ite_e hq5 with ⟨_, hq5⟩ | ⟨_, hq5⟩
        · obtain rfl := Option.some.inj hq5
          exact rfl
        · obtain ⟨q6, hq6, hq5⟩ := bnd_e hq5
          have kq6 : q6.2 a = S a := (w_fX12_canCome hq6 (by omega)).trans rfl
          rcases ite_e hq5 with ⟨_, hq5⟩ | ⟨_, hq5⟩
          · obtain rfl := Option.some.inj hq5
            exact kq6
          · obtain ⟨x7, hx7, hq5⟩ := lt_e hq5
            obtain rfl := Option.some.inj hq5
            exact kq6
      obtain ⟨x10, hx10, h⟩ := lt_e h
      exact (ih _ _ _ _ h).trans kq5
set_option maxHeartbeats 4000000 in
theorem w_fX12_needed {p1 : Int} {p2 : Int} {S : SS} {rr : Int × SS} (h : fX12_needed p1 p2 S = some rr) {a : Nat} (ha : a ≠ 130 ∧ (a < 135 ∨ 136 < a) ∧ a ≠ 138 ∧ a ≠ 140) : rr.2 a = S a := by
  unfold fX12_needed at h
  obtain ⟨S1, hS1, h⟩ := lt_e h
  have kS1 : S1 a = S a := by rw [hS1]; exact ((up_row (by omega)).trans rfl)
  obtain ⟨q2, hq2, h⟩ := bnd_e h
  rcases ite_e h with ⟨_, h⟩ | ⟨_, h⟩
  · obtain ⟨q3, hq3, h⟩ := bnd_e h
    rcases ite_e h with ⟨_, h⟩ | ⟨_, h⟩
    · obtain ⟨q4, hq4, h⟩ := bnd_e h
      have kq4 : q4.2 a = S a := (w_fX12_canCome hq4 (by omega)).trans kS1
      rcases ite_e h with ⟨_, h⟩ | ⟨_, h⟩
      · obtain ⟨q5, hq5, h⟩ := bnd_e h
        have kq5 : q5.2 a = S a := (w_fX12_needed_L43 (by omega) _ _ _ _ _ hq5).trans kq4
        obtain rfl := Option.some.inj h
        exact kq5
      · obtain rfl := Option.some.inj h
        exact kq4
    · obtain rfl := Option.some.inj h
      exact kS1
  · obtain rfl := Option.some.inj h
    exact kS1
set_option maxHeartbeats 4000000 in
theorem w_fX12_isTook_L6 {l1 : Int} {l2 : Int} {l4 : Int} {a : Nat} (ha : (a < 135 ∨ 136 < a)) : ∀ n l5 l6 S rr, fX12_isTook_L6 l1 l2 l4 n l5 l6 S = some rr → rr.2.2 a = S a := by
  intro n
  induction n with
  | zero => intro l5 l6 S rr h; cases h
  | succ n ih =>
    intro l5 l6 S rr h
    unfold fX12_isTook_L6 at h
    obtain ⟨v1, _, _, h⟩ := rdA_e h
    rcases ite_e h with ⟨_, h⟩ | ⟨_, h⟩
    · obtain rfl := Option.some.inj h
      exact rfl
    · obtain ⟨v3, _, _, h⟩ := rdA_e h
      obtain ⟨x5, hx5, h⟩ := lt_e h
      obtain ⟨v6, _, _, h⟩ := rdA_e h
      obtain ⟨q8, hq8, h⟩ := bnd_e h
      have kq8 : q8.2 a = S a := (w_fX12_whyBy hq8 (by omega)).trans rfl
      rcases ite_e h with ⟨_, h⟩ | ⟨_, h⟩
      · obtain ⟨q9, hq9, h⟩ := bnd_e h
        have kq9 : q9.2 a = S a := (w_fX12_goneTo hq9 (by omega)).trans kq8
        obtain ⟨x10, hx10, h⟩ := lt_e h
        exact (ih _ _ _ _ h).trans kq9
      · obtain rfl := Option.some.inj h
        exact kq8
set_option maxHeartbeats 4000000 in
theorem w_fX12_isTook {p1 : Int} {p2 : Int} {p3 : Int} {p4 : Int} {S : SS} {rr : Bool × SS} (h : fX12_isTook p1 p2 p3 p4 S = some rr) {a : Nat} (ha : (a < 135 ∨ 136 < a)) : rr.2 a = S a := by
  unfold fX12_isTook at h
  obtain ⟨q1, hq1, h⟩ := bnd_e h
  have kq1 : q1.2.2 a = S a := (w_fX12_isTook_L6 (by omega) _ _ _ _ _ hq1).trans rfl
  rcases ite_e h with ⟨_, h⟩ | ⟨_, h⟩
  · obtain rfl := Option.some.inj h
    exact kq1
  · rcases ite_e h with ⟨_, h⟩ | ⟨_, h⟩
    · obtain rfl := Option.some.inj h
      exact kq1
    · obtain rfl := Option.some.inj h
      exact kq1
set_option maxHeartbeats 4000000 in
theorem w_fX12_from_L28 {l1 : Int} {l2 : Int} {l3 : Int} {a : Nat} (ha : (a < 135 ∨ 136 < a)) : ∀ n l5 l6 S rr, fX12_from_L28 l1 l2 l3 n l5 l6 S = some rr → rr.2 a = S a := by
  intro n
  induction n with
  | zero => intro l5 l6 S rr h; cases h
  | succ n ih =>
    intro l5 l6 S rr h
    unfold fX12_from_L28 at h
    obtain ⟨v1, _, _, h⟩ := rdA_e h
    rcases ite_e h with ⟨_, h⟩ | ⟨_, h⟩
    · obtain rfl := Option.some.inj h
      exact rfl
    · obtain ⟨v3, _, _, h⟩ := rdA_e h
      obtain ⟨q5, hq5, h⟩ := bnd_e h
      have kq5 : q5.2 a = S a := (w_fX12_isTook hq5 (by omega)).trans rfl
      obtain ⟨q6, hq6, h⟩ := bnd_e h
      obtain ⟨x8, hx8, h⟩ := lt_e h
      obtain ⟨x9, hx9, h⟩ := lt_e h
      exact (ih _ _ _ _ h).trans kq5
set_option maxHeartbeats 4000000 in
theorem w_fX12_from {p1 : Int} {p2 : Int} {p3 : Int} {S : SS} {rr : Int × SS} (h : fX12_from p1 p2 p3 S = some rr) {a : Nat} (ha : a ≠ 130 ∧ (a < 135 ∨ 136 < a)) : rr.2 a = S a := by
  unfold fX12_from at h
  obtain ⟨S1, hS1, h⟩ := lt_e h
  have kS1 : S1 a = S a := by rw [hS1]; exact ((up_row (by omega)).trans rfl)
  obtain ⟨q2, hq2, h⟩ := bnd_e h
  rcases ite_e h with ⟨_, h⟩ | ⟨_, h⟩
  · obtain ⟨q3, hq3, h⟩ := bnd_e h
    have kq3 : q3.2 a = S a := (w_fX12_from_L28 (by omega) _ _ _ _ _ hq3).trans kS1
    obtain rfl := Option.some.inj h
    exact kq3
  · obtain rfl := Option.some.inj h
    exact kS1
set_option maxHeartbeats 4000000 in
theorem w_fX12_bollardsOf_L15 {l1 : Int} {l2 : Int} {l3 : Int} {l4 : Int} {a : Nat} (ha : a ≠ 131 ∧ (a < 135 ∨ 136 < a)) : ∀ n l5 l6 S rr, fX12_bollardsOf_L15 l1 l2 l3 l4 n l5 l6 S = some rr → rr.2 a = S a := by
  intro n
  induction n with
  | zero => intro l5 l6 S rr h; cases h
  | succ n ih =>
    intro l5 l6 S rr h
    unfold fX12_bollardsOf_L15 at h
    rcases ite_e h with ⟨_, h⟩ | ⟨_, h⟩
    · obtain rfl := Option.some.inj h
      exact rfl
    · obtain ⟨S1, hS1, _, h⟩ := wrA_e h
      have kS1 : S1 a = S a := by rw [hS1]; exact ((up_row (by omega)).trans rfl)
      obtain ⟨q3, hq3, h⟩ := bnd_e h
      obtain ⟨q4, hq4, h⟩ := bnd_e h
      have kq4 : q4.2 a = S a := (w_fX12_isTook hq4 (by omega)).trans kS1
      obtain ⟨q5, hq5, h⟩ := bnd_e h
      obtain ⟨x7, hx7, h⟩ := lt_e h
      obtain ⟨x8, hx8, h⟩ := lt_e h
      exact (ih _ _ _ _ h).trans kq4
set_option maxHeartbeats 4000000 in
theorem w_fX12_bollardsOf {p1 : Int} {p2 : Int} {p3 : Int} {S : SS} {rr : Int × SS} (h : fX12_bollardsOf p1 p2 p3 S = some rr) {a : Nat} (ha : a ≠ 131 ∧ (a < 135 ∨ 136 < a)) : rr.2 a = S a := by
  unfold fX12_bollardsOf at h
  obtain ⟨v1, _, _, h⟩ := rdA_e h
  obtain ⟨q3, hq3, h⟩ := bnd_e h
  have kq3 : q3.2 a = S a := (w_fX12_bollardsOf_L15 (by omega) _ _ _ _ _ hq3).trans rfl
  obtain ⟨S5, hS5, _, h⟩ := wrA_e h
  have kS5 : S5 a = S a := by rw [hS5]; exact ((up_row (by omega)).trans kq3)
  obtain rfl := Option.some.inj h
  exact kS5
set_option maxHeartbeats 4000000 in
theorem w_fX12_bollardsBy {p1 : Int} {p2 : Int} {p3 : Int} {S : SS} {rr : Int × SS} (h : fX12_bollardsBy p1 p2 p3 S = some rr) {a : Nat} (ha : (a < 130 ∨ 131 < a) ∧ (a < 135 ∨ 136 < a)) : rr.2 a = S a := by
  unfold fX12_bollardsBy at h
  obtain ⟨S1, hS1, h⟩ := lt_e h
  have kS1 : S1 a = S a := by rw [hS1]; exact ((up_row (by omega)).trans rfl)
  obtain ⟨q2, hq2, h⟩ := bnd_e h
  rcases ite_e h with ⟨_, h⟩ | ⟨_, h⟩
  · obtain ⟨q3, hq3, h⟩ := bnd_e h
    have kq3 : q3.2 a = S a := (w_fX12_bollardsOf hq3 (by omega)).trans kS1
    obtain rfl := Option.some.inj h
    exact kq3
  · obtain rfl := Option.some.inj h
    exact kS1
set_option maxHeartbeats 4000000 in
theorem w_fX12_mostOften_L15 {l1 : Int} {l2 : Int} {l3 : Int} {l4 : Int} {l5 : Int} {a : Nat} (ha : a ≠ 146) : ∀ n l6 S rr, fX12_mostOften_L15 l1 l2 l3 l4 l5 n l6 S = some rr → rr a = S a := by
  intro n
  induction n with
  | zero => intro l6 S rr h; cases h
  | succ n ih =>
    intro l6 S rr h
    unfold fX12_mostOften_L15 at h
    rcases ite_e h with ⟨_, h⟩ | ⟨_, h⟩
    · obtain rfl := Option.some.inj h
      exact rfl
    · obtain ⟨S1, hS1, _, h⟩ := wrA_e h
      have kS1 : S1 a = S a := by rw [hS1]; exact ((up_row (by omega)).trans rfl)
      obtain ⟨x3, hx3, h⟩ := lt_e h
      exact (ih _ _ _ h).trans kS1
set_option maxHeartbeats 4000000 in
theorem w_fX12_mostOften_L39 {l1 : Int} {l2 : Int} {l3 : Int} {l4 : Int} {a : Nat} (ha : a ≠ 131 ∧ (a < 135 ∨ 136 < a) ∧ a ≠ 146) : ∀ n l5 l6 S rr, fX12_mostOften_L39 l1 l2 l3 l4 n l5 l6 S = some rr → rr.2 a = S a := by
  intro n
  induction n with
  | zero => intro l5 l6 S rr h; cases h
  | succ n ih =>
    intro l5 l6 S rr h
    unfold fX12_mostOften_L39 at h
    rcases ite_e h with ⟨_, h⟩ | ⟨_, h⟩
    · obtain rfl := Option.some.inj h
      exact rfl
    · obtain ⟨q1, hq1, h⟩ := bnd_e h
      obtain ⟨q2, hq2, h⟩ := bnd_e h
      have kq2 : q2.2 a = S a := by
        rcases ite_e hq2 with ⟨_, hq2⟩ | ⟨_, hq2⟩
        · obtain ⟨S3, hS3, _, hq2⟩ := wrA_e hq2
          have kS3 : S3 a = S a := by rw [hS3]; exact ((up_row (by omega)).trans rfl)
          obtain ⟨q5, hq5, hq2⟩ := bnd_e hq2
          have kq5 : q5.2 a = S a := (w_fX12_whyGo hq5 (by omega)).trans kS3
          obtain ⟨q6, hq6, hq2⟩ := bnd_e hq2
          have kq6 : q6.2 a = S a := by
            rcases ite_e hq6 with ⟨_, hq6⟩ | ⟨_, hq6⟩
            · obtain ⟨q7, hq7, hq6⟩ := bnd_e hq6
              obtain ⟨q8, hq8, hq6⟩ := bnd_e hq6
              have kq8 : q8.2 a = S a := (w_fX12_goneTo hq8 (by omega)).trans kq5
              obtain rfl := Option.some.inj hq6
              exact kq8
            · obtain ⟨v9, _, _, hq6⟩ := rdA_e hq6
              obtain rfl := Option.some.inj hq6
              exact kq5
          obtain ⟨v12, _, _, hq2⟩ := rdA_e hq2
          obtain ⟨S14, hS14, _, hq2⟩ := wrA_e hq2
          have kS14 : S14 a = S a := by rw [hS14]; exact ((up_row (by omega)).trans kq6)
          obtain ⟨v16, _, _, hq2⟩ := rdA_e hq2
          obtain ⟨q18, hq18, hq2⟩ := bnd_e hq2
          obtain rfl := Option.some.inj hq2
          exact kS14
        · obtain rfl := Option.some.inj hq2
          exact rfl
      obtain ⟨x23, hx23, h⟩ := lt_e h
      exact (ih _ _ _ _ h).trans kq2
set_option maxHeartbeats 4000000 in
theorem w_fX12_mostOften {p1 : Int} {p2 : Int} {p3 : Int} {S : SS} {rr : Int × SS} (h : fX12_mostOften p1 p2 p3 S = some rr) {a : Nat} (ha : a ≠ 131 ∧ (a < 135 ∨ 136 < a) ∧ a ≠ 146) : rr.2 a = S a := by
  unfold fX12_mostOften at h
  obtain ⟨v1, _, _, h⟩ := rdA_e h
  obtain ⟨q3, hq3, h⟩ := bnd_e h
  have kq3 : q3 a = S a := (w_fX12_mostOften_L15 (by omega) _ _ _ _ hq3).trans rfl
  obtain ⟨q5, hq5, h⟩ := bnd_e h
  have kq5 : q5.2 a = S a := (w_fX12_mostOften_L39 (by omega) _ _ _ _ _ hq5).trans kq3
  obtain ⟨S7, hS7, _, h⟩ := wrA_e h
  have kS7 : S7 a = S a := by rw [hS7]; exact ((up_row (by omega)).trans kq5)
  obtain rfl := Option.some.inj h
  exact kS7
set_option maxHeartbeats 4000000 in
theorem w_fX12_attempt_L42 {l2 : Int} {l5 : Int} {a : Nat} (ha : a ≠ 131 ∧ (a < 135 ∨ 136 < a) ∧ a ≠ 146) : ∀ n l6 l7 l8 S rr, fX12_attempt_L42 l2 l5 n l6 l7 l8 S = some rr → rr.2 a = S a := by
  intro n
  induction n with
  | zero => intro l6 l7 l8 S rr h; cases h
  | succ n ih =>
    intro l6 l7 l8 S rr h
    unfold fX12_attempt_L42 at h
    obtain ⟨v1, _, _, h⟩ := rdA_e h
    rcases ite_e h with ⟨_, h⟩ | ⟨_, h⟩
    · obtain rfl := Option.some.inj h
      exact rfl
    · rcases ite_e h with ⟨_, h⟩ | ⟨_, h⟩
      · obtain rfl := Option.some.inj h
        exact rfl
      · obtain ⟨q3, hq3, h⟩ := bnd_e h
        have kq3 : q3.2 a = S a := (w_fX12_mostOften hq3 (by omega)).trans rfl
        obtain ⟨q4, hq4, h⟩ := bnd_e h
        obtain ⟨x6, hx6, h⟩ := lt_e h
        exact (ih _ _ _ _ _ h).trans kq3
set_option maxHeartbeats 4000000 in
theorem w_fX12_attempt {p1 : Int} {p2 : Int} {p3 : Int} {S : SS} {rr : Int × SS} (h : fX12_attempt p1 p2 p3 S = some rr) {a : Nat} (ha : (a < 130 ∨ 131 < a) ∧ (a < 135 ∨ 136 < a) ∧ a ≠ 146) : rr.2 a = S a := by
  unfold fX12_attempt at h
  obtain ⟨S1, hS1, h⟩ := lt_e h
  have kS1 : S1 a = S a := by rw [hS1]; exact ((up_row (by omega)).trans rfl)
  obtain ⟨q2, hq2, h⟩ := bnd_e h
  rcases ite_e h with ⟨_, h⟩ | ⟨_, h⟩
  · obtain ⟨q3, hq3, h⟩ := bnd_e h
    have kq3 : q3.2 a = S a := (w_fX12_bollardsOf hq3 (by omega)).trans kS1
    obtain ⟨x4, hx4, h⟩ := lt_e h
    obtain ⟨q5, hq5, h⟩ := bnd_e h
    have kq5 : q5.2 a = S a := (w_fX12_attempt_L42 (by omega) _ _ _ _ _ _ hq5).trans kq3
    obtain rfl := Option.some.inj h
    exact kq5
  · obtain rfl := Option.some.inj h
    exact kS1
set_option maxHeartbeats 4000000 in
theorem w_fX12_childs_L21 {rc : Nat → Int → Int → Int → Int → Int → Int → SS → Option (Bool × SS)} {l1 : Int} {l2 : Int} {l3 : Int} {l4 : Int} {l5 : Int} {a : Nat} (hrc : ∀ x0 x1 x2 x3 x4 x5 x6 x7 rr, rc x0 x1 x2 x3 x4 x5 x6 x7 = some rr → rr.2 a = x7 a) (ha : (a < 135 ∨ 136 < a)) : ∀ n l6 S rr, fX12_childs_L21 rc l1 l2 l3 l4 l5 n l6 S = some rr → rr.2 a = S a := by
  intro n
  induction n with
  | zero => intro l6 S rr h; cases h
  | succ n ih =>
    intro l6 S rr h
    unfold fX12_childs_L21 at h
    obtain ⟨v1, _, _, h⟩ := rdA_e h
    rcases ite_e h with ⟨_, h⟩ | ⟨_, h⟩
    · obtain rfl := Option.some.inj h
      exact rfl
    · obtain ⟨q3, hq3, h⟩ := bnd_e h
      have kq3 : q3.2 a = S a := (hrc _ _ _ _ _ _ _ _ _ hq3).trans rfl
      rcases ite_e h with ⟨_, h⟩ | ⟨_, h⟩
      · obtain rfl := Option.some.inj h
        exact kq3
      · obtain ⟨x4, hx4, h⟩ := lt_e h
        exact (ih _ _ _ h).trans kq3
set_option maxHeartbeats 4000000 in
theorem w_fX12_childs {rc : Nat → Int → Int → Int → Int → Int → Int → SS → Option (Bool × SS)} {p1 : Int} {p2 : Int} {p3 : Int} {p4 : Int} {p5 : Int} {S : SS} {rr : Bool × SS} {a : Nat} (hrc : ∀ x0 x1 x2 x3 x4 x5 x6 x7 rr, rc x0 x1 x2 x3 x4 x5 x6 x7 = some rr → rr.2 a = x7 a) (h : fX12_childs rc p1 p2 p3 p4 p5 S = some rr) (ha : (a < 135 ∨ 136 < a)) : rr.2 a = S a := by
  unfold fX12_childs at h
  rcases ite_e h with ⟨_, h⟩ | ⟨_, h⟩
  · obtain rfl := Option.some.inj h
    exact rfl
  · rcases ite_e h with ⟨_, h⟩ | ⟨_, h⟩
    · obtain rfl := Option.some.inj h
      exact rfl
    · obtain ⟨q1, hq1, h⟩ := bnd_e h
      have kq1 : q1.2 a = S a := (w_fX12_childs_L21 hrc (by omega) _ _ _ _ hq1).trans rfl
      rcases ite_e h with ⟨_, h⟩ | ⟨_, h⟩
      · obtain rfl := Option.some.inj h
        exact kq1
      · obtain ⟨q3, hq3, h⟩ := bnd_e h
        have kq3 : q3.2 a = S a := (hrc _ _ _ _ _ _ _ _ _ hq3).trans kq1
        obtain rfl := Option.some.inj h
        exact kq3
set_option maxHeartbeats 4000000 in
theorem w_fX12_childsBy {rc : Nat → Int → Int → Int → Int → Int → Int → SS → Option (Bool × SS)} {p1 : Int} {p2 : Int} {p3 : Int} {p4 : Int} {p5 : Int} {p6 : Int} {S : SS} {rr : Bool × SS} {a : Nat} (hrc : ∀ x0 x1 x2 x3 x4 x5 x6 x7 rr, rc x0 x1 x2 x3 x4 x5 x6 x7 = some rr → rr.2 a = x7 a) (h : fX12_childsBy rc p1 p2 p3 p4 p5 p6 S = some rr) (ha : (a < 135 ∨ 136 < a)) : rr.2 a = S a := by
  unfold fX12_childsBy at h
  obtain ⟨q1, hq1, h⟩ := bnd_e h
  rcases ite_e h with ⟨_, h⟩ | ⟨_, h⟩
  · obtain rfl := Option.some.inj h
    exact rfl
  · obtain ⟨v2, _, _, h⟩ := rdA_e h
    obtain ⟨q4, hq4, h⟩ := bnd_e h
    have kq4 : q4.2 a = S a := (w_fX12_whyBy hq4 (by omega)).trans rfl
    rcases ite_e h with ⟨_, h⟩ | ⟨_, h⟩
    · obtain ⟨q5, hq5, h⟩ := bnd_e h
      have kq5 : q5.2 a = S a := (w_fX12_goneTo hq5 (by omega)).trans kq4
      obtain ⟨q6, hq6, h⟩ := bnd_e h
      have kq6 : q6.2 a = S a := (hrc _ _ _ _ _ _ _ _ _ hq6).trans kq5
      rcases ite_e h with ⟨_, h⟩ | ⟨_, h⟩
      · obtain rfl := Option.some.inj h
        exact kq6
      · obtain rfl := Option.some.inj h
        exact kq6
    · obtain rfl := Option.some.inj h
      exact kq4
set_option maxHeartbeats 4000000 in
theorem w_fX12_wardens_L35 {rc : Nat → Int → Int → Int → Int → Int → Int → SS → Option (Bool × SS)} {l1 : Int} {l2 : Int} {l3 : Int} {l4 : Int} {l5 : Int} {a : Nat} (hrc : ∀ x0 x1 x2 x3 x4 x5 x6 x7 rr, rc x0 x1 x2 x3 x4 x5 x6 x7 = some rr → rr.2 a = x7 a) (ha : (a < 135 ∨ 136 < a)) : ∀ n l6 S rr, fX12_wardens_L35 rc l1 l2 l3 l4 l5 n l6 S = some rr → rr.2 a = S a := by
  intro n
  induction n with
  | zero => intro l6 S rr h; cases h
  | succ n ih =>
    intro l6 S rr h
    unfold fX12_wardens_L35 at h
    obtain ⟨v1, _, _, h⟩ := rdA_e h
    rcases ite_e h with ⟨_, h⟩ | ⟨_, h⟩
    · obtain rfl := Option.some.inj h
      exact rfl
    · obtain ⟨q3, hq3, h⟩ := bnd_e h
      rcases ite_e h with ⟨_, h⟩ | ⟨_, h⟩
      · obtain ⟨x4, hx4, h⟩ := lt_e h
        exact (ih _ _ _ h).trans rfl
      · obtain ⟨v5, _, _, h⟩ := rdA_e h
        rcases ite_e h with ⟨_, h⟩ | ⟨_, h⟩
        · obtain ⟨x7, hx7, h⟩ := lt_e h
          exact (ih _ _ _ h).trans rfl
        · obtain ⟨q8, hq8, h⟩ := bnd_e h
          have kq8 : q8.2 a = S a := (hrc _ _ _ _ _ _ _ _ _ hq8).trans rfl
          rcases ite_e h with ⟨_, h⟩ | ⟨_, h⟩
          · obtain ⟨x9, hx9, h⟩ := lt_e h
            exact (ih _ _ _ h).trans kq8
          · obtain rfl := Option.some.inj h
            exact kq8
set_option maxHeartbeats 4000000 in
theorem w_fX12_wardens {rc : Nat → Int → Int → Int → Int → Int → Int → SS → Option (Bool × SS)} {p1 : Int} {p2 : Int} {p3 : Int} {p4 : Int} {p5 : Int} {S : SS} {rr : Bool × SS} {a : Nat} (hrc : ∀ x0 x1 x2 x3 x4 x5 x6 x7 rr, rc x0 x1 x2 x3 x4 x5 x6 x7 = some rr → rr.2 a = x7 a) (h : fX12_wardens rc p1 p2 p3 p4 p5 S = some rr) (ha : (a < 135 ∨ 136 < a)) : rr.2 a = S a := by
  unfold fX12_wardens at h
  rcases ite_e h with ⟨_, h⟩ | ⟨_, h⟩
  · obtain rfl := Option.some.inj h
    exact rfl
  · rcases ite_e h with ⟨_, h⟩ | ⟨_, h⟩
    · obtain rfl := Option.some.inj h
      exact rfl
    · obtain ⟨q1, hq1, h⟩ := bnd_e h
      have kq1 : q1.2 a = S a := (hrc _ _ _ _ _ _ _ _ _ hq1).trans rfl
      rcases ite_e h with ⟨_, h⟩ | ⟨_, h⟩
      · obtain ⟨q2, hq2, h⟩ := bnd_e h
        have kq2 : q2.2 a = S a := (w_fX12_wardens_L35 hrc (by omega) _ _ _ _ hq2).trans kq1
        rcases ite_e h with ⟨_, h⟩ | ⟨_, h⟩
        · obtain rfl := Option.some.inj h
          exact kq2
        · obtain rfl := Option.some.inj h
          exact kq2
      · obtain rfl := Option.some.inj h
        exact kq1
theorem w_fGX12_childs {a : Nat} (ha : (a < 135 ∨ 136 < a)) : ∀ n x0 x1 x2 x3 x4 x5 x6 x7 rr, fGX12_childs n x0 x1 x2 x3 x4 x5 x6 x7 = some rr → rr.2 a = x7 a := by
  intro n
  induction n with
  | zero => intro x0 x1 x2 x3 x4 x5 x6 x7 rr h; cases h
  | succ n ih =>
    intro x0 x1 x2 x3 x4 x5 x6 x7 rr h
    unfold fGX12_childs at h
    rcases ite_e h with ⟨_, h⟩ | ⟨_, h⟩
    · exact w_fX12_childs ih h ha
    rcases ite_e h with ⟨_, h⟩ | ⟨_, h⟩
    · exact w_fX12_childsBy ih h ha
    exact w_fX12_wardens ih h ha
theorem w_gX12_childs {p1 : Int} {p2 : Int} {p3 : Int} {p4 : Int} {p5 : Int} {S : SS} {rr : Bool × SS} (h : gX12_childs p1 p2 p3 p4 p5 S = some rr) {a : Nat} (ha : (a < 135 ∨ 136 < a)) : rr.2 a = S a := w_fGX12_childs ha _ _ _ _ _ _ _ _ _ _ h
theorem w_gX12_childsBy {p1 : Int} {p2 : Int} {p3 : Int} {p4 : Int} {p5 : Int} {p6 : Int} {S : SS} {rr : Bool × SS} (h : gX12_childsBy p1 p2 p3 p4 p5 p6 S = some rr) {a : Nat} (ha : (a < 135 ∨ 136 < a)) : rr.2 a = S a := w_fGX12_childs ha _ _ _ _ _ _ _ _ _ _ h
theorem w_gX12_wardens {p1 : Int} {p2 : Int} {p3 : Int} {p4 : Int} {p5 : Int} {S : SS} {rr : Bool × SS} (h : gX12_wardens p1 p2 p3 p4 p5 S = some rr) {a : Nat} (ha : (a < 135 ∨ 136 < a)) : rr.2 a = S a := w_fGX12_childs ha _ _ _ _ _ _ _ _ _ _ h
set_option maxHeartbeats 4000000 in
theorem w_fX12_forcedIn_L2 {l1 : Int} {l2 : Int} {a : Nat} (ha : (a < 135 ∨ 136 < a)) : ∀ n l3 S rr, fX12_forcedIn_L2 l1 l2 n l3 S = some rr → rr.2.2 a = S a := by
  intro n
  induction n with
  | zero => intro l3 S rr h; cases h
  | succ n ih =>
    intro l3 S rr h
    unfold fX12_forcedIn_L2 at h
    rcases ite_e h with ⟨_, h⟩ | ⟨_, h⟩
    · obtain rfl := Option.some.inj h
      exact rfl
    · obtain ⟨q1, hq1, h⟩ := bnd_e h
      obtain ⟨q2, hq2, h⟩ := bnd_e h
      have kq2 : q2.2 a = S a := (w_gX12_childs hq2 (by omega)).trans rfl
      rcases ite_e h with ⟨_, h⟩ | ⟨_, h⟩
      · obtain rfl := Option.some.inj h
        exact kq2
      · obtain ⟨x3, hx3, h⟩ := lt_e h
        exact (ih _ _ _ h).trans kq2
set_option maxHeartbeats 4000000 in
theorem w_fX12_forcedIn {p1 : Int} {p2 : Int} {S : SS} {rr : Int × SS} (h : fX12_forcedIn p1 p2 S = some rr) {a : Nat} (ha : (a < 135 ∨ 136 < a)) : rr.2 a = S a := by
  unfold fX12_forcedIn at h
  obtain ⟨q1, hq1, h⟩ := bnd_e h
  have kq1 : q1.2.2 a = S a := (w_fX12_forcedIn_L2 (by omega) _ _ _ _ hq1).trans rfl
  rcases ite_e h with ⟨_, h⟩ | ⟨_, h⟩
  · obtain rfl := Option.some.inj h
    exact kq1
  · obtain rfl := Option.some.inj h
    exact kq1
set_option maxHeartbeats 4000000 in
theorem w_fX12_forces {p1 : Int} {p2 : Int} {S : SS} {rr : Int × SS} (h : fX12_forces p1 p2 S = some rr) {a : Nat} (ha : a ≠ 130 ∧ (a < 135 ∨ 136 < a)) : rr.2 a = S a := by
  unfold fX12_forces at h
  obtain ⟨S1, hS1, h⟩ := lt_e h
  have kS1 : S1 a = S a := by rw [hS1]; exact ((up_row (by omega)).trans rfl)
  obtain ⟨q2, hq2, h⟩ := bnd_e h
  rcases ite_e h with ⟨_, h⟩ | ⟨_, h⟩
  · obtain ⟨q3, hq3, h⟩ := bnd_e h
    rcases ite_e h with ⟨_, h⟩ | ⟨_, h⟩
    · obtain ⟨q4, hq4, h⟩ := bnd_e h
      have kq4 : q4.2 a = S a := (w_fX12_forcedIn hq4 (by omega)).trans kS1
      obtain rfl := Option.some.inj h
      exact kq4
    · obtain rfl := Option.some.inj h
      exact kS1
  · obtain rfl := Option.some.inj h
    exact kS1
set_option maxHeartbeats 4000000 in
theorem w_fX12_best_L43 {l1 : Int} {l2 : Int} {l3 : Int} {a : Nat} (ha : (a < 135 ∨ 136 < a)) : ∀ n l4 S rr, fX12_best_L43 l1 l2 l3 n l4 S = some rr → rr.2.2 a = S a := by
  intro n
  induction n with
  | zero => intro l4 S rr h; cases h
  | succ n ih =>
    intro l4 S rr h
    unfold fX12_best_L43 at h
    obtain ⟨v1, _, _, h⟩ := rdA_e h
    rcases ite_e h with ⟨_, h⟩ | ⟨_, h⟩
    · obtain rfl := Option.some.inj h
      exact rfl
    · obtain ⟨q3, hq3, h⟩ := bnd_e h
      obtain ⟨q4, hq4, h⟩ := bnd_e h
      have kq4 : q4.2 a = S a := (w_gX12_childsBy hq4 (by omega)).trans rfl
      rcases ite_e h with ⟨_, h⟩ | ⟨_, h⟩
      · obtain rfl := Option.some.inj h
        exact kq4
      · obtain ⟨x5, hx5, h⟩ := lt_e h
        exact (ih _ _ _ h).trans kq4
set_option maxHeartbeats 4000000 in
theorem w_fX12_best {p1 : Int} {p2 : Int} {S : SS} {rr : Int × SS} (h : fX12_best p1 p2 S = some rr) {a : Nat} (ha : a ≠ 130 ∧ (a < 135 ∨ 136 < a)) : rr.2 a = S a := by
  unfold fX12_best at h
  obtain ⟨S1, hS1, h⟩ := lt_e h
  have kS1 : S1 a = S a := by rw [hS1]; exact ((up_row (by omega)).trans rfl)
  obtain ⟨q2, hq2, h⟩ := bnd_e h
  rcases ite_e h with ⟨_, h⟩ | ⟨_, h⟩
  · obtain ⟨q3, hq3, h⟩ := bnd_e h
    rcases ite_e h with ⟨_, h⟩ | ⟨_, h⟩
    · obtain ⟨q4, hq4, h⟩ := bnd_e h
      have kq4 : q4.2 a = S a := (w_fX12_forcedIn hq4 (by omega)).trans kS1
      rcases ite_e h with ⟨_, h⟩ | ⟨_, h⟩
      · obtain ⟨q5, hq5, h⟩ := bnd_e h
        have kq5 : q5.2.2 a = S a := (w_fX12_best_L43 (by omega) _ _ _ _ hq5).trans kq4
        rcases ite_e h with ⟨_, h⟩ | ⟨_, h⟩
        · obtain rfl := Option.some.inj h
          exact kq5
        · obtain rfl := Option.some.inj h
          exact kq5
      · obtain rfl := Option.some.inj h
        exact kq4
    · obtain rfl := Option.some.inj h
      exact kS1
  · obtain rfl := Option.some.inj h
    exact kS1
set_option maxHeartbeats 4000000 in
theorem w_fX12_laysLikely_L10 {l2 : Int} {a : Nat} (ha : (a < 142 ∨ 143 < a)) : ∀ n l3 l4 S rr, fX12_laysLikely_L10 l2 n l3 l4 S = some rr → rr.2 a = S a := by
  intro n
  induction n with
  | zero => intro l3 l4 S rr h; cases h
  | succ n ih =>
    intro l3 l4 S rr h
    unfold fX12_laysLikely_L10 at h
    rcases ite_e h with ⟨_, h⟩ | ⟨_, h⟩
    · obtain rfl := Option.some.inj h
      exact rfl
    · obtain ⟨v1, _, _, h⟩ := rdA_e h
      rcases ite_e h with ⟨_, h⟩ | ⟨_, h⟩
      · obtain rfl := Option.some.inj h
        exact rfl
      · obtain ⟨q3, hq3, h⟩ := bnd_e h
        have kq3 : q3 a = S a := (w_fX12_goesMany hq3 (by omega)).trans rfl
        obtain ⟨v4, _, _, h⟩ := rdA_e h
        obtain ⟨x6, hx6, h⟩ := lt_e h
        obtain ⟨x7, hx7, h⟩ := lt_e h
        exact (ih _ _ _ _ h).trans kq3
set_option maxHeartbeats 4000000 in
theorem w_fX12_laysLikely {p1 : Int} {p2 : Int} {S : SS} {rr : Int × SS} (h : fX12_laysLikely p1 p2 S = some rr) {a : Nat} (ha : (a < 135 ∨ 136 < a) ∧ a ≠ 138 ∧ (a < 142 ∨ 143 < a)) : rr.2 a = S a := by
  unfold fX12_laysLikely at h
  obtain ⟨q1, hq1, h⟩ := bnd_e h
  have kq1 : q1 a = S a := (w_fX12_beginsMany hq1 (by omega)).trans rfl
  obtain ⟨q2, hq2, h⟩ := bnd_e h
  have kq2 : q2.2 a = S a := (w_fX12_laysLikely_L10 (by omega) _ _ _ _ _ hq2).trans kq1
  obtain rfl := Option.some.inj h
  exact kq2
set_option maxHeartbeats 4000000 in
theorem w_fX12_chance {p1 : Int} {p2 : Int} {p3 : Int} {p4 : Int} {S : SS} {rr : Int × SS} (h : fX12_chance p1 p2 p3 p4 S = some rr) {a : Nat} (ha : a ≠ 130 ∧ (a < 135 ∨ 136 < a) ∧ a ≠ 138 ∧ (a < 142 ∨ 143 < a)) : rr.2 a = S a := by
  unfold fX12_chance at h
  obtain ⟨S1, hS1, h⟩ := lt_e h
  have kS1 : S1 a = S a := by rw [hS1]; exact ((up_row (by omega)).trans rfl)
  obtain ⟨q2, hq2, h⟩ := bnd_e h
  rcases ite_e h with ⟨_, h⟩ | ⟨_, h⟩
  · obtain ⟨q3, hq3, h⟩ := bnd_e h
    rcases ite_e h with ⟨_, h⟩ | ⟨_, h⟩
    · obtain ⟨q4, hq4, h⟩ := bnd_e h
      rcases ite_e h with ⟨_, h⟩ | ⟨_, h⟩
      · obtain ⟨q5, hq5, h⟩ := bnd_e h
        rcases ite_e h with ⟨_, h⟩ | ⟨_, h⟩
        · obtain ⟨q6, hq6, h⟩ := bnd_e h
          have kq6 : q6.2 a = S a := (w_fX12_laysLikely hq6 (by omega)).trans kS1
          obtain ⟨q7, hq7, h⟩ := bnd_e h
          obtain ⟨q8, hq8, h⟩ := bnd_e h
          obtain rfl := Option.some.inj h
          exact kq6
        · obtain rfl := Option.some.inj h
          exact kS1
      · obtain rfl := Option.some.inj h
        exact kS1
    · obtain rfl := Option.some.inj h
      exact kS1
  · obtain rfl := Option.some.inj h
    exact kS1
set_option maxHeartbeats 4000000 in
theorem w_fX12_mean {p1 : Int} {p2 : Int} {p3 : Int} {S : SS} {rr : Int × SS} (h : fX12_mean p1 p2 p3 S = some rr) {a : Nat} (ha : a ≠ 130 ∧ (a < 135 ∨ 136 < a) ∧ a ≠ 138 ∧ (a < 142 ∨ 143 < a)) : rr.2 a = S a := by
  unfold fX12_mean at h
  obtain ⟨S1, hS1, h⟩ := lt_e h
  have kS1 : S1 a = S a := by rw [hS1]; exact ((up_row (by omega)).trans rfl)
  obtain ⟨q2, hq2, h⟩ := bnd_e h
  rcases ite_e h with ⟨_, h⟩ | ⟨_, h⟩
  · obtain ⟨q3, hq3, h⟩ := bnd_e h
    rcases ite_e h with ⟨_, h⟩ | ⟨_, h⟩
    · obtain ⟨q4, hq4, h⟩ := bnd_e h
      rcases ite_e h with ⟨_, h⟩ | ⟨_, h⟩
      · obtain ⟨q5, hq5, h⟩ := bnd_e h
        have kq5 : q5.2 a = S a := (w_fX12_laysLikely hq5 (by omega)).trans kS1
        obtain ⟨q6, hq6, h⟩ := bnd_e h
        obtain ⟨q8, hq8, h⟩ := bnd_e h
        obtain rfl := Option.some.inj h
        exact kq5
      · obtain rfl := Option.some.inj h
        exact kS1
    · obtain rfl := Option.some.inj h
      exact kS1
  · obtain rfl := Option.some.inj h
    exact kS1
set_option maxHeartbeats 4000000 in
theorem w_fX12_likeliest {p1 : Int} {p2 : Int} {S : SS} {rr : Int × SS} (h : fX12_likeliest p1 p2 S = some rr) {a : Nat} (ha : a ≠ 130 ∧ (a < 135 ∨ 136 < a) ∧ a ≠ 138 ∧ (a < 142 ∨ 143 < a)) : rr.2 a = S a := by
  unfold fX12_likeliest at h
  obtain ⟨S1, hS1, h⟩ := lt_e h
  have kS1 : S1 a = S a := by rw [hS1]; exact ((up_row (by omega)).trans rfl)
  obtain ⟨q2, hq2, h⟩ := bnd_e h
  rcases ite_e h with ⟨_, h⟩ | ⟨_, h⟩
  · obtain ⟨q3, hq3, h⟩ := bnd_e h
    rcases ite_e h with ⟨_, h⟩ | ⟨_, h⟩
    · obtain ⟨q4, hq4, h⟩ := bnd_e h
      have kq4 : q4.2 a = S a := (w_fX12_laysLikely hq4 (by omega)).trans kS1
      obtain ⟨q5, hq5, h⟩ := bnd_e h
      obtain rfl := Option.some.inj h
      exact kq4
    · obtain rfl := Option.some.inj h
      exact kS1
  · obtain rfl := Option.some.inj h
    exact kS1
set_option maxHeartbeats 4000000 in
theorem w_fX12_numbers_L64 {l1 : Int} {l3 : Int} {a : Nat} (ha : a ≠ 149) : ∀ n l4 S rr, fX12_numbers_L64 l1 l3 n l4 S = some rr → rr a = S a := by
  intro n
  induction n with
  | zero => intro l4 S rr h; cases h
  | succ n ih =>
    intro l4 S rr h
    unfold fX12_numbers_L64 at h
    rcases ite_e h with ⟨_, h⟩ | ⟨_, h⟩
    · obtain rfl := Option.some.inj h
      exact rfl
    · obtain ⟨S1, hS1, _, h⟩ := wrA_e h
      have kS1 : S1 a = S a := by rw [hS1]; exact ((up_row (by omega)).trans rfl)
      obtain ⟨x3, hx3, h⟩ := lt_e h
      exact (ih _ _ _ h).trans kS1
set_option maxHeartbeats 4000000 in
theorem w_fX12_numbers {p1 : Int} {p2 : Int} {p3 : Int} {S : SS} {rr : Int × SS} (h : fX12_numbers p1 p2 p3 S = some rr) {a : Nat} (ha : a ≠ 130 ∧ (a < 147 ∨ 149 < a)) : rr.2 a = S a := by
  unfold fX12_numbers at h
  obtain ⟨S1, hS1, h⟩ := lt_e h
  have kS1 : S1 a = S a := by rw [hS1]; exact ((up_row (by omega)).trans rfl)
  obtain ⟨q2, hq2, h⟩ := bnd_e h
  rcases ite_e h with ⟨_, h⟩ | ⟨_, h⟩
  · obtain ⟨q3, hq3, h⟩ := bnd_e h
    rcases ite_e h with ⟨_, h⟩ | ⟨_, h⟩
    · obtain ⟨q4, hq4, h⟩ := bnd_e h
      rcases ite_e h with ⟨_, h⟩ | ⟨_, h⟩
      · obtain ⟨S5, hS5, _, h⟩ := wrA_e h
        have kS5 : S5 a = S a := by rw [hS5]; exact ((up_row (by omega)).trans kS1)
        obtain ⟨S7, hS7, _, h⟩ := wrA_e h
        have kS7 : S7 a = S a := by rw [hS7]; exact ((up_row (by omega)).trans kS5)
        obtain ⟨q9, hq9, h⟩ := bnd_e h
        have kq9 : q9 a = S a := (w_fX12_numbers_L64 (by omega) _ _ _ _ hq9).trans kS7
        obtain rfl := Option.some.inj h
        exact kq9
      · obtain rfl := Option.some.inj h
        exact kS1
    · obtain rfl := Option.some.inj h
      exact kS1
  · obtain rfl := Option.some.inj h
    exact kS1
set_option maxHeartbeats 4000000 in
theorem w_fX12_write {p1 : Int} {p2 : Int} {p3 : Int} {S : SS} {rr : Int × SS} (h : fX12_write p1 p2 p3 S = some rr) {a : Nat} (ha : a ≠ 130 ∧ a ≠ 149) : rr.2 a = S a := by
  unfold fX12_write at h
  obtain ⟨S1, hS1, h⟩ := lt_e h
  have kS1 : S1 a = S a := by rw [hS1]; exact ((up_row (by omega)).trans rfl)
  obtain ⟨q2, hq2, h⟩ := bnd_e h
  rcases ite_e h with ⟨_, h⟩ | ⟨_, h⟩
  · obtain ⟨v3, _, _, h⟩ := rdA_e h
    obtain ⟨q5, hq5, h⟩ := bnd_e h
    rcases ite_e h with ⟨_, h⟩ | ⟨_, h⟩
    · obtain ⟨v6, _, _, h⟩ := rdA_e h
      obtain ⟨q8, hq8, h⟩ := bnd_e h
      obtain ⟨S9, hS9, _, h⟩ := wrA_e h
      have kS9 : S9 a = S a := by rw [hS9]; exact ((up_row (by omega)).trans kS1)
      obtain ⟨v11, _, _, h⟩ := rdA_e h
      obtain rfl := Option.some.inj h
      exact kS9
    · obtain rfl := Option.some.inj h
      exact kS1
  · obtain rfl := Option.some.inj h
    exact kS1
set_option maxHeartbeats 4000000 in
theorem w_fX12_lists_L119 {l1 : Int} {l2 : Int} {l7 : Int} {a : Nat} (ha : a ≠ 149) : ∀ n l8 S rr, fX12_lists_L119 l1 l2 l7 n l8 S = some rr → rr a = S a := by
  intro n
  induction n with
  | zero => intro l8 S rr h; cases h
  | succ n ih =>
    intro l8 S rr h
    unfold fX12_lists_L119 at h
    rcases ite_e h with ⟨_, h⟩ | ⟨_, h⟩
    · obtain rfl := Option.some.inj h
      exact rfl
    · obtain ⟨q1, hq1, h⟩ := bnd_e h
      obtain ⟨S2, hS2, _, h⟩ := wrA_e h
      have kS2 : S2 a = S a := by rw [hS2]; exact ((up_row (by omega)).trans rfl)
      obtain ⟨x4, hx4, h⟩ := lt_e h
      exact (ih _ _ _ h).trans kS2
set_option maxHeartbeats 4000000 in
theorem w_fX12_lists {p1 : Int} {p2 : Int} {p3 : Int} {p4 : Int} {S : SS} {rr : Int × SS} (h : fX12_lists p1 p2 p3 p4 S = some rr) {a : Nat} (ha : a ≠ 130 ∧ (a < 135 ∨ 136 < a) ∧ (a < 138 ∨ 139 < a) ∧ a ≠ 149) : rr.2 a = S a := by
  unfold fX12_lists at h
  obtain ⟨S1, hS1, h⟩ := lt_e h
  have kS1 : S1 a = S a := by rw [hS1]; exact ((up_row (by omega)).trans rfl)
  obtain ⟨q2, hq2, h⟩ := bnd_e h
  rcases ite_e h with ⟨_, h⟩ | ⟨_, h⟩
  · obtain ⟨q3, hq3, h⟩ := bnd_e h
    rcases ite_e h with ⟨_, h⟩ | ⟨_, h⟩
    · obtain ⟨q4, hq4, h⟩ := bnd_e h
      rcases ite_e h with ⟨_, h⟩ | ⟨_, h⟩
      · obtain ⟨q5, hq5, h⟩ := bnd_e h
        rcases ite_e h with ⟨_, h⟩ | ⟨_, h⟩
        · obtain ⟨q6, hq6, h⟩ := bnd_e h
          rcases ite_e h with ⟨_, h⟩ | ⟨_, h⟩
          · obtain ⟨q7, hq7, h⟩ := bnd_e h
            have kq7 : q7.2 a = S a := (w_fX12_laysFar hq7 (by omega)).trans kS1
            rcases ite_e h with ⟨_, h⟩ | ⟨_, h⟩
            · obtain rfl := Option.some.inj h
              exact kq7
            · obtain ⟨v8, _, _, h⟩ := rdA_e h
              obtain ⟨q10, hq10, h⟩ := bnd_e h
              obtain ⟨q14, hq14, h⟩ := bnd_e h
              have kq14 : q14 a = S a := (w_fX12_lists_L119 (by omega) _ _ _ _ hq14).trans kq7
              obtain rfl := Option.some.inj h
              exact kq14
          · obtain rfl := Option.some.inj h
            exact kS1
        · obtain rfl := Option.some.inj h
          exact kS1
      · obtain rfl := Option.some.inj h
        exact kS1
    · obtain rfl := Option.some.inj h
      exact kS1
  · obtain rfl := Option.some.inj h
    exact kS1
set_option maxHeartbeats 4000000 in
theorem w_fX12_image_L20 {l1 : Int} {a : Nat} (ha : a ≠ 131) : ∀ n l2 S rr, fX12_image_L20 l1 n l2 S = some rr → rr a = S a := by
  intro n
  induction n with
  | zero => intro l2 S rr h; cases h
  | succ n ih =>
    intro l2 S rr h
    unfold fX12_image_L20 at h
    rcases ite_e h with ⟨_, h⟩ | ⟨_, h⟩
    · obtain rfl := Option.some.inj h
      exact rfl
    · obtain ⟨v1, _, _, h⟩ := rdA_e h
      obtain ⟨S3, hS3, _, h⟩ := wrA_e h
      have kS3 : S3 a = S a := by rw [hS3]; exact ((up_row (by omega)).trans rfl)
      obtain ⟨x5, hx5, h⟩ := lt_e h
      exact (ih _ _ _ h).trans kS3
set_option maxHeartbeats 4000000 in
theorem w_fX12_image {p1 : Int} {S : SS} {rr : Int × SS} (h : fX12_image p1 S = some rr) {a : Nat} (ha : (a < 130 ∨ 132 < a)) : rr.2 a = S a := by
  unfold fX12_image at h
  obtain ⟨S1, hS1, h⟩ := lt_e h
  have kS1 : S1 a = S a := by rw [hS1]; exact ((up_row (by omega)).trans rfl)
  obtain ⟨q2, hq2, h⟩ := bnd_e h
  rcases ite_e h with ⟨_, h⟩ | ⟨_, h⟩
  · obtain ⟨q3, hq3, h⟩ := bnd_e h
    have kq3 : q3 a = S a := (w_fX12_image_L20 (by omega) _ _ _ _ hq3).trans kS1
    obtain ⟨S5, hS5, _, h⟩ := wrA_e h
    have kS5 : S5 a = S a := by rw [hS5]; exact ((up_row (by omega)).trans kq3)
    obtain rfl := Option.some.inj h
    exact kS5
  · obtain rfl := Option.some.inj h
    exact kS1
set_option maxHeartbeats 4000000 in
theorem w_fX12_restore_L32 {l1 : Int} {a : Nat} (ha : a ≠ 131) : ∀ n l2 S rr, fX12_restore_L32 l1 n l2 S = some rr → rr a = S a := by
  intro n
  induction n with
  | zero => intro l2 S rr h; cases h
  | succ n ih =>
    intro l2 S rr h
    unfold fX12_restore_L32 at h
    rcases ite_e h with ⟨_, h⟩ | ⟨_, h⟩
    · obtain rfl := Option.some.inj h
      exact rfl
    · obtain ⟨v1, _, _, h⟩ := rdA_e h
      obtain ⟨S3, hS3, _, h⟩ := wrA_e h
      have kS3 : S3 a = S a := by rw [hS3]; exact ((up_row (by omega)).trans rfl)
      obtain ⟨x5, hx5, h⟩ := lt_e h
      exact (ih _ _ _ h).trans kS3
set_option maxHeartbeats 4000000 in
theorem w_fX12_restore {p1 : Int} {S : SS} {rr : Int × SS} (h : fX12_restore p1 S = some rr) {a : Nat} (ha : (a < 130 ∨ 131 < a)) : rr.2 a = S a := by
  unfold fX12_restore at h
  obtain ⟨S1, hS1, h⟩ := lt_e h
  have kS1 : S1 a = S a := by rw [hS1]; exact ((up_row (by omega)).trans rfl)
  obtain ⟨q2, hq2, h⟩ := bnd_e h
  rcases ite_e h with ⟨_, h⟩ | ⟨_, h⟩
  · obtain ⟨v3, _, _, h⟩ := rdA_e h
    rcases ite_e h with ⟨_, h⟩ | ⟨_, h⟩
    · obtain rfl := Option.some.inj h
      exact kS1
    · obtain ⟨q5, hq5, h⟩ := bnd_e h
      have kq5 : q5 a = S a := (w_fX12_restore_L32 (by omega) _ _ _ _ hq5).trans kS1
      obtain ⟨S7, hS7, _, h⟩ := wrA_e h
      have kS7 : S7 a = S a := by rw [hS7]; exact ((up_row (by omega)).trans kq5)
      obtain rfl := Option.some.inj h
      exact kS7
  · obtain rfl := Option.some.inj h
    exact kS1
set_option maxHeartbeats 4000000 in
theorem w_fX12_count {p1 : Int} {S : SS} {rr : Int × SS} (h : fX12_count p1 S = some rr) {a : Nat} (ha : a ≠ 130) : rr.2 a = S a := by
  unfold fX12_count at h
  obtain ⟨S1, hS1, h⟩ := lt_e h
  have kS1 : S1 a = S a := by rw [hS1]; exact ((up_row (by omega)).trans rfl)
  rcases ite_e h with ⟨_, h⟩ | ⟨_, h⟩
  · obtain ⟨v3, _, _, h⟩ := rdA_e h
    obtain rfl := Option.some.inj h
    exact kS1
  · rcases ite_e h with ⟨_, h⟩ | ⟨_, h⟩
    · obtain ⟨v6, _, _, h⟩ := rdA_e h
      obtain rfl := Option.some.inj h
      exact kS1
    · rcases ite_e h with ⟨_, h⟩ | ⟨_, h⟩
      · obtain ⟨v9, _, _, h⟩ := rdA_e h
        obtain rfl := Option.some.inj h
        exact kS1
      · rcases ite_e h with ⟨_, h⟩ | ⟨_, h⟩
        · obtain ⟨v12, _, _, h⟩ := rdA_e h
          obtain rfl := Option.some.inj h
          exact kS1
        · rcases ite_e h with ⟨_, h⟩ | ⟨_, h⟩
          · obtain ⟨q15, hq15, h⟩ := bnd_e h
            obtain rfl := Option.some.inj h
            exact kS1
          · rcases ite_e h with ⟨_, h⟩ | ⟨_, h⟩
            · obtain ⟨q17, hq17, h⟩ := bnd_e h
              obtain rfl := Option.some.inj h
              exact kS1
            · rcases ite_e h with ⟨_, h⟩ | ⟨_, h⟩
              · obtain ⟨v19, _, _, h⟩ := rdA_e h
                obtain rfl := Option.some.inj h
                exact kS1
              · rcases ite_e h with ⟨_, h⟩ | ⟨_, h⟩
                · obtain rfl := Option.some.inj h
                  exact kS1
                · rcases ite_e h with ⟨_, h⟩ | ⟨_, h⟩
                  · obtain ⟨v23, _, _, h⟩ := rdA_e h
                    obtain rfl := Option.some.inj h
                    exact kS1
                  · obtain rfl := Option.some.inj h
                    exact kS1
set_option maxHeartbeats 4000000 in
theorem w_fX12_plain_3303_L2 {l0 : Nat} {a : Nat} (ha : a ≠ l0) : ∀ n l1 S rr, fX12_plain_3303_L2 l0 n l1 S = some rr → rr a = S a := by
  intro n
  induction n with
  | zero => intro l1 S rr h; cases h
  | succ n ih =>
    intro l1 S rr h
    unfold fX12_plain_3303_L2 at h
    rcases ite_e h with ⟨_, h⟩ | ⟨_, h⟩
    · obtain rfl := Option.some.inj h
      exact rfl
    · obtain ⟨S1, hS1, _, h⟩ := wrA_e h
      have kS1 : S1 a = S a := by rw [hS1]; exact ((up_row (by omega)).trans rfl)
      obtain ⟨x3, hx3, h⟩ := lt_e h
      exact (ih _ _ _ h).trans kS1
set_option maxHeartbeats 4000000 in
theorem w_fX12_plain_3303 {p0 : Nat} {S : SS} {rr : SS} (h : fX12_plain_3303 p0 S = some rr) {a : Nat} (ha : a ≠ p0) : rr a = S a := by
  unfold fX12_plain_3303 at h
  obtain ⟨q1, hq1, h⟩ := bnd_e h
  have kq1 : q1 a = S a := (w_fX12_plain_3303_L2 (by omega) _ _ _ _ hq1).trans rfl
  obtain ⟨S3, hS3, _, h⟩ := wrA_e h
  have kS3 : S3 a = S a := by rw [hS3]; exact ((up_row (by omega)).trans kq1)
  obtain rfl := Option.some.inj h
  exact kS3
set_option maxHeartbeats 4000000 in
theorem w_fX3_advance_L8  {a : Nat} (ha : a ≠ 19) : ∀ n S rr, fX3_advance_L8  n S = some rr → rr a = S a := by
  intro n
  induction n with
  | zero => intro S rr h; cases h
  | succ n ih =>
    intro S rr h
    unfold fX3_advance_L8 at h
    rcases ite_e h with ⟨_, h⟩ | ⟨_, h⟩
    · obtain rfl := Option.some.inj h
      exact rfl
    · obtain ⟨v1, _, _, h⟩ := rdA_e h
      rcases ite_e h with ⟨_, h⟩ | ⟨_, h⟩
      · obtain ⟨S3, hS3, h⟩ := lt_e h
        have kS3 : S3 a = S a := by rw [hS3]; exact ((up_row (by omega)).trans rfl)
        exact (ih _ _ h).trans kS3
      · obtain ⟨v4, _, _, h⟩ := rdA_e h
        rcases ite_e h with ⟨_, h⟩ | ⟨_, h⟩
        · obtain ⟨S6, hS6, h⟩ := lt_e h
          have kS6 : S6 a = S a := by rw [hS6]; exact ((up_row (by omega)).trans rfl)
          exact (ih _ _ h).trans kS6
        · obtain rfl := Option.some.inj h
          exact rfl
set_option maxHeartbeats 4000000 in
theorem w_fX3_advance_L107  {a : Nat} (ha : a ≠ 19) : ∀ n S rr, fX3_advance_L107  n S = some rr → rr a = S a := by
  intro n
  induction n with
  | zero => intro S rr h; cases h
  | succ n ih =>
    intro S rr h
    unfold fX3_advance_L107 at h
    rcases ite_e h with ⟨_, h⟩ | ⟨_, h⟩
    · obtain rfl := Option.some.inj h
      exact rfl
    · obtain ⟨v1, _, _, h⟩ := rdA_e h
      obtain ⟨q3, hq3, h⟩ := bnd_e h
      rcases ite_e h with ⟨_, h⟩ | ⟨_, h⟩
      · obtain ⟨v4, _, _, h⟩ := rdA_e h
        obtain ⟨S6, hS6, h⟩ := lt_e h
        have kS6 : S6 a = S a := by rw [hS6]; exact ((up_row (by omega)).trans rfl)
        obtain ⟨S7, hS7, h⟩ := lt_e h
        have kS7 : S7 a = S a := by rw [hS7]; exact ((up_row (by omega)).trans kS6)
        exact (ih _ _ h).trans kS7
      · obtain rfl := Option.some.inj h
        exact rfl
set_option maxHeartbeats 4000000 in
theorem w_fX3_advance_L205  {a : Nat} (ha : a ≠ 19) : ∀ n S rr, fX3_advance_L205  n S = some rr → rr a = S a := by
  intro n
  induction n with
  | zero => intro S rr h; cases h
  | succ n ih =>
    intro S rr h
    unfold fX3_advance_L205 at h
    rcases ite_e h with ⟨_, h⟩ | ⟨_, h⟩
    · obtain rfl := Option.some.inj h
      exact rfl
    · obtain ⟨v1, _, _, h⟩ := rdA_e h
      obtain ⟨q3, hq3, h⟩ := bnd_e h
      rcases ite_e h with ⟨_, h⟩ | ⟨_, h⟩
      · obtain ⟨S4, hS4, h⟩ := lt_e h
        have kS4 : S4 a = S a := by rw [hS4]; exact ((up_row (by omega)).trans rfl)
        exact (ih _ _ h).trans kS4
      · obtain rfl := Option.some.inj h
        exact rfl
set_option maxHeartbeats 4000000 in
theorem w_fX3_advance {S : SS} {rr : SS} (h : fX3_advance S = some rr) {a : Nat} (ha : a ≠ 19) : rr a = S a := by
  unfold fX3_advance at h
  rcases ite_e h with ⟨_, h⟩ | ⟨_, h⟩
  · obtain ⟨q1, hq1, h⟩ := bnd_e h
    have kq1 : q1 a = S a := (w_fX3_advance_L8 (by omega) _ _ _ hq1).trans rfl
    obtain ⟨S3, hS3, h⟩ := lt_e h
    have kS3 : S3 a = S a := by rw [hS3]; exact ((up_row (by omega)).trans kq1)
    rcases ite_e h with ⟨_, h⟩ | ⟨_, h⟩
    · obtain ⟨v4, _, _, h⟩ := rdA_e h
      obtain ⟨q6, hq6, h⟩ := bnd_e h
      rcases ite_e h with ⟨_, h⟩ | ⟨_, h⟩
      · obtain ⟨S7, hS7, h⟩ := lt_e h
        have kS7 : S7 a = S a := by rw [hS7]; exact ((up_row (by omega)).trans kS3)
        obtain ⟨q8, hq8, h⟩ := bnd_e h
        have kq8 : q8 a = S a := (w_fX3_advance_L107 (by omega) _ _ _ hq8).trans kS7
        obtain ⟨S10, hS10, h⟩ := lt_e h
        have kS10 : S10 a = S a := by rw [hS10]; exact ((up_row (by omega)).trans kq8)
        rcases ite_e h with ⟨_, h⟩ | ⟨_, h⟩
        · obtain rfl := Option.some.inj h
          exact kS10
        · obtain ⟨q11, hq11, h⟩ := bnd_e h
          have kq11 : q11 a = S a := (w_fX3_fail hq11 (by omega)).trans kS10
          obtain rfl := Option.some.inj h
          exact kq11
      · obtain ⟨q13, hq13, h⟩ := bnd_e h
        rcases ite_e h with ⟨_, h⟩ | ⟨_, h⟩
        · obtain ⟨q14, hq14, h⟩ := bnd_e h
          have kq14 : q14 a = S a := (w_fX3_advance_L205 (by omega) _ _ _ hq14).trans kS3
          obtain ⟨q16, hq16, h⟩ := bnd_e h
          obtain ⟨S17, hS17, h⟩ := lt_e h
          have kS17 : S17 a = S a := by rw [hS17]; exact ((up_row (by omega)).trans kq14)
          obtain rfl := Option.some.inj h
          exact kS17
        · rcases ite_e h with ⟨_, h⟩ | ⟨_, h⟩
          · obtain ⟨q18, hq18, h⟩ := bnd_e h
            have kq18 : q18 a = S a := (w_fX3_fail hq18 (by omega)).trans kS3
            obtain rfl := Option.some.inj h
            exact kq18
          · obtain ⟨v19, hv19, h⟩ := lt_e h
            rcases ite_e h with ⟨_, h⟩ | ⟨_, h⟩
            · obtain ⟨q20, hq20, h⟩ := bnd_e h
              have kq20 : q20 a = S a := (w_fX3_fail hq20 (by omega)).trans kS3
              obtain rfl := Option.some.inj h
              exact kq20
            · obtain ⟨S21, hS21, h⟩ := lt_e h
              have kS21 : S21 a = S a := by rw [hS21]; exact ((up_row (by omega)).trans kS3)
              obtain ⟨S22, hS22, h⟩ := lt_e h
              have kS22 : S22 a = S a := by rw [hS22]; exact ((up_row (by omega)).trans kS21)
              obtain rfl := Option.some.inj h
              exact kS22
    · obtain ⟨S27, hS27, h⟩ := lt_e h
      have kS27 : S27 a = S a := by rw [hS27]; exact ((up_row (by omega)).trans kS3)
      obtain rfl := Option.some.inj h
      exact kS27
  · obtain rfl := Option.some.inj h
    exact rfl
set_option maxHeartbeats 4000000 in
theorem w_fX3_expect {p1 : Int} {S : SS} {rr : SS} (h : fX3_expect p1 S = some rr) {a : Nat} (ha : a ≠ 19) : rr a = S a := by
  unfold fX3_expect at h
  rcases ite_e h with ⟨_, h⟩ | ⟨_, h⟩
  · obtain ⟨q1, hq1, h⟩ := bnd_e h
    have kq1 : q1 a = S a := (w_fX3_advance hq1 (by omega)).trans rfl
    obtain rfl := Option.some.inj h
    exact kq1
  · obtain ⟨q2, hq2, h⟩ := bnd_e h
    have kq2 : q2 a = S a := (w_fX3_fail hq2 (by omega)).trans rfl
    obtain rfl := Option.some.inj h
    exact kq2
set_option maxHeartbeats 4000000 in
theorem w_fX3_number {p1 : Int} {p2 : Int} {p3 : Int} {S : SS} {rr : Int × SS} (h : fX3_number p1 p2 p3 S = some rr) {a : Nat} (ha : a ≠ 19) : rr.2 a = S a := by
  unfold fX3_number at h
  rcases ite_e h with ⟨_, h⟩ | ⟨_, h⟩
  · rcases ite_e h with ⟨_, h⟩ | ⟨_, h⟩
    · obtain ⟨q1, hq1, h⟩ := bnd_e h
      have kq1 : q1 a = S a := (w_fX3_fail hq1 (by omega)).trans rfl
      obtain rfl := Option.some.inj h
      exact kq1
    · rcases ite_e h with ⟨_, h⟩ | ⟨_, h⟩
      · obtain ⟨q2, hq2, h⟩ := bnd_e h
        have kq2 : q2 a = S a := (w_fX3_fail hq2 (by omega)).trans rfl
        obtain rfl := Option.some.inj h
        exact kq2
      · rcases ite_e h with ⟨_, h⟩ | ⟨_, h⟩
        · obtain ⟨q3, hq3, h⟩ := bnd_e h
          have kq3 : q3 a = S a := (w_fX3_fail hq3 (by omega)).trans rfl
          obtain rfl := Option.some.inj h
          exact kq3
        · obtain ⟨x4, hx4, h⟩ := lt_e h
          obtain ⟨q5, hq5, h⟩ := bnd_e h
          have kq5 : q5 a = S a := (w_fX3_advance hq5 (by omega)).trans rfl
          obtain rfl := Option.some.inj h
          exact kq5
  · obtain ⟨q9, hq9, h⟩ := bnd_e h
    have kq9 : q9 a = S a := (w_fX3_fail hq9 (by omega)).trans rfl
    obtain rfl := Option.some.inj h
    exact kq9
set_option maxHeartbeats 4000000 in
theorem w_fX3_part {S : SS} {rr : SS} (h : fX3_part S = some rr) {a : Nat} (ha : a ≠ 19 ∧ a ≠ 24 ∧ a ≠ 27) : rr a = S a := by
  unfold fX3_part at h
  obtain ⟨x1, hx1, h⟩ := lt_e h
  obtain ⟨q2, hq2, h⟩ := bnd_e h
  have kq2 : q2 a = S a := (w_fX3_advance hq2 (by omega)).trans rfl
  rcases ite_e h with ⟨_, h⟩ | ⟨_, h⟩
  · obtain ⟨q3, hq3, h⟩ := bnd_e h
    have kq3 : q3.2 a = S a := (w_fX3_number hq3 (by omega)).trans kq2
    obtain ⟨q4, hq4, h⟩ := bnd_e h
    have kq4 : q4 a = S a := (w_fX6_setSign hq4 (by omega)).trans kq3
    obtain rfl := Option.some.inj h
    exact kq4
  · obtain ⟨q5, hq5, h⟩ := bnd_e h
    have kq5 : q5.2 a = S a := (w_fX3_number hq5 (by omega)).trans kq2
    obtain ⟨q6, hq6, h⟩ := bnd_e h
    obtain ⟨q8, hq8, h⟩ := bnd_e h
    have kq8 : q8 a = S a := (w_fX8_setYears hq8 (by omega)).trans kq5
    obtain rfl := Option.some.inj h
    exact kq8
set_option maxHeartbeats 4000000 in
theorem w_fX3_streetLine_L65  {a : Nat} (ha : a ≠ 19 ∧ a ≠ 24 ∧ a ≠ 27) : ∀ n l3 S rr, fX3_streetLine_L65  n l3 S = some rr → rr a = S a := by
  intro n
  induction n with
  | zero => intro l3 S rr h; cases h
  | succ n ih =>
    intro l3 S rr h
    unfold fX3_streetLine_L65 at h
    rcases ite_e h with ⟨_, h⟩ | ⟨_, h⟩
    · obtain rfl := Option.some.inj h
      exact rfl
    · obtain ⟨q1, hq1, h⟩ := bnd_e h
      rcases ite_e h with ⟨_, h⟩ | ⟨_, h⟩
      · obtain ⟨q2, hq2, h⟩ := bnd_e h
        have kq2 : q2 a = S a := (w_fX3_part hq2 (by omega)).trans rfl
        obtain ⟨x3, hx3, h⟩ := lt_e h
        exact (ih _ _ _ h).trans kq2
      · obtain rfl := Option.some.inj h
        exact rfl
set_option maxHeartbeats 4000000 in
theorem w_fX3_streetLine {S : SS} {rr : SS} (h : fX3_streetLine S = some rr) {a : Nat} (ha : a ≠ 19 ∧ (a < 21 ∨ 24 < a) ∧ a ≠ 27) : rr a = S a := by
  unfold fX3_streetLine at h
  rcases ite_e h with ⟨_, h⟩ | ⟨_, h⟩
  · obtain ⟨q1, hq1, h⟩ := bnd_e h
    have kq1 : q1 a = S a := (w_fX3_advance hq1 (by omega)).trans rfl
    obtain ⟨q2, hq2, h⟩ := bnd_e h
    have kq2 : q2.2 a = S a := (w_fX3_number hq2 (by omega)).trans kq1
    obtain ⟨q3, hq3, h⟩ := bnd_e h
    have kq3 : q3.2 a = S a := (w_fX3_number hq3 (by omega)).trans kq2
    obtain ⟨q4, hq4, h⟩ := bnd_e h
    have kq4 : q4 a = S a := (w_fX8_addStreet hq4 (by omega)).trans kq3
    obtain ⟨q5, hq5, h⟩ := bnd_e h
    have kq5 : q5 a = S a := (w_fX3_streetLine_L65 (by omega) _ _ _ _ hq5).trans kq4
    obtain rfl := Option.some.inj h
    exact kq5
  · obtain ⟨q7, hq7, h⟩ := bnd_e h
    have kq7 : q7 a = S a := (w_fX3_fail hq7 (by omega)).trans rfl
    obtain rfl := Option.some.inj h
    exact kq7
set_option maxHeartbeats 4000000 in
theorem w_fX3_goerLine {S : SS} {rr : SS} (h : fX3_goerLine S = some rr) {a : Nat} (ha : a ≠ 19 ∧ a ≠ 21 ∧ (a < 28 ∨ 29 < a)) : rr a = S a := by
  unfold fX3_goerLine at h
  rcases ite_e h with ⟨_, h⟩ | ⟨_, h⟩
  · obtain ⟨q1, hq1, h⟩ := bnd_e h
    have kq1 : q1 a = S a := (w_fX3_advance hq1 (by omega)).trans rfl
    obtain ⟨q2, hq2, h⟩ := bnd_e h
    have kq2 : q2.2 a = S a := (w_fX3_number hq2 (by omega)).trans kq1
    obtain ⟨q3, hq3, h⟩ := bnd_e h
    have kq3 : q3 a = S a := (w_fX3_expect hq3 (by omega)).trans kq2
    obtain ⟨q4, hq4, h⟩ := bnd_e h
    have kq4 : q4.2 a = S a := (w_fX3_number hq4 (by omega)).trans kq3
    obtain ⟨q5, hq5, h⟩ := bnd_e h
    have kq5 : q5 a = S a := (w_fX6_setGoer hq5 (by omega)).trans kq4
    obtain ⟨S6, hS6, h⟩ := lt_e h
    have kS6 : S6 a = S a := by rw [hS6]; exact ((up_row (by omega)).trans kq5)
    obtain rfl := Option.some.inj h
    exact kS6
  · obtain ⟨q7, hq7, h⟩ := bnd_e h
    have kq7 : q7 a = S a := (w_fX3_fail hq7 (by omega)).trans rfl
    obtain rfl := Option.some.inj h
    exact kq7
set_option maxHeartbeats 4000000 in
theorem w_fX3_goesDeeper {p1 : Int} {S : SS} {rr : Bool × SS} (h : fX3_goesDeeper p1 S = some rr) {a : Nat} (ha : a ≠ 19) : rr.2 a = S a := by
  unfold fX3_goesDeeper at h
  rcases ite_e h with ⟨_, h⟩ | ⟨_, h⟩
  · obtain ⟨q1, hq1, h⟩ := bnd_e h
    have kq1 : q1 a = S a := (w_fX3_advance hq1 (by omega)).trans rfl
    obtain rfl := Option.some.inj h
    exact kq1
  · obtain ⟨q2, hq2, h⟩ := bnd_e h
    have kq2 : q2 a = S a := (w_fX3_fail hq2 (by omega)).trans rfl
    obtain rfl := Option.some.inj h
    exact kq2
set_option maxHeartbeats 4000000 in
theorem w_fX3_truth_L7 {rc : Nat → Int → SS → Option SS} {l1 : Int} {a : Nat} (hrc : ∀ x0 x1 x2 rr, rc x0 x1 x2 = some rr → rr a = x2 a) (ha : a ≠ 19 ∧ a ≠ 21 ∧ a ≠ 25) : ∀ n l2 S rr, fX3_truth_L7 rc l1 n l2 S = some rr → rr a = S a := by
  intro n
  induction n with
  | zero => intro l2 S rr h; cases h
  | succ n ih =>
    intro l2 S rr h
    unfold fX3_truth_L7 at h
    rcases ite_e h with ⟨_, h⟩ | ⟨_, h⟩
    · obtain rfl := Option.some.inj h
      exact rfl
    · rcases ite_e h with ⟨_, h⟩ | ⟨_, h⟩
      · obtain ⟨q1, hq1, h⟩ := bnd_e h
        have kq1 : q1 a = S a := (w_fX3_advance hq1 (by omega)).trans rfl
        obtain ⟨q2, hq2, h⟩ := bnd_e h
        have kq2 : q2 a = S a := (hrc _ _ _ _ hq2).trans kq1
        obtain ⟨q3, hq3, h⟩ := bnd_e h
        have kq3 : q3 a = S a := (w_fX8_addCode hq3 (by omega)).trans kq2
        obtain ⟨x4, hx4, h⟩ := lt_e h
        exact (ih _ _ _ h).trans kq3
      · obtain rfl := Option.some.inj h
        exact rfl
set_option maxHeartbeats 4000000 in
theorem w_fX3_truth {rc : Nat → Int → SS → Option SS} {p1 : Int} {S : SS} {rr : SS} {a : Nat} (hrc : ∀ x0 x1 x2 rr, rc x0 x1 x2 = some rr → rr a = x2 a) (h : fX3_truth rc p1 S = some rr) (ha : a ≠ 19 ∧ a ≠ 21 ∧ a ≠ 25) : rr a = S a := by
  unfold fX3_truth at h
  obtain ⟨q1, hq1, h⟩ := bnd_e h
  have kq1 : q1 a = S a := (hrc _ _ _ _ hq1).trans rfl
  obtain ⟨q2, hq2, h⟩ := bnd_e h
  have kq2 : q2 a = S a := (w_fX3_truth_L7 hrc (by omega) _ _ _ _ hq2).trans kq1
  obtain rfl := Option.some.inj h
  exact kq2
set_option maxHeartbeats 4000000 in
theorem w_fX3_both_L7 {rc : Nat → Int → SS → Option SS} {l1 : Int} {a : Nat} (hrc : ∀ x0 x1 x2 rr, rc x0 x1 x2 = some rr → rr a = x2 a) (ha : a ≠ 19 ∧ a ≠ 21 ∧ a ≠ 25) : ∀ n l2 S rr, fX3_both_L7 rc l1 n l2 S = some rr → rr a = S a := by
  intro n
  induction n with
  | zero => intro l2 S rr h; cases h
  | succ n ih =>
    intro l2 S rr h
    unfold fX3_both_L7 at h
    rcases ite_e h with ⟨_, h⟩ | ⟨_, h⟩
    · obtain rfl := Option.some.inj h
      exact rfl
    · rcases ite_e h with ⟨_, h⟩ | ⟨_, h⟩
      · obtain ⟨q1, hq1, h⟩ := bnd_e h
        have kq1 : q1 a = S a := (w_fX3_advance hq1 (by omega)).trans rfl
        obtain ⟨q2, hq2, h⟩ := bnd_e h
        have kq2 : q2 a = S a := (hrc _ _ _ _ hq2).trans kq1
        obtain ⟨q3, hq3, h⟩ := bnd_e h
        have kq3 : q3 a = S a := (w_fX8_addCode hq3 (by omega)).trans kq2
        obtain ⟨x4, hx4, h⟩ := lt_e h
        exact (ih _ _ _ h).trans kq3
      · obtain rfl := Option.some.inj h
        exact rfl
set_option maxHeartbeats 4000000 in
theorem w_fX3_both {rc : Nat → Int → SS → Option SS} {p1 : Int} {S : SS} {rr : SS} {a : Nat} (hrc : ∀ x0 x1 x2 rr, rc x0 x1 x2 = some rr → rr a = x2 a) (h : fX3_both rc p1 S = some rr) (ha : a ≠ 19 ∧ a ≠ 21 ∧ a ≠ 25) : rr a = S a := by
  unfold fX3_both at h
  obtain ⟨q1, hq1, h⟩ := bnd_e h
  have kq1 : q1 a = S a := (hrc _ _ _ _ hq1).trans rfl
  obtain ⟨q2, hq2, h⟩ := bnd_e h
  have kq2 : q2 a = S a := (w_fX3_both_L7 hrc (by omega) _ _ _ _ hq2).trans kq1
  obtain rfl := Option.some.inj h
  exact kq2
set_option maxHeartbeats 4000000 in
theorem w_fX3_unit {rc : Nat → Int → SS → Option SS} {p1 : Int} {S : SS} {rr : SS} {a : Nat} (hrc : ∀ x0 x1 x2 rr, rc x0 x1 x2 = some rr → rr a = x2 a) (h : fX3_unit rc p1 S = some rr) (ha : a ≠ 19 ∧ a ≠ 21 ∧ a ≠ 25) : rr a = S a := by
  unfold fX3_unit at h
  rcases ite_e h with ⟨_, h⟩ | ⟨_, h⟩
  · obtain ⟨q1, hq1, h⟩ := bnd_e h
    have kq1 : q1.2 a = S a := (w_fX3_goesDeeper hq1 (by omega)).trans rfl
    rcases ite_e h with ⟨_, h⟩ | ⟨_, h⟩
    · obtain ⟨q2, hq2, h⟩ := bnd_e h
      have kq2 : q2 a = S a := (hrc _ _ _ _ hq2).trans kq1
      obtain ⟨q3, hq3, h⟩ := bnd_e h
      have kq3 : q3 a = S a := (w_fX8_addCode hq3 (by omega)).trans kq2
      obtain rfl := Option.some.inj h
      exact kq3
    · obtain rfl := Option.some.inj h
      exact kq1
  · rcases ite_e h with ⟨_, h⟩ | ⟨_, h⟩
    · obtain ⟨q5, hq5, h⟩ := bnd_e h
      have kq5 : q5.2 a = S a := (w_fX3_goesDeeper hq5 (by omega)).trans rfl
      rcases ite_e h with ⟨_, h⟩ | ⟨_, h⟩
      · obtain ⟨q6, hq6, h⟩ := bnd_e h
        have kq6 : q6 a = S a := (hrc _ _ _ _ hq6).trans kq5
        obtain ⟨q7, hq7, h⟩ := bnd_e h
        have kq7 : q7 a = S a := (w_fX3_expect hq7 (by omega)).trans kq6
        obtain rfl := Option.some.inj h
        exact kq7
      · obtain rfl := Option.some.inj h
        exact kq5
    · obtain ⟨q9, hq9, h⟩ := bnd_e h
      have kq9 : q9 a = S a := (hrc _ _ _ _ hq9).trans rfl
      obtain rfl := Option.some.inj h
      exact kq9
set_option maxHeartbeats 4000000 in
theorem w_fX3_comparison {rc : Nat → Int → SS → Option SS} {p1 : Int} {S : SS} {rr : SS} {a : Nat} (hrc : ∀ x0 x1 x2 rr, rc x0 x1 x2 = some rr → rr a = x2 a) (h : fX3_comparison rc p1 S = some rr) (ha : a ≠ 19 ∧ a ≠ 21 ∧ a ≠ 25) : rr a = S a := by
  unfold fX3_comparison at h
  obtain ⟨q1, hq1, h⟩ := bnd_e h
  have kq1 : q1 a = S a := (hrc _ _ _ _ hq1).trans rfl
  obtain ⟨x2, hx2, h⟩ := lt_e h
  rcases ite_e h with ⟨_, h⟩ | ⟨_, h⟩
  · obtain ⟨q3, hq3, h⟩ := bnd_e h
    have kq3 : q3 a = S a := (w_fX3_advance hq3 (by omega)).trans kq1
    obtain ⟨q4, hq4, h⟩ := bnd_e h
    have kq4 : q4 a = S a := (hrc _ _ _ _ hq4).trans kq3
    obtain ⟨q5, hq5, h⟩ := bnd_e h
    have kq5 : q5 a = S a := (w_fX8_addCode hq5 (by omega)).trans kq4
    obtain rfl := Option.some.inj h
    exact kq5
  · rcases ite_e h with ⟨_, h⟩ | ⟨_, h⟩
    · obtain ⟨q6, hq6, h⟩ := bnd_e h
      have kq6 : q6 a = S a := (w_fX3_advance hq6 (by omega)).trans kq1
      obtain ⟨q7, hq7, h⟩ := bnd_e h
      have kq7 : q7 a = S a := (hrc _ _ _ _ hq7).trans kq6
      obtain ⟨q8, hq8, h⟩ := bnd_e h
      have kq8 : q8 a = S a := (w_fX8_addCode hq8 (by omega)).trans kq7
      obtain rfl := Option.some.inj h
      exact kq8
    · rcases ite_e h with ⟨_, h⟩ | ⟨_, h⟩
      · obtain ⟨q9, hq9, h⟩ := bnd_e h
        have kq9 : q9 a = S a := (w_fX3_advance hq9 (by omega)).trans kq1
        obtain ⟨q10, hq10, h⟩ := bnd_e h
        have kq10 : q10 a = S a := (hrc _ _ _ _ hq10).trans kq9
        obtain ⟨q11, hq11, h⟩ := bnd_e h
        have kq11 : q11 a = S a := (w_fX8_addCode hq11 (by omega)).trans kq10
        obtain rfl := Option.some.inj h
        exact kq11
      · obtain ⟨q12, hq12, h⟩ := bnd_e h
        have kq12 : q12 a = S a := (w_fX3_fail hq12 (by omega)).trans kq1
        obtain rfl := Option.some.inj h
        exact kq12
set_option maxHeartbeats 4000000 in
theorem w_fX3_sum_L7 {rc : Nat → Int → SS → Option SS} {l1 : Int} {a : Nat} (hrc : ∀ x0 x1 x2 rr, rc x0 x1 x2 = some rr → rr a = x2 a) (ha : a ≠ 19 ∧ a ≠ 21 ∧ a ≠ 25) : ∀ n l2 S rr, fX3_sum_L7 rc l1 n l2 S = some rr → rr a = S a := by
  intro n
  induction n with
  | zero => intro l2 S rr h; cases h
  | succ n ih =>
    intro l2 S rr h
    unfold fX3_sum_L7 at h
    rcases ite_e h with ⟨_, h⟩ | ⟨_, h⟩
    · obtain rfl := Option.some.inj h
      exact rfl
    · rcases ite_e h with ⟨_, h⟩ | ⟨_, h⟩
      · obtain ⟨x1, hx1, h⟩ := lt_e h
        obtain ⟨q2, hq2, h⟩ := bnd_e h
        have kq2 : q2 a = S a := (w_fX3_advance hq2 (by omega)).trans rfl
        obtain ⟨q3, hq3, h⟩ := bnd_e h
        have kq3 : q3 a = S a := (hrc _ _ _ _ hq3).trans kq2
        obtain ⟨q4, hq4, h⟩ := bnd_e h
        have kq4 : q4 a = S a := (w_fX8_addCode hq4 (by omega)).trans kq3
        obtain ⟨x5, hx5, h⟩ := lt_e h
        exact (ih _ _ _ h).trans kq4
      · rcases ite_e h with ⟨_, h⟩ | ⟨_, h⟩
        · obtain ⟨x6, hx6, h⟩ := lt_e h
          obtain ⟨q7, hq7, h⟩ := bnd_e h
          have kq7 : q7 a = S a := (w_fX3_advance hq7 (by omega)).trans rfl
          obtain ⟨q8, hq8, h⟩ := bnd_e h
          have kq8 : q8 a = S a := (hrc _ _ _ _ hq8).trans kq7
          obtain ⟨q9, hq9, h⟩ := bnd_e h
          have kq9 : q9 a = S a := (w_fX8_addCode hq9 (by omega)).trans kq8
          obtain ⟨x10, hx10, h⟩ := lt_e h
          exact (ih _ _ _ h).trans kq9
        · obtain rfl := Option.some.inj h
          exact rfl
set_option maxHeartbeats 4000000 in
theorem w_fX3_sum {rc : Nat → Int → SS → Option SS} {p1 : Int} {S : SS} {rr : SS} {a : Nat} (hrc : ∀ x0 x1 x2 rr, rc x0 x1 x2 = some rr → rr a = x2 a) (h : fX3_sum rc p1 S = some rr) (ha : a ≠ 19 ∧ a ≠ 21 ∧ a ≠ 25) : rr a = S a := by
  unfold fX3_sum at h
  obtain ⟨q1, hq1, h⟩ := bnd_e h
  have kq1 : q1 a = S a := (hrc _ _ _ _ hq1).trans rfl
  obtain ⟨q2, hq2, h⟩ := bnd_e h
  have kq2 : q2 a = S a := (w_fX3_sum_L7 hrc (by omega) _ _ _ _ hq2).trans kq1
  obtain rfl := Option.some.inj h
  exact kq2
set_option maxHeartbeats 4000000 in
theorem w_fX3_term_L7 {rc : Nat → Int → SS → Option SS} {l1 : Int} {a : Nat} (hrc : ∀ x0 x1 x2 rr, rc x0 x1 x2 = some rr → rr a = x2 a) (ha : a ≠ 19 ∧ a ≠ 21 ∧ a ≠ 25) : ∀ n l2 S rr, fX3_term_L7 rc l1 n l2 S = some rr → rr a = S a := by
  intro n
  induction n with
  | zero => intro l2 S rr h; cases h
  | succ n ih =>
    intro l2 S rr h
    unfold fX3_term_L7 at h
    rcases ite_e h with ⟨_, h⟩ | ⟨_, h⟩
    · obtain rfl := Option.some.inj h
      exact rfl
    · rcases ite_e h with ⟨_, h⟩ | ⟨_, h⟩
      · obtain ⟨q1, hq1, h⟩ := bnd_e h
        have kq1 : q1 a = S a := (w_fX3_advance hq1 (by omega)).trans rfl
        obtain ⟨q2, hq2, h⟩ := bnd_e h
        have kq2 : q2 a = S a := (hrc _ _ _ _ hq2).trans kq1
        obtain ⟨q3, hq3, h⟩ := bnd_e h
        have kq3 : q3 a = S a := (w_fX8_addCode hq3 (by omega)).trans kq2
        obtain ⟨x4, hx4, h⟩ := lt_e h
        exact (ih _ _ _ h).trans kq3
      · obtain rfl := Option.some.inj h
        exact rfl
set_option maxHeartbeats 4000000 in
theorem w_fX3_term {rc : Nat → Int → SS → Option SS} {p1 : Int} {S : SS} {rr : SS} {a : Nat} (hrc : ∀ x0 x1 x2 rr, rc x0 x1 x2 = some rr → rr a = x2 a) (h : fX3_term rc p1 S = some rr) (ha : a ≠ 19 ∧ a ≠ 21 ∧ a ≠ 25) : rr a = S a := by
  unfold fX3_term at h
  obtain ⟨q1, hq1, h⟩ := bnd_e h
  have kq1 : q1 a = S a := (hrc _ _ _ _ hq1).trans rfl
  obtain ⟨q2, hq2, h⟩ := bnd_e h
  have kq2 : q2 a = S a := (w_fX3_term_L7 hrc (by omega) _ _ _ _ hq2).trans kq1
  obtain rfl := Option.some.inj h
  exact kq2
set_option maxHeartbeats 4000000 in
theorem w_fX3_atom {rc : Nat → Int → SS → Option SS} {p1 : Int} {S : SS} {rr : SS} {a : Nat} (hrc : ∀ x0 x1 x2 rr, rc x0 x1 x2 = some rr → rr a = x2 a) (h : fX3_atom rc p1 S = some rr) (ha : a ≠ 19 ∧ a ≠ 21 ∧ a ≠ 25) : rr a = S a := by
  unfold fX3_atom at h
  rcases ite_e h with ⟨_, h⟩ | ⟨_, h⟩
  · obtain ⟨q1, hq1, h⟩ := bnd_e h
    have kq1 : q1 a = S a := (w_fX8_addCode hq1 (by omega)).trans rfl
    obtain ⟨q2, hq2, h⟩ := bnd_e h
    have kq2 : q2 a = S a := (w_fX3_advance hq2 (by omega)).trans kq1
    obtain rfl := Option.some.inj h
    exact kq2
  · rcases ite_e h with ⟨_, h⟩ | ⟨_, h⟩
    · obtain ⟨q3, hq3, h⟩ := bnd_e h
      have kq3 : q3.2 a = S a := (w_fX3_goesDeeper hq3 (by omega)).trans rfl
      rcases ite_e h with ⟨_, h⟩ | ⟨_, h⟩
      · obtain ⟨q4, hq4, h⟩ := bnd_e h
        have kq4 : q4 a = S a := (hrc _ _ _ _ hq4).trans kq3
        obtain ⟨q5, hq5, h⟩ := bnd_e h
        have kq5 : q5 a = S a := (w_fX3_expect hq5 (by omega)).trans kq4
        obtain rfl := Option.some.inj h
        exact kq5
      · obtain rfl := Option.some.inj h
        exact kq3
    · rcases ite_e h with ⟨_, h⟩ | ⟨_, h⟩
      · obtain ⟨q7, hq7, h⟩ := bnd_e h
        have kq7 : q7.2 a = S a := (w_fX3_goesDeeper hq7 (by omega)).trans rfl
        rcases ite_e h with ⟨_, h⟩ | ⟨_, h⟩
        · obtain ⟨q8, hq8, h⟩ := bnd_e h
          have kq8 : q8 a = S a := (hrc _ _ _ _ hq8).trans kq7
          obtain rfl := Option.some.inj h
          exact kq8
        · obtain rfl := Option.some.inj h
          exact kq7
      · obtain ⟨q10, hq10, h⟩ := bnd_e h
        rcases ite_e h with ⟨_, h⟩ | ⟨_, h⟩
        · obtain ⟨q11, hq11, h⟩ := bnd_e h
          have kq11 : q11 a = S a := (w_fX8_addCode hq11 (by omega)).trans rfl
          obtain ⟨q12, hq12, h⟩ := bnd_e h
          have kq12 : q12 a = S a := (w_fX3_advance hq12 (by omega)).trans kq11
          obtain rfl := Option.some.inj h
          exact kq12
        · obtain ⟨q13, hq13, h⟩ := bnd_e h
          have kq13 : q13 a = S a := (w_fX3_fail hq13 (by omega)).trans rfl
          obtain rfl := Option.some.inj h
          exact kq13
set_option maxHeartbeats 4000000 in
theorem w_fX3_choice {rc : Nat → Int → SS → Option SS} {p1 : Int} {S : SS} {rr : SS} {a : Nat} (hrc : ∀ x0 x1 x2 rr, rc x0 x1 x2 = some rr → rr a = x2 a) (h : fX3_choice rc p1 S = some rr) (ha : a ≠ 19 ∧ a ≠ 21 ∧ a ≠ 25) : rr a = S a := by
  unfold fX3_choice at h
  obtain ⟨q1, hq1, h⟩ := bnd_e h
  have kq1 : q1 a = S a := (hrc _ _ _ _ hq1).trans rfl
  obtain ⟨q2, hq2, h⟩ := bnd_e h
  have kq2 : q2 a = S a := (w_fX3_expect hq2 (by omega)).trans kq1
  obtain ⟨q3, hq3, h⟩ := bnd_e h
  have kq3 : q3 a = S a := (hrc _ _ _ _ hq3).trans kq2
  obtain ⟨q4, hq4, h⟩ := bnd_e h
  have kq4 : q4 a = S a := (w_fX3_expect hq4 (by omega)).trans kq3
  obtain ⟨q5, hq5, h⟩ := bnd_e h
  have kq5 : q5 a = S a := (hrc _ _ _ _ hq5).trans kq4
  obtain ⟨q6, hq6, h⟩ := bnd_e h
  have kq6 : q6 a = S a := (w_fX3_expect hq6 (by omega)).trans kq5
  obtain ⟨q7, hq7, h⟩ := bnd_e h
  have kq7 : q7 a = S a := (w_fX8_addCode hq7 (by omega)).trans kq6
  obtain rfl := Option.some.inj h
  exact kq7
theorem w_fGX3_truth {a : Nat} (ha : a ≠ 19 ∧ a ≠ 21 ∧ a ≠ 25) : ∀ n x0 x1 x2 rr, fGX3_truth n x0 x1 x2 = some rr → rr a = x2 a := by
  intro n
  induction n with
  | zero => intro x0 x1 x2 rr h; cases h
  | succ n ih =>
    intro x0 x1 x2 rr h
    unfold fGX3_truth at h
    rcases ite_e h with ⟨_, h⟩ | ⟨_, h⟩
    · exact w_fX3_truth ih h ha
    rcases ite_e h with ⟨_, h⟩ | ⟨_, h⟩
    · exact w_fX3_both ih h ha
    rcases ite_e h with ⟨_, h⟩ | ⟨_, h⟩
    · exact w_fX3_unit ih h ha
    rcases ite_e h with ⟨_, h⟩ | ⟨_, h⟩
    · exact w_fX3_comparison ih h ha
    rcases ite_e h with ⟨_, h⟩ | ⟨_, h⟩
    · exact w_fX3_sum ih h ha
    rcases ite_e h with ⟨_, h⟩ | ⟨_, h⟩
    · exact w_fX3_term ih h ha
    rcases ite_e h with ⟨_, h⟩ | ⟨_, h⟩
    · exact w_fX3_atom ih h ha
    exact w_fX3_choice ih h ha
theorem w_gX3_truth {p1 : Int} {S : SS} {rr : SS} (h : gX3_truth p1 S = some rr) {a : Nat} (ha : a ≠ 19 ∧ a ≠ 21 ∧ a ≠ 25) : rr a = S a := w_fGX3_truth ha _ _ _ _ _ h
theorem w_gX3_both {p1 : Int} {S : SS} {rr : SS} (h : gX3_both p1 S = some rr) {a : Nat} (ha : a ≠ 19 ∧ a ≠ 21 ∧ a ≠ 25) : rr a = S a := w_fGX3_truth ha _ _ _ _ _ h
theorem w_gX3_unit {p1 : Int} {S : SS} {rr : SS} (h : gX3_unit p1 S = some rr) {a : Nat} (ha : a ≠ 19 ∧ a ≠ 21 ∧ a ≠ 25) : rr a = S a := w_fGX3_truth ha _ _ _ _ _ h
theorem w_gX3_comparison {p1 : Int} {S : SS} {rr : SS} (h : gX3_comparison p1 S = some rr) {a : Nat} (ha : a ≠ 19 ∧ a ≠ 21 ∧ a ≠ 25) : rr a = S a := w_fGX3_truth ha _ _ _ _ _ h
theorem w_gX3_sum {p1 : Int} {S : SS} {rr : SS} (h : gX3_sum p1 S = some rr) {a : Nat} (ha : a ≠ 19 ∧ a ≠ 21 ∧ a ≠ 25) : rr a = S a := w_fGX3_truth ha _ _ _ _ _ h
theorem w_gX3_term {p1 : Int} {S : SS} {rr : SS} (h : gX3_term p1 S = some rr) {a : Nat} (ha : a ≠ 19 ∧ a ≠ 21 ∧ a ≠ 25) : rr a = S a := w_fGX3_truth ha _ _ _ _ _ h
theorem w_gX3_atom {p1 : Int} {S : SS} {rr : SS} (h : gX3_atom p1 S = some rr) {a : Nat} (ha : a ≠ 19 ∧ a ≠ 21 ∧ a ≠ 25) : rr a = S a := w_fGX3_truth ha _ _ _ _ _ h
theorem w_gX3_choice {p1 : Int} {S : SS} {rr : SS} (h : gX3_choice p1 S = some rr) {a : Nat} (ha : a ≠ 19 ∧ a ≠ 21 ∧ a ≠ 25) : rr a = S a := w_fGX3_truth ha _ _ _ _ _ h
set_option maxHeartbeats 4000000 in
theorem w_fX3_shiftsLine {S : SS} {rr : SS} (h : fX3_shiftsLine S = some rr) {a : Nat} (ha : a ≠ 19 ∧ a ≠ 21 ∧ a ≠ 25) : rr a = S a := by
  unfold fX3_shiftsLine at h
  obtain ⟨q1, hq1, h⟩ := bnd_e h
  have kq1 : q1 a = S a := (w_fX3_advance hq1 (by omega)).trans rfl
  obtain ⟨q2, hq2, h⟩ := bnd_e h
  have kq2 : q2 a = S a := (w_fX3_expect hq2 (by omega)).trans kq1
  obtain ⟨S3, hS3, h⟩ := lt_e h
  have kS3 : S3 a = S a := by rw [hS3]; exact ((up_row (by omega)).trans kq2)
  obtain ⟨S4, hS4, h⟩ := lt_e h
  have kS4 : S4 a = S a := by rw [hS4]; exact ((up_row (by omega)).trans kS3)
  obtain ⟨q5, hq5, h⟩ := bnd_e h
  have kq5 : q5 a = S a := (w_gX3_sum hq5 (by omega)).trans kS4
  obtain ⟨S6, hS6, h⟩ := lt_e h
  have kS6 : S6 a = S a := by rw [hS6]; exact ((up_row (by omega)).trans kq5)
  obtain rfl := Option.some.inj h
  exact kS6
set_option maxHeartbeats 4000000 in
theorem w_fX3_mayLine {S : SS} {rr : SS} (h : fX3_mayLine S = some rr) {a : Nat} (ha : a ≠ 19 ∧ a ≠ 21 ∧ a ≠ 25) : rr a = S a := by
  unfold fX3_mayLine at h
  obtain ⟨q1, hq1, h⟩ := bnd_e h
  have kq1 : q1 a = S a := (w_fX3_advance hq1 (by omega)).trans rfl
  obtain ⟨q2, hq2, h⟩ := bnd_e h
  have kq2 : q2 a = S a := (w_fX3_expect hq2 (by omega)).trans kq1
  obtain ⟨S3, hS3, h⟩ := lt_e h
  have kS3 : S3 a = S a := by rw [hS3]; exact ((up_row (by omega)).trans kq2)
  obtain ⟨S4, hS4, h⟩ := lt_e h
  have kS4 : S4 a = S a := by rw [hS4]; exact ((up_row (by omega)).trans kS3)
  obtain ⟨q5, hq5, h⟩ := bnd_e h
  have kq5 : q5 a = S a := (w_gX3_truth hq5 (by omega)).trans kS4
  obtain ⟨S6, hS6, h⟩ := lt_e h
  have kS6 : S6 a = S a := by rw [hS6]; exact ((up_row (by omega)).trans kq5)
  obtain rfl := Option.some.inj h
  exact kS6
set_option maxHeartbeats 4000000 in
theorem w_fX3_line {S : SS} {rr : SS} (h : fX3_line S = some rr) {a : Nat} (ha : a ≠ 19 ∧ (a < 21 ∨ 29 < a)) : rr a = S a := by
  unfold fX3_line at h
  obtain ⟨q1, hq1, h⟩ := bnd_e h
  have kq1 : q1 a = S a := by
    rcases ite_e hq1 with ⟨_, hq1⟩ | ⟨_, hq1⟩
    · obtain ⟨q3, hq3, hq1⟩ := bnd_e hq1
      have kq3 : q3 a = S a := (w_fX3_streetLine hq3 (by omega)).trans rfl
      obtain rfl := Option.some.inj hq1
      exact kq3
    · rcases ite_e hq1 with ⟨_, hq1⟩ | ⟨_, hq1⟩
      · obtain ⟨q5, hq5, hq1⟩ := bnd_e hq1
        have kq5 : q5 a = S a := (w_fX3_goerLine hq5 (by omega)).trans rfl
        obtain rfl := Option.some.inj hq1
        exact kq5
      · rcases ite_e hq1 with ⟨_, hq1⟩ | ⟨_, hq1⟩
        · obtain ⟨q7, hq7, hq1⟩ := bnd_e hq1
          have kq7 : q7 a = S a := (w_fX3_advance hq7 (by omega)).trans rfl
          obtain ⟨q8, hq8, hq1⟩ := bnd_e hq1
          have kq8 : q8.2 a = S a := (w_fX3_number hq8 (by omega)).trans kq7
          obtain ⟨S9, hS9, hq1⟩ := lt_e hq1
          have kS9 : S9 a = S a := by rw [hS9]; exact ((up_row (by omega)).trans kq8)
          obtain rfl := Option.some.inj hq1
          exact kS9
        · rcases ite_e hq1 with ⟨_, hq1⟩ | ⟨_, hq1⟩
          · obtain ⟨q11, hq11, hq1⟩ := bnd_e hq1
            have kq11 : q11 a = S a := (w_fX3_shiftsLine hq11 (by omega)).trans rfl
            obtain rfl := Option.some.inj hq1
            exact kq11
          · rcases ite_e hq1 with ⟨_, hq1⟩ | ⟨_, hq1⟩
            · obtain ⟨q13, hq13, hq1⟩ := bnd_e hq1
              have kq13 : q13 a = S a := (w_fX3_mayLine hq13 (by omega)).trans rfl
              obtain rfl := Option.some.inj hq1
              exact kq13
            · obtain ⟨q14, hq14, hq1⟩ := bnd_e hq1
              have kq14 : q14 a = S a := (w_fX3_fail hq14 (by omega)).trans rfl
              obtain rfl := Option.some.inj hq1
              exact kq14
  obtain ⟨q15, hq15, h⟩ := bnd_e h
  have kq15 : q15 a = S a := (w_fX3_expect hq15 (by omega)).trans kq1
  obtain ⟨S16, hS16, h⟩ := lt_e h
  have kS16 : S16 a = S a := by rw [hS16]; exact ((up_row (by omega)).trans kq15)
  obtain rfl := Option.some.inj h
  exact kS16
set_option maxHeartbeats 4000000 in
theorem w_fX3_read_L76  {a : Nat} (ha : a ≠ 19 ∧ (a < 21 ∨ 29 < a)) : ∀ n l2 S rr, fX3_read_L76  n l2 S = some rr → rr a = S a := by
  intro n
  induction n with
  | zero => intro l2 S rr h; cases h
  | succ n ih =>
    intro l2 S rr h
    unfold fX3_read_L76 at h
    rcases ite_e h with ⟨_, h⟩ | ⟨_, h⟩
    · obtain rfl := Option.some.inj h
      exact rfl
    · rcases ite_e h with ⟨_, h⟩ | ⟨_, h⟩
      · obtain rfl := Option.some.inj h
        exact rfl
      · rcases ite_e h with ⟨_, h⟩ | ⟨_, h⟩
        · obtain rfl := Option.some.inj h
          exact rfl
        · obtain ⟨q1, hq1, h⟩ := bnd_e h
          have kq1 : q1 a = S a := (w_fX3_line hq1 (by omega)).trans rfl
          obtain ⟨x2, hx2, h⟩ := lt_e h
          exact (ih _ _ _ h).trans kq1
set_option maxHeartbeats 4000000 in
theorem w_fX3_read {p1 : Int} {S : SS} {rr : SS} (h : fX3_read p1 S = some rr) {a : Nat} (ha : a ≠ 19 ∧ (a < 21 ∨ 29 < a)) : rr a = S a := by
  unfold fX3_read at h
  obtain ⟨S1, hS1, h⟩ := lt_e h
  have kS1 : S1 a = S a := by rw [hS1]; exact ((up_row (by omega)).trans rfl)
  obtain ⟨S2, hS2, h⟩ := lt_e h
  have kS2 : S2 a = S a := by rw [hS2]; exact ((up_row (by omega)).trans kS1)
  obtain ⟨x3, hx3, h⟩ := lt_e h
  obtain ⟨S4, hS4, h⟩ := lt_e h
  have kS4 : S4 a = S a := by rw [hS4]; exact ((up_row (by omega)).trans kS2)
  obtain ⟨S5, hS5, h⟩ := lt_e h
  have kS5 : S5 a = S a := by rw [hS5]; exact ((up_row (by omega)).trans kS4)
  obtain ⟨q6, hq6, h⟩ := bnd_e h
  have kq6 : q6 a = S a := (w_fX8_clear hq6 (by omega)).trans kS5
  obtain ⟨q7, hq7, h⟩ := bnd_e h
  have kq7 : q7 a = S a := (w_fX3_advance hq7 (by omega)).trans kq6
  obtain ⟨q8, hq8, h⟩ := bnd_e h
  have kq8 : q8 a = S a := (w_fX3_expect hq8 (by omega)).trans kq7
  obtain ⟨q9, hq9, h⟩ := bnd_e h
  have kq9 : q9.2 a = S a := (w_fX3_number hq9 (by omega)).trans kq8
  obtain ⟨S10, hS10, h⟩ := lt_e h
  have kS10 : S10 a = S a := by rw [hS10]; exact ((up_row (by omega)).trans kq9)
  obtain ⟨q11, hq11, h⟩ := bnd_e h
  have kq11 : q11 a = S a := (w_fX3_expect hq11 (by omega)).trans kS10
  obtain ⟨S12, hS12, h⟩ := lt_e h
  have kS12 : S12 a = S a := by rw [hS12]; exact ((up_row (by omega)).trans kq11)
  obtain ⟨q13, hq13, h⟩ := bnd_e h
  have kq13 : q13 a = S a := (w_fX3_read_L76 (by omega) _ _ _ _ hq13).trans kS12
  obtain ⟨S15, hS15, h⟩ := lt_e h
  have kS15 : S15 a = S a := by rw [hS15]; exact ((up_row (by omega)).trans kq13)
  obtain rfl := Option.some.inj h
  exact kS15
set_option maxHeartbeats 4000000 in
theorem w_fX11_town {p1 : Int} {S : SS} {rr : Int × SS} (h : fX11_town p1 S = some rr) {a : Nat} (ha : (a < 2 ∨ 10 < a) ∧ a ≠ 19 ∧ (a < 21 ∨ 30 < a) ∧ a ≠ 59) : rr.2 a = S a := by
  unfold fX11_town at h
  rcases ite_e h with ⟨_, h⟩ | ⟨_, h⟩
  · obtain rfl := Option.some.inj h
    exact rfl
  · rcases ite_e h with ⟨_, h⟩ | ⟨_, h⟩
    · obtain ⟨q1, hq1, h⟩ := bnd_e h
      have kq1 : q1 a = S a := (w_fX3_read hq1 (by omega)).trans rfl
      rcases ite_e h with ⟨_, h⟩ | ⟨_, h⟩
      · obtain ⟨q2, hq2, h⟩ := bnd_e h
        have kq2 : q2 a = S a := (w_fX11_becomes hq2 (by omega)).trans kq1
        obtain rfl := Option.some.inj h
        exact kq2
      · obtain rfl := Option.some.inj h
        exact kq1
    · obtain rfl := Option.some.inj h
      exact rfl
set_option maxHeartbeats 4000000 in
theorem w_fX12_next_L8  {a : Nat} (ha : a ≠ 130) : ∀ n S rr, fX12_next_L8  n S = some rr → rr a = S a := by
  intro n
  induction n with
  | zero => intro S rr h; cases h
  | succ n ih =>
    intro S rr h
    unfold fX12_next_L8 at h
    obtain ⟨q1, hq1, h⟩ := bnd_e h
    rcases ite_e h with ⟨_, h⟩ | ⟨_, h⟩
    · obtain ⟨S2, hS2, h⟩ := lt_e h
      have kS2 : S2 a = S a := by rw [hS2]; exact ((up_row (by omega)).trans rfl)
      exact (ih _ _ h).trans kS2
    · obtain ⟨q3, hq3, h⟩ := bnd_e h
      rcases ite_e h with ⟨_, h⟩ | ⟨_, h⟩
      · obtain ⟨S4, hS4, h⟩ := lt_e h
        have kS4 : S4 a = S a := by rw [hS4]; exact ((up_row (by omega)).trans rfl)
        exact (ih _ _ h).trans kS4
      · obtain rfl := Option.some.inj h
        exact rfl
set_option maxHeartbeats 4000000 in
theorem w_fX12_next_L89  {a : Nat} (ha : a ≠ 130) : ∀ n S rr, fX12_next_L89  n S = some rr → rr a = S a := by
  intro n
  induction n with
  | zero => intro S rr h; cases h
  | succ n ih =>
    intro S rr h
    unfold fX12_next_L89 at h
    obtain ⟨q1, hq1, h⟩ := bnd_e h
    obtain ⟨q2, hq2, h⟩ := bnd_e h
    rcases ite_e h with ⟨_, h⟩ | ⟨_, h⟩
    · obtain ⟨S3, hS3, h⟩ := lt_e h
      have kS3 : S3 a = S a := by rw [hS3]; exact ((up_row (by omega)).trans rfl)
      exact (ih _ _ h).trans kS3
    · obtain rfl := Option.some.inj h
      exact rfl
set_option maxHeartbeats 4000000 in
theorem w_fX12_next_L146  {a : Nat} (ha : a ≠ 130) : ∀ n S rr, fX12_next_L146  n S = some rr → rr a = S a := by
  intro n
  induction n with
  | zero => intro S rr h; cases h
  | succ n ih =>
    intro S rr h
    unfold fX12_next_L146 at h
    obtain ⟨q1, hq1, h⟩ := bnd_e h
    obtain ⟨q2, hq2, h⟩ := bnd_e h
    rcases ite_e h with ⟨_, h⟩ | ⟨_, h⟩
    · obtain ⟨q3, hq3, h⟩ := bnd_e h
      have kq3 : q3 a = S a := by
        rcases ite_e hq3 with ⟨_, hq3⟩ | ⟨_, hq3⟩
        · obtain rfl := Option.some.inj hq3
          exact rfl
        · obtain ⟨q4, hq4, hq3⟩ := bnd_e hq3
          obtain ⟨S5, hS5, hq3⟩ := lt_e hq3
          have kS5 : S5 a = S a := by rw [hS5]; exact ((up_row (by omega)).trans rfl)
          obtain rfl := Option.some.inj hq3
          exact kS5
      obtain ⟨S7, hS7, h⟩ := lt_e h
      have kS7 : S7 a = S a := by rw [hS7]; exact ((up_row (by omega)).trans kq3)
      exact (ih _ _ h).trans kS7
    · obtain rfl := Option.some.inj h
      exact rfl
set_option maxHeartbeats 4000000 in
theorem w_fX12_next_L254  {a : Nat} (ha : a ≠ 130) : ∀ n l1 S rr, fX12_next_L254  n l1 S = some rr → rr a = S a := by
  intro n
  induction n with
  | zero => intro l1 S rr h; cases h
  | succ n ih =>
    intro l1 S rr h
    unfold fX12_next_L254 at h
    rcases ite_e h with ⟨_, h⟩ | ⟨_, h⟩
    · obtain rfl := Option.some.inj h
      exact rfl
    · obtain ⟨q1, hq1, h⟩ := bnd_e h
      obtain ⟨v2, _, _, h⟩ := rdX_e h
      obtain ⟨q4, hq4, h⟩ := bnd_e h
      have kq4 : q4 a = S a := by
        rcases ite_e hq4 with ⟨_, hq4⟩ | ⟨_, hq4⟩
        · obtain ⟨S5, hS5, hq4⟩ := lt_e hq4
          have kS5 : S5 a = S a := by rw [hS5]; exact ((up_row (by omega)).trans rfl)
          obtain rfl := Option.some.inj hq4
          exact kS5
        · obtain rfl := Option.some.inj hq4
          exact rfl
      obtain ⟨x7, hx7, h⟩ := lt_e h
      exact (ih _ _ _ h).trans kq4
set_option maxHeartbeats 4000000 in
theorem w_fX12_next {S : SS} {rr : SS} (h : fX12_next S = some rr) {a : Nat} (ha : a ≠ 130) : rr a = S a := by
  unfold fX12_next at h
  obtain ⟨S1, hS1, h⟩ := lt_e h
  have kS1 : S1 a = S a := by rw [hS1]; exact ((up_row (by omega)).trans rfl)
  obtain ⟨q2, hq2, h⟩ := bnd_e h
  have kq2 : q2 a = S a := (w_fX12_next_L8 (by omega) _ _ _ hq2).trans kS1
  obtain ⟨S4, hS4, h⟩ := lt_e h
  have kS4 : S4 a = S a := by rw [hS4]; exact ((up_row (by omega)).trans kq2)
  rcases ite_e h with ⟨_, h⟩ | ⟨_, h⟩
  · obtain ⟨q5, hq5, h⟩ := bnd_e h
    obtain ⟨q6, hq6, h⟩ := bnd_e h
    rcases ite_e h with ⟨_, h⟩ | ⟨_, h⟩
    · obtain ⟨q7, hq7, h⟩ := bnd_e h
      have kq7 : q7 a = S a := (w_fX12_next_L89 (by omega) _ _ _ hq7).trans kS4
      obtain ⟨q9, hq9, h⟩ := bnd_e h
      obtain ⟨S10, hS10, h⟩ := lt_e h
      have kS10 : S10 a = S a := by rw [hS10]; exact ((up_row (by omega)).trans kq7)
      obtain rfl := Option.some.inj h
      exact kS10
    · obtain ⟨q11, hq11, h⟩ := bnd_e h
      obtain ⟨q12, hq12, h⟩ := bnd_e h
      rcases ite_e h with ⟨_, h⟩ | ⟨_, h⟩
      · obtain ⟨S13, hS13, h⟩ := lt_e h
        have kS13 : S13 a = S a := by rw [hS13]; exact ((up_row (by omega)).trans kS4)
        obtain ⟨q14, hq14, h⟩ := bnd_e h
        have kq14 : q14 a = S a := (w_fX12_next_L146 (by omega) _ _ _ hq14).trans kS13
        obtain ⟨q16, hq16, h⟩ := bnd_e h
        obtain ⟨S18, hS18, h⟩ := lt_e h
        have kS18 : S18 a = S a := by rw [hS18]; exact ((up_row (by omega)).trans kq14)
        obtain rfl := Option.some.inj h
        exact kS18
      · obtain ⟨S19, hS19, h⟩ := lt_e h
        have kS19 : S19 a = S a := by rw [hS19]; exact ((up_row (by omega)).trans kS4)
        obtain ⟨S20, hS20, h⟩ := lt_e h
        have kS20 : S20 a = S a := by rw [hS20]; exact ((up_row (by omega)).trans kS19)
        obtain ⟨q21, hq21, h⟩ := bnd_e h
        have kq21 : q21 a = S a := (w_fX12_next_L254 (by omega) _ _ _ _ hq21).trans kS20
        obtain rfl := Option.some.inj h
        exact kq21
  · obtain ⟨S25, hS25, h⟩ := lt_e h
    have kS25 : S25 a = S a := by rw [hS25]; exact ((up_row (by omega)).trans kS4)
    obtain rfl := Option.some.inj h
    exact kS25
set_option maxHeartbeats 4000000 in
theorem w_fX12_eats {p1 : Int} {S : SS} {rr : Bool × SS} (h : fX12_eats p1 S = some rr) {a : Nat} (ha : a ≠ 130) : rr.2 a = S a := by
  unfold fX12_eats at h
  obtain ⟨q1, hq1, h⟩ := bnd_e h
  rcases ite_e h with ⟨_, h⟩ | ⟨_, h⟩
  · obtain ⟨q2, hq2, h⟩ := bnd_e h
    have kq2 : q2 a = S a := (w_fX12_next hq2 (by omega)).trans rfl
    obtain rfl := Option.some.inj h
    exact kq2
  · obtain rfl := Option.some.inj h
    exact rfl
set_option maxHeartbeats 4000000 in
theorem w_fX12_takes {p1 : Int} {p2 : Int} {S : SS} {rr : Int × SS} (h : fX12_takes p1 p2 S = some rr) {a : Nat} (ha : a ≠ 130) : rr.2 a = S a := by
  unfold fX12_takes at h
  obtain ⟨q1, hq1, h⟩ := bnd_e h
  obtain ⟨q2, hq2, h⟩ := bnd_e h
  have kq2 : q2 a = S a := by
    rcases ite_e hq2 with ⟨_, hq2⟩ | ⟨_, hq2⟩
    · obtain ⟨q3, hq3, hq2⟩ := bnd_e hq2
      rcases ite_e hq2 with ⟨_, hq2⟩ | ⟨_, hq2⟩
      · obtain rfl := Option.some.inj hq2
        exact rfl
      · obtain ⟨q4, hq4, hq2⟩ := bnd_e hq2
        have kq4 : q4 a = S a := (w_fX12_fails hq4 (by omega)).trans rfl
        obtain rfl := Option.some.inj hq2
        exact kq4
    · obtain ⟨q6, hq6, hq2⟩ := bnd_e hq2
      have kq6 : q6 a = S a := (w_fX12_fails hq6 (by omega)).trans rfl
      obtain rfl := Option.some.inj hq2
      exact kq6
  obtain ⟨x8, hx8, h⟩ := lt_e h
  obtain ⟨q9, hq9, h⟩ := bnd_e h
  have kq9 : q9 a = S a := by
    rcases ite_e hq9 with ⟨_, hq9⟩ | ⟨_, hq9⟩
    · obtain ⟨q10, hq10, hq9⟩ := bnd_e hq9
      have kq10 : q10 a = S a := (w_fX12_next hq10 (by omega)).trans kq2
      obtain rfl := Option.some.inj hq9
      exact kq10
    · obtain rfl := Option.some.inj hq9
      exact kq2
  obtain rfl := Option.some.inj h
  exact kq9
set_option maxHeartbeats 4000000 in
theorem w_fX12_goesIn {p1 : Int} {S : SS} {rr : Bool × SS} (h : fX12_goesIn p1 S = some rr) {a : Nat} (ha : a ≠ 130) : rr.2 a = S a := by
  unfold fX12_goesIn at h
  obtain ⟨q1, hq1, h⟩ := bnd_e h
  have kq1 : q1 a = S a := by
    rcases ite_e hq1 with ⟨_, hq1⟩ | ⟨_, hq1⟩
    · obtain ⟨q2, hq2, hq1⟩ := bnd_e hq1
      have kq2 : q2 a = S a := (w_fX12_fails hq2 (by omega)).trans rfl
      obtain rfl := Option.some.inj hq1
      exact kq2
    · obtain rfl := Option.some.inj hq1
      exact rfl
  obtain ⟨q4, hq4, h⟩ := bnd_e h
  have kq4 : q4 a = S a := by
    rcases ite_e hq4 with ⟨_, hq4⟩ | ⟨_, hq4⟩
    · obtain ⟨q5, hq5, hq4⟩ := bnd_e hq4
      have kq5 : q5 a = S a := (w_fX12_next hq5 (by omega)).trans kq1
      obtain rfl := Option.some.inj hq4
      exact kq5
    · obtain rfl := Option.some.inj hq4
      exact kq1
  rcases ite_e h with ⟨_, h⟩ | ⟨_, h⟩
  · obtain rfl := Option.some.inj h
    exact kq4
  · obtain rfl := Option.some.inj h
    exact kq4
set_option maxHeartbeats 4000000 in
theorem w_fX12_readAtom {rc : Nat → Int → SS → Option SS} {p1 : Int} {S : SS} {rr : SS} {a : Nat} (hrc : ∀ x0 x1 x2 rr, rc x0 x1 x2 = some rr → rr a = x2 a) (h : fX12_readAtom rc p1 S = some rr) (ha : a ≠ 130 ∧ a ≠ 134) : rr a = S a := by
  unfold fX12_readAtom at h
  obtain ⟨q1, hq1, h⟩ := bnd_e h
  rcases ite_e h with ⟨_, h⟩ | ⟨_, h⟩
  · obtain ⟨q2, hq2, h⟩ := bnd_e h
    have kq2 : q2 a = S a := (w_fX12_codes hq2 (by omega)).trans rfl
    obtain ⟨q3, hq3, h⟩ := bnd_e h
    have kq3 : q3 a = S a := (w_fX12_next hq3 (by omega)).trans kq2
    obtain rfl := Option.some.inj h
    exact kq3
  · rcases ite_e h with ⟨_, h⟩ | ⟨_, h⟩
    · obtain ⟨q4, hq4, h⟩ := bnd_e h
      rcases ite_e h with ⟨_, h⟩ | ⟨_, h⟩
      · obtain ⟨q5, hq5, h⟩ := bnd_e h
        rcases ite_e h with ⟨_, h⟩ | ⟨_, h⟩
        · obtain ⟨q6, hq6, h⟩ := bnd_e h
          have kq6 : q6.2 a = S a := (w_fX12_goesIn hq6 (by omega)).trans rfl
          rcases ite_e h with ⟨_, h⟩ | ⟨_, h⟩
          · obtain ⟨q7, hq7, h⟩ := bnd_e h
            have kq7 : q7 a = S a := (hrc _ _ _ _ hq7).trans kq6
            obtain ⟨q8, hq8, h⟩ := bnd_e h
            have kq8 : q8.2 a = S a := (w_fX12_eats hq8 (by omega)).trans kq7
            rcases ite_e h with ⟨_, h⟩ | ⟨_, h⟩
            · obtain rfl := Option.some.inj h
              exact kq8
            · obtain ⟨q9, hq9, h⟩ := bnd_e h
              have kq9 : q9 a = S a := (w_fX12_fails hq9 (by omega)).trans kq8
              obtain rfl := Option.some.inj h
              exact kq9
          · obtain rfl := Option.some.inj h
            exact kq6
        · obtain ⟨q12, hq12, h⟩ := bnd_e h
          rcases ite_e h with ⟨_, h⟩ | ⟨_, h⟩
          · obtain ⟨q13, hq13, h⟩ := bnd_e h
            have kq13 : q13 a = S a := (hrc _ _ _ _ hq13).trans rfl
            obtain rfl := Option.some.inj h
            exact kq13
          · obtain ⟨q14, hq14, h⟩ := bnd_e h
            have kq14 : q14 a = S a := (w_fX12_fails hq14 (by omega)).trans rfl
            obtain rfl := Option.some.inj h
            exact kq14
      · obtain ⟨q17, hq17, h⟩ := bnd_e h
        obtain ⟨q18, hq18, h⟩ := bnd_e h
        have kq18 : q18 a = S a := (w_fX12_codes hq18 (by omega)).trans rfl
        obtain ⟨q19, hq19, h⟩ := bnd_e h
        have kq19 : q19 a = S a := (w_fX12_next hq19 (by omega)).trans kq18
        obtain rfl := Option.some.inj h
        exact kq19
    · obtain ⟨q21, hq21, h⟩ := bnd_e h
      rcases ite_e h with ⟨_, h⟩ | ⟨_, h⟩
      · obtain ⟨q22, hq22, h⟩ := bnd_e h
        have kq22 : q22.2 a = S a := (w_fX12_goesIn hq22 (by omega)).trans rfl
        rcases ite_e h with ⟨_, h⟩ | ⟨_, h⟩
        · obtain ⟨q23, hq23, h⟩ := bnd_e h
          have kq23 : q23 a = S a := (hrc _ _ _ _ hq23).trans kq22
          obtain ⟨q24, hq24, h⟩ := bnd_e h
          have kq24 : q24.2 a = S a := (w_fX12_eats hq24 (by omega)).trans kq23
          rcases ite_e h with ⟨_, h⟩ | ⟨_, h⟩
          · obtain rfl := Option.some.inj h
            exact kq24
          · obtain ⟨q25, hq25, h⟩ := bnd_e h
            have kq25 : q25 a = S a := (w_fX12_fails hq25 (by omega)).trans kq24
            obtain rfl := Option.some.inj h
            exact kq25
        · obtain rfl := Option.some.inj h
          exact kq22
      · obtain ⟨q28, hq28, h⟩ := bnd_e h
        rcases ite_e h with ⟨_, h⟩ | ⟨_, h⟩
        · obtain ⟨q29, hq29, h⟩ := bnd_e h
          have kq29 : q29 a = S a := (hrc _ _ _ _ hq29).trans rfl
          obtain rfl := Option.some.inj h
          exact kq29
        · obtain ⟨q30, hq30, h⟩ := bnd_e h
          have kq30 : q30 a = S a := (w_fX12_fails hq30 (by omega)).trans rfl
          obtain rfl := Option.some.inj h
          exact kq30
set_option maxHeartbeats 4000000 in
theorem w_fX12_readIf {rc : Nat → Int → SS → Option SS} {p1 : Int} {S : SS} {rr : SS} {a : Nat} (hrc : ∀ x0 x1 x2 rr, rc x0 x1 x2 = some rr → rr a = x2 a) (h : fX12_readIf rc p1 S = some rr) (ha : a ≠ 130 ∧ a ≠ 134) : rr a = S a := by
  unfold fX12_readIf at h
  obtain ⟨q1, hq1, h⟩ := bnd_e h
  have kq1 : q1.2 a = S a := (w_fX12_goesIn hq1 (by omega)).trans rfl
  rcases ite_e h with ⟨_, h⟩ | ⟨_, h⟩
  · obtain ⟨q2, hq2, h⟩ := bnd_e h
    have kq2 : q2 a = S a := (hrc _ _ _ _ hq2).trans kq1
    obtain ⟨q3, hq3, h⟩ := bnd_e h
    have kq3 : q3.2 a = S a := (w_fX12_eats hq3 (by omega)).trans kq2
    obtain ⟨q4, hq4, h⟩ := bnd_e h
    have kq4 : q4 a = S a := by
      rcases ite_e hq4 with ⟨_, hq4⟩ | ⟨_, hq4⟩
      · obtain rfl := Option.some.inj hq4
        exact kq3
      · obtain ⟨q5, hq5, hq4⟩ := bnd_e hq4
        have kq5 : q5 a = S a := (w_fX12_fails hq5 (by omega)).trans kq3
        obtain rfl := Option.some.inj hq4
        exact kq5
    obtain ⟨q7, hq7, h⟩ := bnd_e h
    have kq7 : q7 a = S a := (hrc _ _ _ _ hq7).trans kq4
    obtain ⟨q8, hq8, h⟩ := bnd_e h
    have kq8 : q8.2 a = S a := (w_fX12_eats hq8 (by omega)).trans kq7
    obtain ⟨q9, hq9, h⟩ := bnd_e h
    have kq9 : q9 a = S a := by
      rcases ite_e hq9 with ⟨_, hq9⟩ | ⟨_, hq9⟩
      · obtain rfl := Option.some.inj hq9
        exact kq8
      · obtain ⟨q10, hq10, hq9⟩ := bnd_e hq9
        have kq10 : q10 a = S a := (w_fX12_fails hq10 (by omega)).trans kq8
        obtain rfl := Option.some.inj hq9
        exact kq10
    obtain ⟨q12, hq12, h⟩ := bnd_e h
    have kq12 : q12 a = S a := (hrc _ _ _ _ hq12).trans kq9
    obtain ⟨q13, hq13, h⟩ := bnd_e h
    have kq13 : q13.2 a = S a := (w_fX12_eats hq13 (by omega)).trans kq12
    obtain ⟨q14, hq14, h⟩ := bnd_e h
    have kq14 : q14 a = S a := by
      rcases ite_e hq14 with ⟨_, hq14⟩ | ⟨_, hq14⟩
      · obtain rfl := Option.some.inj hq14
        exact kq13
      · obtain ⟨q15, hq15, hq14⟩ := bnd_e hq14
        have kq15 : q15 a = S a := (w_fX12_fails hq15 (by omega)).trans kq13
        obtain rfl := Option.some.inj hq14
        exact kq15
    obtain ⟨q17, hq17, h⟩ := bnd_e h
    have kq17 : q17 a = S a := (w_fX12_codes hq17 (by omega)).trans kq14
    obtain rfl := Option.some.inj h
    exact kq17
  · obtain rfl := Option.some.inj h
    exact kq1
set_option maxHeartbeats 4000000 in
theorem w_fX12_readTerm_L5 {rc : Nat → Int → SS → Option SS} {l1 : Int} {a : Nat} (hrc : ∀ x0 x1 x2 rr, rc x0 x1 x2 = some rr → rr a = x2 a) (ha : a ≠ 130 ∧ a ≠ 134) : ∀ n S rr, fX12_readTerm_L5 rc l1 n S = some rr → rr a = S a := by
  intro n
  induction n with
  | zero => intro S rr h; cases h
  | succ n ih =>
    intro S rr h
    unfold fX12_readTerm_L5 at h
    obtain ⟨q1, hq1, h⟩ := bnd_e h
    have kq1 : q1.2 a = S a := (w_fX12_eats hq1 (by omega)).trans rfl
    rcases ite_e h with ⟨_, h⟩ | ⟨_, h⟩
    · obtain ⟨q2, hq2, h⟩ := bnd_e h
      have kq2 : q2 a = S a := (hrc _ _ _ _ hq2).trans kq1
      obtain ⟨q3, hq3, h⟩ := bnd_e h
      have kq3 : q3 a = S a := (w_fX12_codes hq3 (by omega)).trans kq2
      exact (ih _ _ h).trans kq3
    · obtain rfl := Option.some.inj h
      exact kq1
set_option maxHeartbeats 4000000 in
theorem w_fX12_readTerm {rc : Nat → Int → SS → Option SS} {p1 : Int} {S : SS} {rr : SS} {a : Nat} (hrc : ∀ x0 x1 x2 rr, rc x0 x1 x2 = some rr → rr a = x2 a) (h : fX12_readTerm rc p1 S = some rr) (ha : a ≠ 130 ∧ a ≠ 134) : rr a = S a := by
  unfold fX12_readTerm at h
  obtain ⟨q1, hq1, h⟩ := bnd_e h
  have kq1 : q1 a = S a := (hrc _ _ _ _ hq1).trans rfl
  obtain ⟨q2, hq2, h⟩ := bnd_e h
  have kq2 : q2 a = S a := (w_fX12_readTerm_L5 hrc (by omega) _ _ _ hq2).trans kq1
  obtain rfl := Option.some.inj h
  exact kq2
set_option maxHeartbeats 4000000 in
theorem w_fX12_readSum_L5 {rc : Nat → Int → SS → Option SS} {l1 : Int} {a : Nat} (hrc : ∀ x0 x1 x2 rr, rc x0 x1 x2 = some rr → rr a = x2 a) (ha : a ≠ 130 ∧ a ≠ 134) : ∀ n S rr, fX12_readSum_L5 rc l1 n S = some rr → rr a = S a := by
  intro n
  induction n with
  | zero => intro S rr h; cases h
  | succ n ih =>
    intro S rr h
    unfold fX12_readSum_L5 at h
    obtain ⟨q1, hq1, h⟩ := bnd_e h
    rcases ite_e h with ⟨_, h⟩ | ⟨_, h⟩
    · obtain ⟨q2, hq2, h⟩ := bnd_e h
      obtain ⟨q4, hq4, h⟩ := bnd_e h
      have kq4 : q4 a = S a := (w_fX12_next hq4 (by omega)).trans rfl
      obtain ⟨q5, hq5, h⟩ := bnd_e h
      have kq5 : q5 a = S a := (hrc _ _ _ _ hq5).trans kq4
      obtain ⟨q6, hq6, h⟩ := bnd_e h
      have kq6 : q6 a = S a := (w_fX12_codes hq6 (by omega)).trans kq5
      exact (ih _ _ h).trans kq6
    · obtain ⟨q7, hq7, h⟩ := bnd_e h
      rcases ite_e h with ⟨_, h⟩ | ⟨_, h⟩
      · obtain ⟨q8, hq8, h⟩ := bnd_e h
        obtain ⟨q10, hq10, h⟩ := bnd_e h
        have kq10 : q10 a = S a := (w_fX12_next hq10 (by omega)).trans rfl
        obtain ⟨q11, hq11, h⟩ := bnd_e h
        have kq11 : q11 a = S a := (hrc _ _ _ _ hq11).trans kq10
        obtain ⟨q12, hq12, h⟩ := bnd_e h
        have kq12 : q12 a = S a := (w_fX12_codes hq12 (by omega)).trans kq11
        exact (ih _ _ h).trans kq12
      · obtain rfl := Option.some.inj h
        exact rfl
set_option maxHeartbeats 4000000 in
theorem w_fX12_readSum {rc : Nat → Int → SS → Option SS} {p1 : Int} {S : SS} {rr : SS} {a : Nat} (hrc : ∀ x0 x1 x2 rr, rc x0 x1 x2 = some rr → rr a = x2 a) (h : fX12_readSum rc p1 S = some rr) (ha : a ≠ 130 ∧ a ≠ 134) : rr a = S a := by
  unfold fX12_readSum at h
  obtain ⟨q1, hq1, h⟩ := bnd_e h
  have kq1 : q1 a = S a := (hrc _ _ _ _ hq1).trans rfl
  obtain ⟨q2, hq2, h⟩ := bnd_e h
  have kq2 : q2 a = S a := (w_fX12_readSum_L5 hrc (by omega) _ _ _ hq2).trans kq1
  obtain rfl := Option.some.inj h
  exact kq2
set_option maxHeartbeats 4000000 in
theorem w_fX12_readUnit {rc : Nat → Int → SS → Option SS} {p1 : Int} {S : SS} {rr : SS} {a : Nat} (hrc : ∀ x0 x1 x2 rr, rc x0 x1 x2 = some rr → rr a = x2 a) (h : fX12_readUnit rc p1 S = some rr) (ha : a ≠ 130 ∧ a ≠ 134) : rr a = S a := by
  unfold fX12_readUnit at h
  obtain ⟨q1, hq1, h⟩ := bnd_e h
  rcases ite_e h with ⟨_, h⟩ | ⟨_, h⟩
  · obtain ⟨q2, hq2, h⟩ := bnd_e h
    have kq2 : q2.2 a = S a := (w_fX12_goesIn hq2 (by omega)).trans rfl
    rcases ite_e h with ⟨_, h⟩ | ⟨_, h⟩
    · obtain ⟨q3, hq3, h⟩ := bnd_e h
      have kq3 : q3 a = S a := (hrc _ _ _ _ hq3).trans kq2
      obtain ⟨q4, hq4, h⟩ := bnd_e h
      have kq4 : q4 a = S a := (w_fX12_codes hq4 (by omega)).trans kq3
      obtain rfl := Option.some.inj h
      exact kq4
    · obtain rfl := Option.some.inj h
      exact kq2
  · obtain ⟨q6, hq6, h⟩ := bnd_e h
    rcases ite_e h with ⟨_, h⟩ | ⟨_, h⟩
    · obtain ⟨q7, hq7, h⟩ := bnd_e h
      have kq7 : q7.2 a = S a := (w_fX12_goesIn hq7 (by omega)).trans rfl
      rcases ite_e h with ⟨_, h⟩ | ⟨_, h⟩
      · obtain ⟨q8, hq8, h⟩ := bnd_e h
        have kq8 : q8 a = S a := (hrc _ _ _ _ hq8).trans kq7
        obtain ⟨q9, hq9, h⟩ := bnd_e h
        have kq9 : q9.2 a = S a := (w_fX12_eats hq9 (by omega)).trans kq8
        rcases ite_e h with ⟨_, h⟩ | ⟨_, h⟩
        · obtain rfl := Option.some.inj h
          exact kq9
        · obtain ⟨q10, hq10, h⟩ := bnd_e h
          have kq10 : q10 a = S a := (w_fX12_fails hq10 (by omega)).trans kq9
          obtain rfl := Option.some.inj h
          exact kq10
      · obtain rfl := Option.some.inj h
        exact kq7
    · obtain ⟨q13, hq13, h⟩ := bnd_e h
      have kq13 : q13 a = S a := (hrc _ _ _ _ hq13).trans rfl
      obtain ⟨q14, hq14, h⟩ := bnd_e h
      obtain ⟨q15, hq15, h⟩ := bnd_e h
      obtain ⟨q19, hq19, h⟩ := bnd_e h
      obtain ⟨q20, hq20, h⟩ := bnd_e h
      have kq20 : q20 a = S a := by
        rcases ite_e hq20 with ⟨_, hq20⟩ | ⟨_, hq20⟩
        · obtain ⟨q21, hq21, hq20⟩ := bnd_e hq20
          have kq21 : q21 a = S a := (w_fX12_next hq21 (by omega)).trans kq13
          obtain rfl := Option.some.inj hq20
          exact kq21
        · obtain ⟨q22, hq22, hq20⟩ := bnd_e hq20
          rcases ite_e hq20 with ⟨_, hq20⟩ | ⟨_, hq20⟩
          · obtain ⟨q23, hq23, hq20⟩ := bnd_e hq20
            have kq23 : q23 a = S a := (w_fX12_next hq23 (by omega)).trans kq13
            obtain rfl := Option.some.inj hq20
            exact kq23
          · obtain ⟨q24, hq24, hq20⟩ := bnd_e hq20
            rcases ite_e hq20 with ⟨_, hq20⟩ | ⟨_, hq20⟩
            · obtain ⟨q25, hq25, hq20⟩ := bnd_e hq20
              have kq25 : q25 a = S a := (w_fX12_next hq25 (by omega)).trans kq13
              obtain rfl := Option.some.inj hq20
              exact kq25
            · obtain ⟨q26, hq26, hq20⟩ := bnd_e hq20
              have kq26 : q26 a = S a := (w_fX12_fails hq26 (by omega)).trans kq13
              obtain rfl := Option.some.inj hq20
              exact kq26
      obtain ⟨q30, hq30, h⟩ := bnd_e h
      have kq30 : q30 a = S a := (hrc _ _ _ _ hq30).trans kq20
      obtain ⟨q31, hq31, h⟩ := bnd_e h
      have kq31 : q31 a = S a := (w_fX12_codes hq31 (by omega)).trans kq30
      obtain rfl := Option.some.inj h
      exact kq31
set_option maxHeartbeats 4000000 in
theorem w_fX12_readBoth_L5 {rc : Nat → Int → SS → Option SS} {l1 : Int} {a : Nat} (hrc : ∀ x0 x1 x2 rr, rc x0 x1 x2 = some rr → rr a = x2 a) (ha : a ≠ 130 ∧ a ≠ 134) : ∀ n S rr, fX12_readBoth_L5 rc l1 n S = some rr → rr a = S a := by
  intro n
  induction n with
  | zero => intro S rr h; cases h
  | succ n ih =>
    intro S rr h
    unfold fX12_readBoth_L5 at h
    obtain ⟨q1, hq1, h⟩ := bnd_e h
    have kq1 : q1.2 a = S a := (w_fX12_eats hq1 (by omega)).trans rfl
    rcases ite_e h with ⟨_, h⟩ | ⟨_, h⟩
    · obtain ⟨q2, hq2, h⟩ := bnd_e h
      have kq2 : q2 a = S a := (hrc _ _ _ _ hq2).trans kq1
      obtain ⟨q3, hq3, h⟩ := bnd_e h
      have kq3 : q3 a = S a := (w_fX12_codes hq3 (by omega)).trans kq2
      exact (ih _ _ h).trans kq3
    · obtain rfl := Option.some.inj h
      exact kq1
set_option maxHeartbeats 4000000 in
theorem w_fX12_readBoth {rc : Nat → Int → SS → Option SS} {p1 : Int} {S : SS} {rr : SS} {a : Nat} (hrc : ∀ x0 x1 x2 rr, rc x0 x1 x2 = some rr → rr a = x2 a) (h : fX12_readBoth rc p1 S = some rr) (ha : a ≠ 130 ∧ a ≠ 134) : rr a = S a := by
  unfold fX12_readBoth at h
  obtain ⟨q1, hq1, h⟩ := bnd_e h
  have kq1 : q1 a = S a := (hrc _ _ _ _ hq1).trans rfl
  obtain ⟨q2, hq2, h⟩ := bnd_e h
  have kq2 : q2 a = S a := (w_fX12_readBoth_L5 hrc (by omega) _ _ _ hq2).trans kq1
  obtain rfl := Option.some.inj h
  exact kq2
set_option maxHeartbeats 4000000 in
theorem w_fX12_readTruth_L5 {rc : Nat → Int → SS → Option SS} {l1 : Int} {a : Nat} (hrc : ∀ x0 x1 x2 rr, rc x0 x1 x2 = some rr → rr a = x2 a) (ha : a ≠ 130 ∧ a ≠ 134) : ∀ n S rr, fX12_readTruth_L5 rc l1 n S = some rr → rr a = S a := by
  intro n
  induction n with
  | zero => intro S rr h; cases h
  | succ n ih =>
    intro S rr h
    unfold fX12_readTruth_L5 at h
    obtain ⟨q1, hq1, h⟩ := bnd_e h
    have kq1 : q1.2 a = S a := (w_fX12_eats hq1 (by omega)).trans rfl
    rcases ite_e h with ⟨_, h⟩ | ⟨_, h⟩
    · obtain ⟨q2, hq2, h⟩ := bnd_e h
      have kq2 : q2 a = S a := (hrc _ _ _ _ hq2).trans kq1
      obtain ⟨q3, hq3, h⟩ := bnd_e h
      have kq3 : q3 a = S a := (w_fX12_codes hq3 (by omega)).trans kq2
      exact (ih _ _ h).trans kq3
    · obtain rfl := Option.some.inj h
      exact kq1
set_option maxHeartbeats 4000000 in
theorem w_fX12_readTruth {rc : Nat → Int → SS → Option SS} {p1 : Int} {S : SS} {rr : SS} {a : Nat} (hrc : ∀ x0 x1 x2 rr, rc x0 x1 x2 = some rr → rr a = x2 a) (h : fX12_readTruth rc p1 S = some rr) (ha : a ≠ 130 ∧ a ≠ 134) : rr a = S a := by
  unfold fX12_readTruth at h
  obtain ⟨q1, hq1, h⟩ := bnd_e h
  have kq1 : q1 a = S a := (hrc _ _ _ _ hq1).trans rfl
  obtain ⟨q2, hq2, h⟩ := bnd_e h
  have kq2 : q2 a = S a := (w_fX12_readTruth_L5 hrc (by omega) _ _ _ hq2).trans kq1
  obtain rfl := Option.some.inj h
  exact kq2
theorem w_fGX12_readAtom {a : Nat} (ha : a ≠ 130 ∧ a ≠ 134) : ∀ n x0 x1 x2 rr, fGX12_readAtom n x0 x1 x2 = some rr → rr a = x2 a := by
  intro n
  induction n with
  | zero => intro x0 x1 x2 rr h; cases h
  | succ n ih =>
    intro x0 x1 x2 rr h
    unfold fGX12_readAtom at h
    rcases ite_e h with ⟨_, h⟩ | ⟨_, h⟩
    · exact w_fX12_readAtom ih h ha
    rcases ite_e h with ⟨_, h⟩ | ⟨_, h⟩
    · exact w_fX12_readIf ih h ha
    rcases ite_e h with ⟨_, h⟩ | ⟨_, h⟩
    · exact w_fX12_readTerm ih h ha
    rcases ite_e h with ⟨_, h⟩ | ⟨_, h⟩
    · exact w_fX12_readSum ih h ha
    rcases ite_e h with ⟨_, h⟩ | ⟨_, h⟩
    · exact w_fX12_readUnit ih h ha
    rcases ite_e h with ⟨_, h⟩ | ⟨_, h⟩
    · exact w_fX12_readBoth ih h ha
    exact w_fX12_readTruth ih h ha
theorem w_gX12_readAtom {p1 : Int} {S : SS} {rr : SS} (h : gX12_readAtom p1 S = some rr) {a : Nat} (ha : a ≠ 130 ∧ a ≠ 134) : rr a = S a := w_fGX12_readAtom ha _ _ _ _ _ h
theorem w_gX12_readIf {p1 : Int} {S : SS} {rr : SS} (h : gX12_readIf p1 S = some rr) {a : Nat} (ha : a ≠ 130 ∧ a ≠ 134) : rr a = S a := w_fGX12_readAtom ha _ _ _ _ _ h
theorem w_gX12_readTerm {p1 : Int} {S : SS} {rr : SS} (h : gX12_readTerm p1 S = some rr) {a : Nat} (ha : a ≠ 130 ∧ a ≠ 134) : rr a = S a := w_fGX12_readAtom ha _ _ _ _ _ h
theorem w_gX12_readSum {p1 : Int} {S : SS} {rr : SS} (h : gX12_readSum p1 S = some rr) {a : Nat} (ha : a ≠ 130 ∧ a ≠ 134) : rr a = S a := w_fGX12_readAtom ha _ _ _ _ _ h
theorem w_gX12_readUnit {p1 : Int} {S : SS} {rr : SS} (h : gX12_readUnit p1 S = some rr) {a : Nat} (ha : a ≠ 130 ∧ a ≠ 134) : rr a = S a := w_fGX12_readAtom ha _ _ _ _ _ h
theorem w_gX12_readBoth {p1 : Int} {S : SS} {rr : SS} (h : gX12_readBoth p1 S = some rr) {a : Nat} (ha : a ≠ 130 ∧ a ≠ 134) : rr a = S a := w_fGX12_readAtom ha _ _ _ _ _ h
theorem w_gX12_readTruth {p1 : Int} {S : SS} {rr : SS} (h : gX12_readTruth p1 S = some rr) {a : Nat} (ha : a ≠ 130 ∧ a ≠ 134) : rr a = S a := w_fGX12_readAtom ha _ _ _ _ _ h
set_option maxHeartbeats 4000000 in
theorem w_fX12_readPart {p1 : Int} {S : SS} {rr : Bool × SS} (h : fX12_readPart p1 S = some rr) {a : Nat} (ha : a ≠ 130 ∧ a ≠ 134) : rr.2 a = S a := by
  unfold fX12_readPart at h
  obtain ⟨q1, hq1, h⟩ := bnd_e h
  have kq1 : q1.2 a = S a := (w_fX12_eats hq1 (by omega)).trans rfl
  rcases ite_e h with ⟨_, h⟩ | ⟨_, h⟩
  · obtain ⟨q2, hq2, h⟩ := bnd_e h
    have kq2 : q2.2 a = S a := (w_fX12_takes hq2 (by omega)).trans kq1
    obtain ⟨S3, hS3, _, h⟩ := wrA_e h
    have kS3 : S3 a = S a := by rw [hS3]; exact ((up_row (by omega)).trans kq2)
    rcases ite_e h with ⟨_, h⟩ | ⟨_, h⟩
    · obtain rfl := Option.some.inj h
      exact kS3
    · obtain rfl := Option.some.inj h
      exact kS3
  · obtain ⟨q6, hq6, h⟩ := bnd_e h
    have kq6 : q6.2 a = S a := (w_fX12_eats hq6 (by omega)).trans kq1
    rcases ite_e h with ⟨_, h⟩ | ⟨_, h⟩
    · obtain ⟨q7, hq7, h⟩ := bnd_e h
      have kq7 : q7.2 a = S a := (w_fX12_takes hq7 (by omega)).trans kq6
      obtain ⟨S8, hS8, _, h⟩ := wrA_e h
      have kS8 : S8 a = S a := by rw [hS8]; exact ((up_row (by omega)).trans kq7)
      rcases ite_e h with ⟨_, h⟩ | ⟨_, h⟩
      · obtain rfl := Option.some.inj h
        exact kS8
      · obtain rfl := Option.some.inj h
        exact kS8
    · obtain ⟨q11, hq11, h⟩ := bnd_e h
      have kq11 : q11.2 a = S a := (w_fX12_eats hq11 (by omega)).trans kq6
      rcases ite_e h with ⟨_, h⟩ | ⟨_, h⟩
      · obtain ⟨q12, hq12, h⟩ := bnd_e h
        have kq12 : q12.2 a = S a := (w_fX12_takes hq12 (by omega)).trans kq11
        obtain ⟨S13, hS13, _, h⟩ := wrA_e h
        have kS13 : S13 a = S a := by rw [hS13]; exact ((up_row (by omega)).trans kq12)
        rcases ite_e h with ⟨_, h⟩ | ⟨_, h⟩
        · obtain rfl := Option.some.inj h
          exact kS13
        · obtain rfl := Option.some.inj h
          exact kS13
      · obtain rfl := Option.some.inj h
        exact kq11
set_option maxHeartbeats 4000000 in
theorem w_fX12_readStreet_L104 {l1 : Int} {a : Nat} (ha : a ≠ 130 ∧ a ≠ 134) : ∀ n S rr, fX12_readStreet_L104 l1 n S = some rr → rr a = S a := by
  intro n
  induction n with
  | zero => intro S rr h; cases h
  | succ n ih =>
    intro S rr h
    unfold fX12_readStreet_L104 at h
    rcases ite_e h with ⟨_, h⟩ | ⟨_, h⟩
    · obtain ⟨q1, hq1, h⟩ := bnd_e h
      have kq1 : q1.2 a = S a := (w_fX12_readPart hq1 (by omega)).trans rfl
      rcases ite_e h with ⟨_, h⟩ | ⟨_, h⟩
      · exact (ih _ _ h).trans kq1
      · obtain rfl := Option.some.inj h
        exact kq1
    · obtain rfl := Option.some.inj h
      exact rfl
set_option maxHeartbeats 4000000 in
theorem w_fX12_readStreet {S : SS} {rr : SS} (h : fX12_readStreet S = some rr) {a : Nat} (ha : a ≠ 130 ∧ a ≠ 134) : rr a = S a := by
  unfold fX12_readStreet at h
  obtain ⟨v1, _, _, h⟩ := rdA_e h
  obtain ⟨q3, hq3, h⟩ := bnd_e h
  have kq3 : q3 a = S a := by
    rcases ite_e hq3 with ⟨_, hq3⟩ | ⟨_, hq3⟩
    · obtain ⟨q4, hq4, hq3⟩ := bnd_e hq3
      have kq4 : q4 a = S a := (w_fX12_fails hq4 (by omega)).trans rfl
      obtain rfl := Option.some.inj hq3
      exact kq4
    · obtain rfl := Option.some.inj hq3
      exact rfl
  rcases ite_e h with ⟨_, h⟩ | ⟨_, h⟩
  · obtain ⟨q6, hq6, h⟩ := bnd_e h
    have kq6 : q6 a = S a := (w_fX12_next hq6 (by omega)).trans kq3
    obtain ⟨v7, _, _, h⟩ := rdA_e h
    obtain ⟨q9, hq9, h⟩ := bnd_e h
    have kq9 : q9.2 a = S a := (w_fX12_takes hq9 (by omega)).trans kq6
    obtain ⟨S10, hS10, _, h⟩ := wrA_e h
    have kS10 : S10 a = S a := by rw [hS10]; exact ((up_row (by omega)).trans kq9)
    obtain ⟨q12, hq12, h⟩ := bnd_e h
    obtain ⟨q13, hq13, h⟩ := bnd_e h
    have kq13 : q13 a = S a := by
      rcases ite_e hq13 with ⟨_, hq13⟩ | ⟨_, hq13⟩
      · obtain ⟨v14, _, _, hq13⟩ := rdA_e hq13
        rcases ite_e hq13 with ⟨_, hq13⟩ | ⟨_, hq13⟩
        · obtain ⟨q16, hq16, hq13⟩ := bnd_e hq13
          have kq16 : q16 a = S a := (w_fX12_fails hq16 (by omega)).trans kS10
          obtain rfl := Option.some.inj hq13
          exact kq16
        · obtain rfl := Option.some.inj hq13
          exact kS10
      · obtain rfl := Option.some.inj hq13
        exact kS10
    obtain ⟨v19, _, _, h⟩ := rdA_e h
    obtain ⟨q21, hq21, h⟩ := bnd_e h
    have kq21 : q21.2 a = S a := (w_fX12_takes hq21 (by omega)).trans kq13
    obtain ⟨S22, hS22, _, h⟩ := wrA_e h
    have kS22 : S22 a = S a := by rw [hS22]; exact ((up_row (by omega)).trans kq21)
    obtain ⟨q24, hq24, h⟩ := bnd_e h
    have kq24 : q24 a = S a := (w_fX12_readStreet_L104 (by omega) _ _ _ hq24).trans kS22
    rcases ite_e h with ⟨_, h⟩ | ⟨_, h⟩
    · obtain ⟨v26, _, _, h⟩ := rdA_e h
      obtain ⟨S28, hS28, _, h⟩ := wrA_e h
      have kS28 : S28 a = S a := by rw [hS28]; exact ((up_row (by omega)).trans kq24)
      obtain rfl := Option.some.inj h
      exact kS28
    · obtain rfl := Option.some.inj h
      exact kq24
  · obtain rfl := Option.some.inj h
    exact kq3
set_option maxHeartbeats 4000000 in
theorem w_fX12_readGoer {S : SS} {rr : SS} (h : fX12_readGoer S = some rr) {a : Nat} (ha : a ≠ 130 ∧ a ≠ 134) : rr a = S a := by
  unfold fX12_readGoer at h
  obtain ⟨v1, _, _, h⟩ := rdA_e h
  obtain ⟨q3, hq3, h⟩ := bnd_e h
  have kq3 : q3 a = S a := by
    rcases ite_e hq3 with ⟨_, hq3⟩ | ⟨_, hq3⟩
    · obtain ⟨q4, hq4, hq3⟩ := bnd_e hq3
      have kq4 : q4 a = S a := (w_fX12_fails hq4 (by omega)).trans rfl
      obtain rfl := Option.some.inj hq3
      exact kq4
    · obtain rfl := Option.some.inj hq3
      exact rfl
  rcases ite_e h with ⟨_, h⟩ | ⟨_, h⟩
  · obtain ⟨q6, hq6, h⟩ := bnd_e h
    have kq6 : q6 a = S a := (w_fX12_next hq6 (by omega)).trans kq3
    obtain ⟨v7, _, _, h⟩ := rdA_e h
    obtain ⟨q9, hq9, h⟩ := bnd_e h
    have kq9 : q9.2 a = S a := (w_fX12_takes hq9 (by omega)).trans kq6
    obtain ⟨S10, hS10, _, h⟩ := wrA_e h
    have kS10 : S10 a = S a := by rw [hS10]; exact ((up_row (by omega)).trans kq9)
    obtain ⟨q12, hq12, h⟩ := bnd_e h
    have kq12 : q12.2 a = S a := (w_fX12_eats hq12 (by omega)).trans kS10
    obtain ⟨q13, hq13, h⟩ := bnd_e h
    have kq13 : q13 a = S a := by
      rcases ite_e hq13 with ⟨_, hq13⟩ | ⟨_, hq13⟩
      · obtain rfl := Option.some.inj hq13
        exact kq12
      · obtain ⟨q14, hq14, hq13⟩ := bnd_e hq13
        have kq14 : q14 a = S a := (w_fX12_fails hq14 (by omega)).trans kq12
        obtain rfl := Option.some.inj hq13
        exact kq14
    obtain ⟨q16, hq16, h⟩ := bnd_e h
    have kq16 : q16.2 a = S a := (w_fX12_takes hq16 (by omega)).trans kq13
    obtain ⟨S17, hS17, _, h⟩ := wrA_e h
    have kS17 : S17 a = S a := by rw [hS17]; exact ((up_row (by omega)).trans kq16)
    rcases ite_e h with ⟨_, h⟩ | ⟨_, h⟩
    · obtain ⟨v19, _, _, h⟩ := rdA_e h
      obtain ⟨S21, hS21, _, h⟩ := wrA_e h
      have kS21 : S21 a = S a := by rw [hS21]; exact ((up_row (by omega)).trans kS17)
      obtain rfl := Option.some.inj h
      exact kS21
    · obtain rfl := Option.some.inj h
      exact kS17
  · obtain rfl := Option.some.inj h
    exact kq3
set_option maxHeartbeats 4000000 in
theorem w_fX12_readLaw {p1 : Int} {S : SS} {rr : SS} (h : fX12_readLaw p1 S = some rr) {a : Nat} (ha : a ≠ 130 ∧ a ≠ 134) : rr a = S a := by
  unfold fX12_readLaw at h
  obtain ⟨q1, hq1, h⟩ := bnd_e h
  have kq1 : q1 a = S a := (w_fX12_next hq1 (by omega)).trans rfl
  obtain ⟨q2, hq2, h⟩ := bnd_e h
  have kq2 : q2.2 a = S a := (w_fX12_eats hq2 (by omega)).trans kq1
  obtain ⟨q3, hq3, h⟩ := bnd_e h
  have kq3 : q3 a = S a := by
    rcases ite_e hq3 with ⟨_, hq3⟩ | ⟨_, hq3⟩
    · obtain rfl := Option.some.inj hq3
      exact kq2
    · obtain ⟨q4, hq4, hq3⟩ := bnd_e hq3
      have kq4 : q4 a = S a := (w_fX12_fails hq4 (by omega)).trans kq2
      obtain rfl := Option.some.inj hq3
      exact kq4
  obtain ⟨v6, _, _, h⟩ := rdA_e h
  obtain ⟨S8, hS8, h⟩ := lt_e h
  have kS8 : S8 a = S a := by rw [hS8]; exact ((up_row (by omega)).trans kq3)
  obtain ⟨q9, hq9, h⟩ := bnd_e h
  have kq9 : q9 a = S a := by
    rcases ite_e hq9 with ⟨_, hq9⟩ | ⟨_, hq9⟩
    · obtain ⟨q10, hq10, hq9⟩ := bnd_e hq9
      have kq10 : q10 a = S a := (w_gX12_readSum hq10 (by omega)).trans kS8
      obtain rfl := Option.some.inj hq9
      exact kq10
    · obtain ⟨q11, hq11, hq9⟩ := bnd_e hq9
      have kq11 : q11 a = S a := (w_gX12_readTruth hq11 (by omega)).trans kS8
      obtain rfl := Option.some.inj hq9
      exact kq11
  rcases ite_e h with ⟨_, h⟩ | ⟨_, h⟩
  · obtain ⟨S13, hS13, _, h⟩ := wrA_e h
    have kS13 : S13 a = S a := by rw [hS13]; exact ((up_row (by omega)).trans kq9)
    obtain ⟨S15, hS15, _, h⟩ := wrA_e h
    have kS15 : S15 a = S a := by rw [hS15]; exact ((up_row (by omega)).trans kS13)
    obtain ⟨v17, _, _, h⟩ := rdA_e h
    obtain ⟨S19, hS19, _, h⟩ := wrA_e h
    have kS19 : S19 a = S a := by rw [hS19]; exact ((up_row (by omega)).trans kS15)
    obtain rfl := Option.some.inj h
    exact kS19
  · obtain rfl := Option.some.inj h
    exact kq9
set_option maxHeartbeats 4000000 in
theorem w_fX12_readLine {S : SS} {rr : SS} (h : fX12_readLine S = some rr) {a : Nat} (ha : a ≠ 130 ∧ a ≠ 134) : rr a = S a := by
  unfold fX12_readLine at h
  rcases ite_e h with ⟨_, h⟩ | ⟨_, h⟩
  · obtain ⟨q1, hq1, h⟩ := bnd_e h
    rcases ite_e h with ⟨_, h⟩ | ⟨_, h⟩
    · obtain ⟨q2, hq2, h⟩ := bnd_e h
      have kq2 : q2 a = S a := (w_fX12_readStreet hq2 (by omega)).trans rfl
      obtain rfl := Option.some.inj h
      exact kq2
    · obtain ⟨q3, hq3, h⟩ := bnd_e h
      rcases ite_e h with ⟨_, h⟩ | ⟨_, h⟩
      · obtain ⟨q4, hq4, h⟩ := bnd_e h
        have kq4 : q4 a = S a := (w_fX12_readGoer hq4 (by omega)).trans rfl
        obtain rfl := Option.some.inj h
        exact kq4
      · obtain ⟨q5, hq5, h⟩ := bnd_e h
        have kq5 : q5.2 a = S a := (w_fX12_eats hq5 (by omega)).trans rfl
        rcases ite_e h with ⟨_, h⟩ | ⟨_, h⟩
        · obtain ⟨q6, hq6, h⟩ := bnd_e h
          have kq6 : q6.2 a = S a := (w_fX12_takes hq6 (by omega)).trans kq5
          obtain ⟨S7, hS7, _, h⟩ := wrA_e h
          have kS7 : S7 a = S a := by rw [hS7]; exact ((up_row (by omega)).trans kq6)
          obtain rfl := Option.some.inj h
          exact kS7
        · obtain ⟨q9, hq9, h⟩ := bnd_e h
          rcases ite_e h with ⟨_, h⟩ | ⟨_, h⟩
          · obtain ⟨q10, hq10, h⟩ := bnd_e h
            have kq10 : q10 a = S a := (w_fX12_readLaw hq10 (by omega)).trans kq5
            obtain rfl := Option.some.inj h
            exact kq10
          · obtain ⟨q11, hq11, h⟩ := bnd_e h
            rcases ite_e h with ⟨_, h⟩ | ⟨_, h⟩
            · obtain ⟨q12, hq12, h⟩ := bnd_e h
              have kq12 : q12 a = S a := (w_fX12_readLaw hq12 (by omega)).trans kq5
              obtain rfl := Option.some.inj h
              exact kq12
            · obtain ⟨q13, hq13, h⟩ := bnd_e h
              have kq13 : q13 a = S a := (w_fX12_fails hq13 (by omega)).trans kq5
              obtain rfl := Option.some.inj h
              exact kq13
  · obtain rfl := Option.some.inj h
    exact rfl
set_option maxHeartbeats 4000000 in
theorem w_fX12_ends {S : SS} {rr : SS} (h : fX12_ends S = some rr) {a : Nat} (ha : a ≠ 130 ∧ a ≠ 134) : rr a = S a := by
  unfold fX12_ends at h
  obtain ⟨q1, hq1, h⟩ := bnd_e h
  have kq1 : q1.2 a = S a := (w_fX12_eats hq1 (by omega)).trans rfl
  obtain ⟨q2, hq2, h⟩ := bnd_e h
  have kq2 : q2 a = S a := by
    rcases ite_e hq2 with ⟨_, hq2⟩ | ⟨_, hq2⟩
    · obtain rfl := Option.some.inj hq2
      exact kq1
    · obtain ⟨q3, hq3, hq2⟩ := bnd_e hq2
      have kq3 : q3 a = S a := (w_fX12_fails hq3 (by omega)).trans kq1
      obtain rfl := Option.some.inj hq2
      exact kq3
  obtain ⟨v5, _, _, h⟩ := rdA_e h
  obtain ⟨S7, hS7, _, h⟩ := wrA_e h
  have kS7 : S7 a = S a := by rw [hS7]; exact ((up_row (by omega)).trans kq2)
  obtain rfl := Option.some.inj h
  exact kS7
set_option maxHeartbeats 4000000 in
theorem w_fX12_town_L83  {a : Nat} (ha : a ≠ 130 ∧ a ≠ 134) : ∀ n S rr, fX12_town_L83  n S = some rr → rr a = S a := by
  intro n
  induction n with
  | zero => intro S rr h; cases h
  | succ n ih =>
    intro S rr h
    unfold fX12_town_L83 at h
    rcases ite_e h with ⟨_, h⟩ | ⟨_, h⟩
    · rcases ite_e h with ⟨_, h⟩ | ⟨_, h⟩
      · obtain rfl := Option.some.inj h
        exact rfl
      · obtain ⟨q1, hq1, h⟩ := bnd_e h
        have kq1 : q1 a = S a := (w_fX12_readLine hq1 (by omega)).trans rfl
        obtain ⟨q2, hq2, h⟩ := bnd_e h
        have kq2 : q2 a = S a := (w_fX12_ends hq2 (by omega)).trans kq1
        exact (ih _ _ h).trans kq2
    · obtain rfl := Option.some.inj h
      exact rfl
set_option maxHeartbeats 4000000 in
theorem w_fX12_town_L154  {a : Nat} (ha : a ≠ 131) : ∀ n l2 S rr, fX12_town_L154  n l2 S = some rr → rr a = S a := by
  intro n
  induction n with
  | zero => intro l2 S rr h; cases h
  | succ n ih =>
    intro l2 S rr h
    unfold fX12_town_L154 at h
    rcases ite_e h with ⟨_, h⟩ | ⟨_, h⟩
    · obtain rfl := Option.some.inj h
      exact rfl
    · obtain ⟨v1, _, _, h⟩ := rdA_e h
      obtain ⟨S3, hS3, _, h⟩ := wrA_e h
      have kS3 : S3 a = S a := by rw [hS3]; exact ((up_row (by omega)).trans rfl)
      obtain ⟨x5, hx5, h⟩ := lt_e h
      exact (ih _ _ _ h).trans kS3
set_option maxHeartbeats 4000000 in
theorem w_fX12_town {p1 : Int} {S : SS} {rr : Int × SS} (h : fX12_town p1 S = some rr) {a : Nat} (ha : (a < 130 ∨ 131 < a) ∧ a ≠ 134) : rr.2 a = S a := by
  unfold fX12_town at h
  obtain ⟨S1, hS1, h⟩ := lt_e h
  have kS1 : S1 a = S a := by rw [hS1]; exact ((up_row (by omega)).trans rfl)
  obtain ⟨q2, hq2, h⟩ := bnd_e h
  rcases ite_e h with ⟨_, h⟩ | ⟨_, h⟩
  · obtain ⟨S3, hS3, h⟩ := lt_e h
    have kS3 : S3 a = S a := by rw [hS3]; exact ((up_row (by omega)).trans kS1)
    obtain ⟨S4, hS4, h⟩ := lt_e h
    have kS4 : S4 a = S a := by rw [hS4]; exact ((up_row (by omega)).trans kS3)
    obtain ⟨S5, hS5, h⟩ := lt_e h
    have kS5 : S5 a = S a := by rw [hS5]; exact ((up_row (by omega)).trans kS4)
    obtain ⟨S6, hS6, h⟩ := lt_e h
    have kS6 : S6 a = S a := by rw [hS6]; exact ((up_row (by omega)).trans kS5)
    obtain ⟨q7, hq7, h⟩ := bnd_e h
    have kq7 : q7 a = S a := (w_fX12_plain_1101 hq7 (by omega)).trans kS6
    obtain ⟨q8, hq8, h⟩ := bnd_e h
    have kq8 : q8 a = S a := (w_fX12_next hq8 (by omega)).trans kq7
    obtain ⟨q9, hq9, h⟩ := bnd_e h
    have kq9 : q9.2 a = S a := (w_fX12_eats hq9 (by omega)).trans kq8
    obtain ⟨q10, hq10, h⟩ := bnd_e h
    have kq10 : q10 a = S a := by
      rcases ite_e hq10 with ⟨_, hq10⟩ | ⟨_, hq10⟩
      · obtain rfl := Option.some.inj hq10
        exact kq9
      · obtain ⟨q11, hq11, hq10⟩ := bnd_e hq10
        have kq11 : q11 a = S a := (w_fX12_fails hq11 (by omega)).trans kq9
        obtain rfl := Option.some.inj hq10
        exact kq11
    obtain ⟨q13, hq13, h⟩ := bnd_e h
    have kq13 : q13.2 a = S a := (w_fX12_takes hq13 (by omega)).trans kq10
    obtain ⟨S14, hS14, _, h⟩ := wrA_e h
    have kS14 : S14 a = S a := by rw [hS14]; exact ((up_row (by omega)).trans kq13)
    obtain ⟨q16, hq16, h⟩ := bnd_e h
    have kq16 : q16 a = S a := (w_fX12_ends hq16 (by omega)).trans kS14
    obtain ⟨q17, hq17, h⟩ := bnd_e h
    have kq17 : q17 a = S a := (w_fX12_town_L83 (by omega) _ _ _ hq17).trans kq16
    obtain ⟨S19, hS19, h⟩ := lt_e h
    have kS19 : S19 a = S a := by rw [hS19]; exact ((up_row (by omega)).trans kq17)
    obtain ⟨q20, hq20, h⟩ := bnd_e h
    obtain ⟨S22, hS22, h⟩ := lt_e h
    have kS22 : S22 a = S a := by rw [hS22]; exact ((up_row (by omega)).trans kS19)
    rcases ite_e h with ⟨_, h⟩ | ⟨_, h⟩
    · obtain ⟨q23, hq23, h⟩ := bnd_e h
      have kq23 : q23 a = S a := (w_fX12_town_L154 (by omega) _ _ _ _ hq23).trans kS22
      obtain ⟨v25, _, _, h⟩ := rdA_e h
      obtain rfl := Option.some.inj h
      exact kq23
    · obtain rfl := Option.some.inj h
      exact kS22
  · obtain rfl := Option.some.inj h
    exact kS1
set_option maxHeartbeats 4000000 in
theorem w_fL_law_L18 {L : Nat} {A : Nat → Int} {a : Nat} (ha : (a < 1 ∨ 48 < a) ∧ (a < 51 ∨ 59 < a) ∧ (a < 61 ∨ 100 < a) ∧ (a < 103 ∨ 149 < a)) : ∀ n l3 S rr, fL_law_L18 L A n l3 S = some rr → rr.2 a = S a := by
  intro n
  induction n with
  | zero => intro l3 S rr h; cases h
  | succ n ih =>
    intro l3 S rr h
    unfold fL_law_L18 at h
    rcases ite_e h with ⟨_, h⟩ | ⟨_, h⟩
    · obtain rfl := Option.some.inj h
      exact rfl
    · obtain ⟨v1, _, _, h⟩ := rdS_e h
      rcases ite_e h with ⟨_, h⟩ | ⟨_, h⟩
      · obtain ⟨v4, _, _, h⟩ := rdS_e h
        obtain ⟨v6, _, _, h⟩ := rdS_e h
        obtain ⟨v8, _, _, h⟩ := rdS_e h
        obtain ⟨v10, _, _, h⟩ := rdS_e h
        obtain ⟨v12, _, _, h⟩ := rdS_e h
        obtain ⟨q14, hq14, h⟩ := bnd_e h
        have kq14 : q14.2 a = S a := (w_fX11_feed hq14 (by omega)).trans rfl
        obtain ⟨v15, _, _, h⟩ := rdS_e h
        obtain ⟨v17, _, _, h⟩ := rdS_e h
        obtain ⟨v19, _, _, h⟩ := rdS_e h
        obtain ⟨v21, _, _, h⟩ := rdS_e h
        obtain ⟨v23, _, _, h⟩ := rdS_e h
        obtain ⟨q25, hq25, h⟩ := bnd_e h
        have kq25 : q25.2 a = S a := (w_fX12_feed hq25 (by omega)).trans kq14
        rcases ite_e h with ⟨_, h⟩ | ⟨_, h⟩
        · obtain ⟨x26, hx26, h⟩ := lt_e h
          exact (ih _ _ _ h).trans kq25
        · obtain rfl := Option.some.inj h
          exact kq25
      · rcases ite_e h with ⟨_, h⟩ | ⟨_, h⟩
        · obtain ⟨v29, _, _, h⟩ := rdS_e h
          obtain ⟨q31, hq31, h⟩ := bnd_e h
          have kq31 : q31.2 a = S a := (w_fX11_town hq31 (by omega)).trans rfl
          obtain ⟨v32, _, _, h⟩ := rdS_e h
          obtain ⟨q34, hq34, h⟩ := bnd_e h
          have kq34 : q34.2 a = S a := (w_fX12_town hq34 (by omega)).trans kq31
          rcases ite_e h with ⟨_, h⟩ | ⟨_, h⟩
          · obtain ⟨x35, hx35, h⟩ := lt_e h
            exact (ih _ _ _ h).trans kq34
          · obtain rfl := Option.some.inj h
            exact kq34
        · rcases ite_e h with ⟨_, h⟩ | ⟨_, h⟩
          · obtain ⟨v38, _, _, h⟩ := rdS_e h
            obtain ⟨q40, hq40, h⟩ := bnd_e h
            obtain ⟨v41, _, _, h⟩ := rdS_e h
            obtain ⟨q43, hq43, h⟩ := bnd_e h
            have kq43 : q43.2 a = S a := (w_fX12_fault hq43 (by omega)).trans rfl
            rcases ite_e h with ⟨_, h⟩ | ⟨_, h⟩
            · obtain ⟨x44, hx44, h⟩ := lt_e h
              exact (ih _ _ _ h).trans kq43
            · obtain rfl := Option.some.inj h
              exact kq43
          · rcases ite_e h with ⟨_, h⟩ | ⟨_, h⟩
            · obtain ⟨v47, _, _, h⟩ := rdS_e h
              obtain ⟨v49, _, _, h⟩ := rdS_e h
              obtain ⟨q51, hq51, h⟩ := bnd_e h
              obtain ⟨v52, _, _, h⟩ := rdS_e h
              obtain ⟨v54, _, _, h⟩ := rdS_e h
              obtain ⟨q56, hq56, h⟩ := bnd_e h
              have kq56 : q56.2 a = S a := (w_fX12_street hq56 (by omega)).trans rfl
              rcases ite_e h with ⟨_, h⟩ | ⟨_, h⟩
              · obtain ⟨x57, hx57, h⟩ := lt_e h
                exact (ih _ _ _ h).trans kq56
              · obtain rfl := Option.some.inj h
                exact kq56
            · rcases ite_e h with ⟨_, h⟩ | ⟨_, h⟩
              · obtain ⟨v60, _, _, h⟩ := rdS_e h
                obtain ⟨v62, _, _, h⟩ := rdS_e h
                obtain ⟨q64, hq64, h⟩ := bnd_e h
                have kq64 : q64.2 a = S a := (w_fX11_goer hq64 (by omega)).trans rfl
                obtain ⟨v65, _, _, h⟩ := rdS_e h
                obtain ⟨v67, _, _, h⟩ := rdS_e h
                obtain ⟨q69, hq69, h⟩ := bnd_e h
                have kq69 : q69.2 a = S a := (w_fX12_goer hq69 (by omega)).trans kq64
                rcases ite_e h with ⟨_, h⟩ | ⟨_, h⟩
                · obtain ⟨x70, hx70, h⟩ := lt_e h
                  exact (ih _ _ _ h).trans kq69
                · obtain rfl := Option.some.inj h
                  exact kq69
              · rcases ite_e h with ⟨_, h⟩ | ⟨_, h⟩
                · obtain ⟨v73, _, _, h⟩ := rdS_e h
                  obtain ⟨v75, _, _, h⟩ := rdS_e h
                  obtain ⟨q77, hq77, h⟩ := bnd_e h
                  have kq77 : q77.2 a = S a := (w_fX11_why hq77 (by omega)).trans rfl
                  obtain ⟨v78, _, _, h⟩ := rdS_e h
                  obtain ⟨v80, _, _, h⟩ := rdS_e h
                  obtain ⟨q82, hq82, h⟩ := bnd_e h
                  have kq82 : q82.2 a = S a := (w_fX12_why hq82 (by omega)).trans kq77
                  rcases ite_e h with ⟨_, h⟩ | ⟨_, h⟩
                  · obtain ⟨x83, hx83, h⟩ := lt_e h
                    exact (ih _ _ _ h).trans kq82
                  · obtain rfl := Option.some.inj h
                    exact kq82
                · rcases ite_e h with ⟨_, h⟩ | ⟨_, h⟩
                  · obtain ⟨v86, _, _, h⟩ := rdS_e h
                    obtain ⟨v88, _, _, h⟩ := rdS_e h
                    obtain ⟨v90, _, _, h⟩ := rdS_e h
                    obtain ⟨q92, hq92, h⟩ := bnd_e h
                    have kq92 : q92.2 a = S a := (w_fX11_by hq92 (by omega)).trans rfl
                    obtain ⟨v93, _, _, h⟩ := rdS_e h
                    obtain ⟨v95, _, _, h⟩ := rdS_e h
                    obtain ⟨v97, _, _, h⟩ := rdS_e h
                    obtain ⟨q99, hq99, h⟩ := bnd_e h
                    have kq99 : q99.2 a = S a := (w_fX12_by hq99 (by omega)).trans kq92
                    rcases ite_e h with ⟨_, h⟩ | ⟨_, h⟩
                    · obtain ⟨x100, hx100, h⟩ := lt_e h
                      exact (ih _ _ _ h).trans kq99
                    · obtain rfl := Option.some.inj h
                      exact kq99
                  · rcases ite_e h with ⟨_, h⟩ | ⟨_, h⟩
                    · obtain ⟨v103, _, _, h⟩ := rdS_e h
                      obtain ⟨v105, _, _, h⟩ := rdS_e h
                      obtain ⟨q107, hq107, h⟩ := bnd_e h
                      have kq107 : q107.2 a = S a := (w_fX11_go hq107 (by omega)).trans rfl
                      obtain ⟨v108, _, _, h⟩ := rdS_e h
                      obtain ⟨v110, _, _, h⟩ := rdS_e h
                      obtain ⟨q112, hq112, h⟩ := bnd_e h
                      have kq112 : q112.2 a = S a := (w_fX12_go hq112 (by omega)).trans kq107
                      rcases ite_e h with ⟨_, h⟩ | ⟨_, h⟩
                      · obtain ⟨x113, hx113, h⟩ := lt_e h
                        exact (ih _ _ _ h).trans kq112
                      · obtain rfl := Option.some.inj h
                        exact kq112
                    · rcases ite_e h with ⟨_, h⟩ | ⟨_, h⟩
                      · obtain ⟨v116, _, _, h⟩ := rdS_e h
                        obtain ⟨v118, _, _, h⟩ := rdS_e h
                        obtain ⟨q120, hq120, h⟩ := bnd_e h
                        have kq120 : q120.2 a = S a := (w_fX11_sign hq120 (by omega)).trans rfl
                        obtain ⟨v121, _, _, h⟩ := rdS_e h
                        obtain ⟨v123, _, _, h⟩ := rdS_e h
                        obtain ⟨q125, hq125, h⟩ := bnd_e h
                        have kq125 : q125.2 a = S a := (w_fX12_sign hq125 (by omega)).trans kq120
                        rcases ite_e h with ⟨_, h⟩ | ⟨_, h⟩
                        · obtain ⟨x126, hx126, h⟩ := lt_e h
                          exact (ih _ _ _ h).trans kq125
                        · obtain rfl := Option.some.inj h
                          exact kq125
                      · rcases ite_e h with ⟨_, h⟩ | ⟨_, h⟩
                        · obtain ⟨v129, _, _, h⟩ := rdS_e h
                          obtain ⟨q131, hq131, h⟩ := bnd_e h
                          have kq131 : q131.2 a = S a := (w_fX11_bollards hq131 (by omega)).trans rfl
                          obtain ⟨v132, _, _, h⟩ := rdS_e h
                          obtain ⟨q134, hq134, h⟩ := bnd_e h
                          have kq134 : q134.2 a = S a := (w_fX12_bollards hq134 (by omega)).trans kq131
                          rcases ite_e h with ⟨_, h⟩ | ⟨_, h⟩
                          · obtain ⟨x135, hx135, h⟩ := lt_e h
                            exact (ih _ _ _ h).trans kq134
                          · obtain rfl := Option.some.inj h
                            exact kq134
                        · rcases ite_e h with ⟨_, h⟩ | ⟨_, h⟩
                          · obtain ⟨v138, _, _, h⟩ := rdS_e h
                            obtain ⟨v140, _, _, h⟩ := rdS_e h
                            obtain ⟨v142, _, _, h⟩ := rdS_e h
                            obtain ⟨q144, hq144, h⟩ := bnd_e h
                            have kq144 : q144.2 a = S a := (w_fX11_put hq144 (by omega)).trans rfl
                            obtain ⟨v145, _, _, h⟩ := rdS_e h
                            obtain ⟨v147, _, _, h⟩ := rdS_e h
                            obtain ⟨v149, _, _, h⟩ := rdS_e h
                            obtain ⟨q151, hq151, h⟩ := bnd_e h
                            have kq151 : q151.2 a = S a := (w_fX12_put hq151 (by omega)).trans kq144
                            rcases ite_e h with ⟨_, h⟩ | ⟨_, h⟩
                            · obtain ⟨x152, hx152, h⟩ := lt_e h
                              exact (ih _ _ _ h).trans kq151
                            · obtain rfl := Option.some.inj h
                              exact kq151
                          · rcases ite_e h with ⟨_, h⟩ | ⟨_, h⟩
                            · obtain ⟨v155, _, _, h⟩ := rdS_e h
                              obtain ⟨q157, hq157, h⟩ := bnd_e h
                              have kq157 : q157.2 a = S a := (w_fX11_undo hq157 (by omega)).trans rfl
                              obtain ⟨v158, _, _, h⟩ := rdS_e h
                              obtain ⟨q160, hq160, h⟩ := bnd_e h
                              have kq160 : q160.2 a = S a := (w_fX12_undo hq160 (by omega)).trans kq157
                              rcases ite_e h with ⟨_, h⟩ | ⟨_, h⟩
                              · obtain ⟨x161, hx161, h⟩ := lt_e h
                                exact (ih _ _ _ h).trans kq160
                              · obtain rfl := Option.some.inj h
                                exact kq160
                            · rcases ite_e h with ⟨_, h⟩ | ⟨_, h⟩
                              · obtain ⟨v164, _, _, h⟩ := rdS_e h
                                obtain ⟨v166, _, _, h⟩ := rdS_e h
                                obtain ⟨q168, hq168, h⟩ := bnd_e h
                                have kq168 : q168.2 a = S a := (w_fX11_judge hq168 (by omega)).trans rfl
                                obtain ⟨v169, _, _, h⟩ := rdS_e h
                                obtain ⟨v171, _, _, h⟩ := rdS_e h
                                obtain ⟨q173, hq173, h⟩ := bnd_e h
                                have kq173 : q173.2 a = S a := (w_fX12_judge hq173 (by omega)).trans kq168
                                rcases ite_e h with ⟨_, h⟩ | ⟨_, h⟩
                                · obtain ⟨x174, hx174, h⟩ := lt_e h
                                  exact (ih _ _ _ h).trans kq173
                                · obtain rfl := Option.some.inj h
                                  exact kq173
                              · rcases ite_e h with ⟨_, h⟩ | ⟨_, h⟩
                                · obtain ⟨v177, _, _, h⟩ := rdS_e h
                                  obtain ⟨q179, hq179, h⟩ := bnd_e h
                                  have kq179 : q179.2 a = S a := (w_fX11_perform hq179 (by omega)).trans rfl
                                  obtain ⟨v180, _, _, h⟩ := rdS_e h
                                  obtain ⟨q182, hq182, h⟩ := bnd_e h
                                  have kq182 : q182.2 a = S a := (w_fX12_perform hq182 (by omega)).trans kq179
                                  rcases ite_e h with ⟨_, h⟩ | ⟨_, h⟩
                                  · obtain ⟨x183, hx183, h⟩ := lt_e h
                                    exact (ih _ _ _ h).trans kq182
                                  · obtain rfl := Option.some.inj h
                                    exact kq182
                                · rcases ite_e h with ⟨_, h⟩ | ⟨_, h⟩
                                  · obtain ⟨v186, _, _, h⟩ := rdS_e h
                                    obtain ⟨v188, _, _, h⟩ := rdS_e h
                                    obtain ⟨q190, hq190, h⟩ := bnd_e h
                                    have kq190 : q190.2 a = S a := (w_fX11_day hq190 (by omega)).trans rfl
                                    obtain ⟨v191, _, _, h⟩ := rdS_e h
                                    obtain ⟨v193, _, _, h⟩ := rdS_e h
                                    obtain ⟨q195, hq195, h⟩ := bnd_e h
                                    have kq195 : q195.2 a = S a := (w_fX12_day hq195 (by omega)).trans kq190
                                    rcases ite_e h with ⟨_, h⟩ | ⟨_, h⟩
                                    · obtain ⟨x196, hx196, h⟩ := lt_e h
                                      exact (ih _ _ _ h).trans kq195
                                    · obtain rfl := Option.some.inj h
                                      exact kq195
                                  · rcases ite_e h with ⟨_, h⟩ | ⟨_, h⟩
                                    · obtain ⟨v199, _, _, h⟩ := rdS_e h
                                      obtain ⟨v201, _, _, h⟩ := rdS_e h
                                      obtain ⟨v203, _, _, h⟩ := rdS_e h
                                      obtain ⟨q205, hq205, h⟩ := bnd_e h
                                      have kq205 : q205.2 a = S a := (w_fX11_soonest hq205 (by omega)).trans rfl
                                      obtain ⟨v206, _, _, h⟩ := rdS_e h
                                      obtain ⟨v208, _, _, h⟩ := rdS_e h
                                      obtain ⟨v210, _, _, h⟩ := rdS_e h
                                      obtain ⟨q212, hq212, h⟩ := bnd_e h
                                      have kq212 : q212.2 a = S a := (w_fX12_soonest hq212 (by omega)).trans kq205
                                      rcases ite_e h with ⟨_, h⟩ | ⟨_, h⟩
                                      · obtain ⟨x213, hx213, h⟩ := lt_e h
                                        exact (ih _ _ _ h).trans kq212
                                      · obtain rfl := Option.some.inj h
                                        exact kq212
                                    · rcases ite_e h with ⟨_, h⟩ | ⟨_, h⟩
                                      · obtain ⟨v216, _, _, h⟩ := rdS_e h
                                        obtain ⟨v218, _, _, h⟩ := rdS_e h
                                        obtain ⟨v220, _, _, h⟩ := rdS_e h
                                        obtain ⟨v222, _, _, h⟩ := rdS_e h
                                        obtain ⟨q224, hq224, h⟩ := bnd_e h
                                        have kq224 : q224.2 a = S a := (w_fX11_way hq224 (by omega)).trans rfl
                                        obtain ⟨v225, _, _, h⟩ := rdS_e h
                                        obtain ⟨v227, _, _, h⟩ := rdS_e h
                                        obtain ⟨v229, _, _, h⟩ := rdS_e h
                                        obtain ⟨v231, _, _, h⟩ := rdS_e h
                                        obtain ⟨q233, hq233, h⟩ := bnd_e h
                                        have kq233 : q233.2 a = S a := (w_fX12_way hq233 (by omega)).trans kq224
                                        rcases ite_e h with ⟨_, h⟩ | ⟨_, h⟩
                                        · obtain ⟨x234, hx234, h⟩ := lt_e h
                                          exact (ih _ _ _ h).trans kq233
                                        · obtain rfl := Option.some.inj h
                                          exact kq233
                                      · rcases ite_e h with ⟨_, h⟩ | ⟨_, h⟩
                                        · obtain ⟨v237, _, _, h⟩ := rdS_e h
                                          obtain ⟨v239, _, _, h⟩ := rdS_e h
                                          obtain ⟨v241, _, _, h⟩ := rdS_e h
                                          obtain ⟨v243, _, _, h⟩ := rdS_e h
                                          obtain ⟨q245, hq245, h⟩ := bnd_e h
                                          have kq245 : q245.2 a = S a := (w_fX11_rows hq245 (by omega)).trans rfl
                                          obtain ⟨v246, _, _, h⟩ := rdS_e h
                                          obtain ⟨v248, _, _, h⟩ := rdS_e h
                                          obtain ⟨v250, _, _, h⟩ := rdS_e h
                                          obtain ⟨v252, _, _, h⟩ := rdS_e h
                                          obtain ⟨q254, hq254, h⟩ := bnd_e h
                                          have kq254 : q254.2 a = S a := (w_fX12_rows hq254 (by omega)).trans kq245
                                          rcases ite_e h with ⟨_, h⟩ | ⟨_, h⟩
                                          · obtain ⟨x255, hx255, h⟩ := lt_e h
                                            exact (ih _ _ _ h).trans kq254
                                          · obtain rfl := Option.some.inj h
                                            exact kq254
                                        · rcases ite_e h with ⟨_, h⟩ | ⟨_, h⟩
                                          · obtain ⟨v258, _, _, h⟩ := rdS_e h
                                            obtain ⟨v260, _, _, h⟩ := rdS_e h
                                            obtain ⟨q262, hq262, h⟩ := bnd_e h
                                            have kq262 : q262.2 a = S a := (w_fX11_when hq262 (by omega)).trans rfl
                                            obtain ⟨v263, _, _, h⟩ := rdS_e h
                                            obtain ⟨v265, _, _, h⟩ := rdS_e h
                                            obtain ⟨q267, hq267, h⟩ := bnd_e h
                                            have kq267 : q267.2 a = S a := (w_fX12_when hq267 (by omega)).trans kq262
                                            rcases ite_e h with ⟨_, h⟩ | ⟨_, h⟩
                                            · obtain ⟨x268, hx268, h⟩ := lt_e h
                                              exact (ih _ _ _ h).trans kq267
                                            · obtain rfl := Option.some.inj h
                                              exact kq267
                                          · rcases ite_e h with ⟨_, h⟩ | ⟨_, h⟩
                                            · obtain ⟨v271, _, _, h⟩ := rdS_e h
                                              obtain ⟨v273, _, _, h⟩ := rdS_e h
                                              obtain ⟨q275, hq275, h⟩ := bnd_e h
                                              have kq275 : q275.2 a = S a := (w_fX11_bound hq275 (by omega)).trans rfl
                                              obtain ⟨v276, _, _, h⟩ := rdS_e h
                                              obtain ⟨v278, _, _, h⟩ := rdS_e h
                                              obtain ⟨q280, hq280, h⟩ := bnd_e h
                                              have kq280 : q280.2 a = S a := (w_fX12_bound hq280 (by omega)).trans kq275
                                              rcases ite_e h with ⟨_, h⟩ | ⟨_, h⟩
                                              · obtain ⟨x281, hx281, h⟩ := lt_e h
                                                exact (ih _ _ _ h).trans kq280
                                              · obtain rfl := Option.some.inj h
                                                exact kq280
                                            · rcases ite_e h with ⟨_, h⟩ | ⟨_, h⟩
                                              · obtain ⟨v284, _, _, h⟩ := rdS_e h
                                                obtain ⟨q286, hq286, h⟩ := bnd_e h
                                                have kq286 : q286.2 a = S a := (w_fX11_reach hq286 (by omega)).trans rfl
                                                obtain ⟨v287, _, _, h⟩ := rdS_e h
                                                obtain ⟨q289, hq289, h⟩ := bnd_e h
                                                have kq289 : q289.2 a = S a := (w_fX12_reach hq289 (by omega)).trans kq286
                                                rcases ite_e h with ⟨_, h⟩ | ⟨_, h⟩
                                                · obtain ⟨x290, hx290, h⟩ := lt_e h
                                                  exact (ih _ _ _ h).trans kq289
                                                · obtain rfl := Option.some.inj h
                                                  exact kq289
                                              · rcases ite_e h with ⟨_, h⟩ | ⟨_, h⟩
                                                · obtain ⟨v293, _, _, h⟩ := rdS_e h
                                                  obtain ⟨v295, _, _, h⟩ := rdS_e h
                                                  obtain ⟨q297, hq297, h⟩ := bnd_e h
                                                  have kq297 : q297.2 a = S a := (w_fX11_meet hq297 (by omega)).trans rfl
                                                  obtain ⟨v298, _, _, h⟩ := rdS_e h
                                                  obtain ⟨v300, _, _, h⟩ := rdS_e h
                                                  obtain ⟨q302, hq302, h⟩ := bnd_e h
                                                  have kq302 : q302.2 a = S a := (w_fX12_meet hq302 (by omega)).trans kq297
                                                  rcases ite_e h with ⟨_, h⟩ | ⟨_, h⟩
                                                  · obtain ⟨x303, hx303, h⟩ := lt_e h
                                                    exact (ih _ _ _ h).trans kq302
                                                  · obtain rfl := Option.some.inj h
                                                    exact kq302
                                                · rcases ite_e h with ⟨_, h⟩ | ⟨_, h⟩
                                                  · obtain ⟨v306, _, _, h⟩ := rdS_e h
                                                    obtain ⟨v308, _, _, h⟩ := rdS_e h
                                                    obtain ⟨v310, _, _, h⟩ := rdS_e h
                                                    obtain ⟨q312, hq312, h⟩ := bnd_e h
                                                    have kq312 : q312.2 a = S a := (w_fX11_meetAt hq312 (by omega)).trans rfl
                                                    obtain ⟨v313, _, _, h⟩ := rdS_e h
                                                    obtain ⟨v315, _, _, h⟩ := rdS_e h
                                                    obtain ⟨v317, _, _, h⟩ := rdS_e h
                                                    obtain ⟨q319, hq319, h⟩ := bnd_e h
                                                    have kq319 : q319.2 a = S a := (w_fX12_meetAt hq319 (by omega)).trans kq312
                                                    rcases ite_e h with ⟨_, h⟩ | ⟨_, h⟩
                                                    · obtain ⟨x320, hx320, h⟩ := lt_e h
                                                      exact (ih _ _ _ h).trans kq319
                                                    · obtain rfl := Option.some.inj h
                                                      exact kq319
                                                  · rcases ite_e h with ⟨_, h⟩ | ⟨_, h⟩
                                                    · obtain ⟨v323, _, _, h⟩ := rdS_e h
                                                      obtain ⟨q325, hq325, h⟩ := bnd_e h
                                                      have kq325 : q325.2 a = S a := (w_fX11_ring hq325 (by omega)).trans rfl
                                                      obtain ⟨v326, _, _, h⟩ := rdS_e h
                                                      obtain ⟨q328, hq328, h⟩ := bnd_e h
                                                      have kq328 : q328.2 a = S a := (w_fX12_ring hq328 (by omega)).trans kq325
                                                      rcases ite_e h with ⟨_, h⟩ | ⟨_, h⟩
                                                      · obtain ⟨x329, hx329, h⟩ := lt_e h
                                                        exact (ih _ _ _ h).trans kq328
                                                      · obtain rfl := Option.some.inj h
                                                        exact kq328
                                                    · rcases ite_e h with ⟨_, h⟩ | ⟨_, h⟩
                                                      · obtain ⟨v332, _, _, h⟩ := rdS_e h
                                                        obtain ⟨q334, hq334, h⟩ := bnd_e h
                                                        have kq334 : q334.2 a = S a := (w_fX11_laws hq334 (by omega)).trans rfl
                                                        obtain ⟨v335, _, _, h⟩ := rdS_e h
                                                        obtain ⟨q337, hq337, h⟩ := bnd_e h
                                                        have kq337 : q337.2 a = S a := (w_fX12_laws hq337 (by omega)).trans kq334
                                                        rcases ite_e h with ⟨_, h⟩ | ⟨_, h⟩
                                                        · obtain ⟨x338, hx338, h⟩ := lt_e h
                                                          exact (ih _ _ _ h).trans kq337
                                                        · obtain rfl := Option.some.inj h
                                                          exact kq337
                                                      · rcases ite_e h with ⟨_, h⟩ | ⟨_, h⟩
                                                        · obtain ⟨v341, _, _, h⟩ := rdS_e h
                                                          obtain ⟨v343, _, _, h⟩ := rdS_e h
                                                          obtain ⟨q345, hq345, h⟩ := bnd_e h
                                                          have kq345 : q345.2 a = S a := (w_fX11_bylaw hq345 (by omega)).trans rfl
                                                          obtain ⟨v346, _, _, h⟩ := rdS_e h
                                                          obtain ⟨v348, _, _, h⟩ := rdS_e h
                                                          obtain ⟨q350, hq350, h⟩ := bnd_e h
                                                          have kq350 : q350.2 a = S a := (w_fX12_bylaw hq350 (by omega)).trans kq345
                                                          rcases ite_e h with ⟨_, h⟩ | ⟨_, h⟩
                                                          · obtain ⟨x351, hx351, h⟩ := lt_e h
                                                            exact (ih _ _ _ h).trans kq350
                                                          · obtain rfl := Option.some.inj h
                                                            exact kq350
                                                        · rcases ite_e h with ⟨_, h⟩ | ⟨_, h⟩
                                                          · obtain ⟨v354, _, _, h⟩ := rdS_e h
                                                            obtain ⟨v356, _, _, h⟩ := rdS_e h
                                                            obtain ⟨v358, _, _, h⟩ := rdS_e h
                                                            obtain ⟨q360, hq360, h⟩ := bnd_e h
                                                            have kq360 : q360.2 a = S a := (w_fX11_shut hq360 (by omega)).trans rfl
                                                            obtain ⟨v361, _, _, h⟩ := rdS_e h
                                                            obtain ⟨v363, _, _, h⟩ := rdS_e h
                                                            obtain ⟨v365, _, _, h⟩ := rdS_e h
                                                            obtain ⟨q367, hq367, h⟩ := bnd_e h
                                                            have kq367 : q367.2 a = S a := (w_fX12_shut hq367 (by omega)).trans kq360
                                                            rcases ite_e h with ⟨_, h⟩ | ⟨_, h⟩
                                                            · obtain ⟨x368, hx368, h⟩ := lt_e h
                                                              exact (ih _ _ _ h).trans kq367
                                                            · obtain rfl := Option.some.inj h
                                                              exact kq367
                                                          · rcases ite_e h with ⟨_, h⟩ | ⟨_, h⟩
                                                            · obtain ⟨v371, _, _, h⟩ := rdS_e h
                                                              obtain ⟨v373, _, _, h⟩ := rdS_e h
                                                              obtain ⟨q375, hq375, h⟩ := bnd_e h
                                                              have kq375 : q375.2 a = S a := (w_fX11_needed hq375 (by omega)).trans rfl
                                                              obtain ⟨v376, _, _, h⟩ := rdS_e h
                                                              obtain ⟨v378, _, _, h⟩ := rdS_e h
                                                              obtain ⟨q380, hq380, h⟩ := bnd_e h
                                                              have kq380 : q380.2 a = S a := (w_fX12_needed hq380 (by omega)).trans kq375
                                                              rcases ite_e h with ⟨_, h⟩ | ⟨_, h⟩
                                                              · obtain ⟨x381, hx381, h⟩ := lt_e h
                                                                exact (ih _ _ _ h).trans kq380
                                                              · obtain rfl := Option.some.inj h
                                                                exact kq380
                                                            · rcases ite_e h with ⟨_, h⟩ | ⟨_, h⟩
                                                              · obtain ⟨v384, _, _, h⟩ := rdS_e h
                                                                obtain ⟨v386, _, _, h⟩ := rdS_e h
                                                                obtain ⟨v388, _, _, h⟩ := rdS_e h
                                                                obtain ⟨q390, hq390, h⟩ := bnd_e h
                                                                have kq390 : q390.2 a = S a := (w_fX11_from hq390 (by omega)).trans rfl
                                                                obtain ⟨v391, _, _, h⟩ := rdS_e h
                                                                obtain ⟨v393, _, _, h⟩ := rdS_e h
                                                                obtain ⟨v395, _, _, h⟩ := rdS_e h
                                                                obtain ⟨q397, hq397, h⟩ := bnd_e h
                                                                have kq397 : q397.2 a = S a := (w_fX12_from hq397 (by omega)).trans kq390
                                                                rcases ite_e h with ⟨_, h⟩ | ⟨_, h⟩
                                                                · obtain ⟨x398, hx398, h⟩ := lt_e h
                                                                  exact (ih _ _ _ h).trans kq397
                                                                · obtain rfl := Option.some.inj h
                                                                  exact kq397
                                                              · rcases ite_e h with ⟨_, h⟩ | ⟨_, h⟩
                                                                · obtain ⟨v401, _, _, h⟩ := rdS_e h
                                                                  obtain ⟨v403, _, _, h⟩ := rdS_e h
                                                                  obtain ⟨v405, _, _, h⟩ := rdS_e h
                                                                  obtain ⟨q407, hq407, h⟩ := bnd_e h
                                                                  have kq407 : q407.2 a = S a := (w_fX11_bollardsBy hq407 (by omega)).trans rfl
                                                                  obtain ⟨v408, _, _, h⟩ := rdS_e h
                                                                  obtain ⟨v410, _, _, h⟩ := rdS_e h
                                                                  obtain ⟨v412, _, _, h⟩ := rdS_e h
                                                                  obtain ⟨q414, hq414, h⟩ := bnd_e h
                                                                  have kq414 : q414.2 a = S a := (w_fX12_bollardsBy hq414 (by omega)).trans kq407
                                                                  rcases ite_e h with ⟨_, h⟩ | ⟨_, h⟩
                                                                  · obtain ⟨x415, hx415, h⟩ := lt_e h
                                                                    exact (ih _ _ _ h).trans kq414
                                                                  · obtain rfl := Option.some.inj h
                                                                    exact kq414
                                                                · rcases ite_e h with ⟨_, h⟩ | ⟨_, h⟩
                                                                  · obtain ⟨v418, _, _, h⟩ := rdS_e h
                                                                    obtain ⟨v420, _, _, h⟩ := rdS_e h
                                                                    obtain ⟨v422, _, _, h⟩ := rdS_e h
                                                                    obtain ⟨q424, hq424, h⟩ := bnd_e h
                                                                    have kq424 : q424.2 a = S a := (w_fX11_attempt hq424 (by omega)).trans rfl
                                                                    obtain ⟨v425, _, _, h⟩ := rdS_e h
                                                                    obtain ⟨v427, _, _, h⟩ := rdS_e h
                                                                    obtain ⟨v429, _, _, h⟩ := rdS_e h
                                                                    obtain ⟨q431, hq431, h⟩ := bnd_e h
                                                                    have kq431 : q431.2 a = S a := (w_fX12_attempt hq431 (by omega)).trans kq424
                                                                    rcases ite_e h with ⟨_, h⟩ | ⟨_, h⟩
                                                                    · obtain ⟨x432, hx432, h⟩ := lt_e h
                                                                      exact (ih _ _ _ h).trans kq431
                                                                    · obtain rfl := Option.some.inj h
                                                                      exact kq431
                                                                  · rcases ite_e h with ⟨_, h⟩ | ⟨_, h⟩
                                                                    · obtain ⟨v435, _, _, h⟩ := rdS_e h
                                                                      obtain ⟨v437, _, _, h⟩ := rdS_e h
                                                                      obtain ⟨q439, hq439, h⟩ := bnd_e h
                                                                      have kq439 : q439.2 a = S a := (w_fX11_forces hq439 (by omega)).trans rfl
                                                                      obtain ⟨v440, _, _, h⟩ := rdS_e h
                                                                      obtain ⟨v442, _, _, h⟩ := rdS_e h
                                                                      obtain ⟨q444, hq444, h⟩ := bnd_e h
                                                                      have kq444 : q444.2 a = S a := (w_fX12_forces hq444 (by omega)).trans kq439
                                                                      rcases ite_e h with ⟨_, h⟩ | ⟨_, h⟩
                                                                      · obtain ⟨x445, hx445, h⟩ := lt_e h
                                                                        exact (ih _ _ _ h).trans kq444
                                                                      · obtain rfl := Option.some.inj h
                                                                        exact kq444
                                                                    · rcases ite_e h with ⟨_, h⟩ | ⟨_, h⟩
                                                                      · obtain ⟨v448, _, _, h⟩ := rdS_e h
                                                                        obtain ⟨v450, _, _, h⟩ := rdS_e h
                                                                        obtain ⟨q452, hq452, h⟩ := bnd_e h
                                                                        have kq452 : q452.2 a = S a := (w_fX11_best hq452 (by omega)).trans rfl
                                                                        obtain ⟨v453, _, _, h⟩ := rdS_e h
                                                                        obtain ⟨v455, _, _, h⟩ := rdS_e h
                                                                        obtain ⟨q457, hq457, h⟩ := bnd_e h
                                                                        have kq457 : q457.2 a = S a := (w_fX12_best hq457 (by omega)).trans kq452
                                                                        rcases ite_e h with ⟨_, h⟩ | ⟨_, h⟩
                                                                        · obtain ⟨x458, hx458, h⟩ := lt_e h
                                                                          exact (ih _ _ _ h).trans kq457
                                                                        · obtain rfl := Option.some.inj h
                                                                          exact kq457
                                                                      · rcases ite_e h with ⟨_, h⟩ | ⟨_, h⟩
                                                                        · obtain ⟨v461, _, _, h⟩ := rdS_e h
                                                                          obtain ⟨v463, _, _, h⟩ := rdS_e h
                                                                          obtain ⟨v465, _, _, h⟩ := rdS_e h
                                                                          obtain ⟨v467, _, _, h⟩ := rdS_e h
                                                                          obtain ⟨q469, hq469, h⟩ := bnd_e h
                                                                          have kq469 : q469.2 a = S a := (w_fX11_chance hq469 (by omega)).trans rfl
                                                                          obtain ⟨v470, _, _, h⟩ := rdS_e h
                                                                          obtain ⟨v472, _, _, h⟩ := rdS_e h
                                                                          obtain ⟨v474, _, _, h⟩ := rdS_e h
                                                                          obtain ⟨v476, _, _, h⟩ := rdS_e h
                                                                          obtain ⟨q478, hq478, h⟩ := bnd_e h
                                                                          have kq478 : q478.2 a = S a := (w_fX12_chance hq478 (by omega)).trans kq469
                                                                          rcases ite_e h with ⟨_, h⟩ | ⟨_, h⟩
                                                                          · obtain ⟨x479, hx479, h⟩ := lt_e h
                                                                            exact (ih _ _ _ h).trans kq478
                                                                          · obtain rfl := Option.some.inj h
                                                                            exact kq478
                                                                        · rcases ite_e h with ⟨_, h⟩ | ⟨_, h⟩
                                                                          · obtain ⟨v482, _, _, h⟩ := rdS_e h
                                                                            obtain ⟨v484, _, _, h⟩ := rdS_e h
                                                                            obtain ⟨v486, _, _, h⟩ := rdS_e h
                                                                            obtain ⟨q488, hq488, h⟩ := bnd_e h
                                                                            have kq488 : q488.2 a = S a := (w_fX11_mean hq488 (by omega)).trans rfl
                                                                            obtain ⟨v489, _, _, h⟩ := rdS_e h
                                                                            obtain ⟨v491, _, _, h⟩ := rdS_e h
                                                                            obtain ⟨v493, _, _, h⟩ := rdS_e h
                                                                            obtain ⟨q495, hq495, h⟩ := bnd_e h
                                                                            have kq495 : q495.2 a = S a := (w_fX12_mean hq495 (by omega)).trans kq488
                                                                            rcases ite_e h with ⟨_, h⟩ | ⟨_, h⟩
                                                                            · obtain ⟨x496, hx496, h⟩ := lt_e h
                                                                              exact (ih _ _ _ h).trans kq495
                                                                            · obtain rfl := Option.some.inj h
                                                                              exact kq495
                                                                          · rcases ite_e h with ⟨_, h⟩ | ⟨_, h⟩
                                                                            · obtain ⟨v499, _, _, h⟩ := rdS_e h
                                                                              obtain ⟨v501, _, _, h⟩ := rdS_e h
                                                                              obtain ⟨q503, hq503, h⟩ := bnd_e h
                                                                              have kq503 : q503.2 a = S a := (w_fX11_likeliest hq503 (by omega)).trans rfl
                                                                              obtain ⟨v504, _, _, h⟩ := rdS_e h
                                                                              obtain ⟨v506, _, _, h⟩ := rdS_e h
                                                                              obtain ⟨q508, hq508, h⟩ := bnd_e h
                                                                              have kq508 : q508.2 a = S a := (w_fX12_likeliest hq508 (by omega)).trans kq503
                                                                              rcases ite_e h with ⟨_, h⟩ | ⟨_, h⟩
                                                                              · obtain ⟨x509, hx509, h⟩ := lt_e h
                                                                                exact (ih _ _ _ h).trans kq508
                                                                              · obtain rfl := Option.some.inj h
                                                                                exact kq508
                                                                            · rcases ite_e h with ⟨_, h⟩ | ⟨_, h⟩
                                                                              · obtain ⟨v512, _, _, h⟩ := rdS_e h
                                                                                obtain ⟨v514, _, _, h⟩ := rdS_e h
                                                                                obtain ⟨v516, _, _, h⟩ := rdS_e h
                                                                                obtain ⟨q518, hq518, h⟩ := bnd_e h
                                                                                have kq518 : q518.2 a = S a := (w_fX11_numbers hq518 (by omega)).trans rfl
                                                                                obtain ⟨v519, _, _, h⟩ := rdS_e h
                                                                                obtain ⟨v521, _, _, h⟩ := rdS_e h
                                                                                obtain ⟨v523, _, _, h⟩ := rdS_e h
                                                                                obtain ⟨q525, hq525, h⟩ := bnd_e h
                                                                                have kq525 : q525.2 a = S a := (w_fX12_numbers hq525 (by omega)).trans kq518
                                                                                rcases ite_e h with ⟨_, h⟩ | ⟨_, h⟩
                                                                                · obtain ⟨x526, hx526, h⟩ := lt_e h
                                                                                  exact (ih _ _ _ h).trans kq525
                                                                                · obtain rfl := Option.some.inj h
                                                                                  exact kq525
                                                                              · rcases ite_e h with ⟨_, h⟩ | ⟨_, h⟩
                                                                                · obtain ⟨v529, _, _, h⟩ := rdS_e h
                                                                                  obtain ⟨v531, _, _, h⟩ := rdS_e h
                                                                                  obtain ⟨v533, _, _, h⟩ := rdS_e h
                                                                                  obtain ⟨v535, _, _, h⟩ := rdS_e h
                                                                                  obtain ⟨q537, hq537, h⟩ := bnd_e h
                                                                                  have kq537 : q537.2 a = S a := (w_fX11_write hq537 (by omega)).trans rfl
                                                                                  obtain ⟨v538, _, _, h⟩ := rdS_e h
                                                                                  obtain ⟨v540, _, _, h⟩ := rdS_e h
                                                                                  obtain ⟨v542, _, _, h⟩ := rdS_e h
                                                                                  obtain ⟨v544, _, _, h⟩ := rdS_e h
                                                                                  obtain ⟨q546, hq546, h⟩ := bnd_e h
                                                                                  have kq546 : q546.2 a = S a := (w_fX12_write hq546 (by omega)).trans kq537
                                                                                  rcases ite_e h with ⟨_, h⟩ | ⟨_, h⟩
                                                                                  · obtain ⟨x547, hx547, h⟩ := lt_e h
                                                                                    exact (ih _ _ _ h).trans kq546
                                                                                  · obtain rfl := Option.some.inj h
                                                                                    exact kq546
                                                                                · rcases ite_e h with ⟨_, h⟩ | ⟨_, h⟩
                                                                                  · obtain ⟨v550, _, _, h⟩ := rdS_e h
                                                                                    obtain ⟨v552, _, _, h⟩ := rdS_e h
                                                                                    obtain ⟨v554, _, _, h⟩ := rdS_e h
                                                                                    obtain ⟨v556, _, _, h⟩ := rdS_e h
                                                                                    obtain ⟨q558, hq558, h⟩ := bnd_e h
                                                                                    have kq558 : q558.2 a = S a := (w_fX11_lists hq558 (by omega)).trans rfl
                                                                                    obtain ⟨v559, _, _, h⟩ := rdS_e h
                                                                                    obtain ⟨v561, _, _, h⟩ := rdS_e h
                                                                                    obtain ⟨v563, _, _, h⟩ := rdS_e h
                                                                                    obtain ⟨v565, _, _, h⟩ := rdS_e h
                                                                                    obtain ⟨q567, hq567, h⟩ := bnd_e h
                                                                                    have kq567 : q567.2 a = S a := (w_fX12_lists hq567 (by omega)).trans kq558
                                                                                    rcases ite_e h with ⟨_, h⟩ | ⟨_, h⟩
                                                                                    · obtain ⟨x568, hx568, h⟩ := lt_e h
                                                                                      exact (ih _ _ _ h).trans kq567
                                                                                    · obtain rfl := Option.some.inj h
                                                                                      exact kq567
                                                                                  · rcases ite_e h with ⟨_, h⟩ | ⟨_, h⟩
                                                                                    · obtain ⟨v571, _, _, h⟩ := rdS_e h
                                                                                      obtain ⟨q573, hq573, h⟩ := bnd_e h
                                                                                      have kq573 : q573.2 a = S a := (w_fX11_image hq573 (by omega)).trans rfl
                                                                                      obtain ⟨v574, _, _, h⟩ := rdS_e h
                                                                                      obtain ⟨q576, hq576, h⟩ := bnd_e h
                                                                                      have kq576 : q576.2 a = S a := (w_fX12_image hq576 (by omega)).trans kq573
                                                                                      rcases ite_e h with ⟨_, h⟩ | ⟨_, h⟩
                                                                                      · obtain ⟨x577, hx577, h⟩ := lt_e h
                                                                                        exact (ih _ _ _ h).trans kq576
                                                                                      · obtain rfl := Option.some.inj h
                                                                                        exact kq576
                                                                                    · rcases ite_e h with ⟨_, h⟩ | ⟨_, h⟩
                                                                                      · obtain ⟨v580, _, _, h⟩ := rdS_e h
                                                                                        obtain ⟨q582, hq582, h⟩ := bnd_e h
                                                                                        have kq582 : q582.2 a = S a := (w_fX11_restore hq582 (by omega)).trans rfl
                                                                                        obtain ⟨v583, _, _, h⟩ := rdS_e h
                                                                                        obtain ⟨q585, hq585, h⟩ := bnd_e h
                                                                                        have kq585 : q585.2 a = S a := (w_fX12_restore hq585 (by omega)).trans kq582
                                                                                        rcases ite_e h with ⟨_, h⟩ | ⟨_, h⟩
                                                                                        · obtain ⟨x586, hx586, h⟩ := lt_e h
                                                                                          exact (ih _ _ _ h).trans kq585
                                                                                        · obtain rfl := Option.some.inj h
                                                                                          exact kq585
                                                                                      · rcases ite_e h with ⟨_, h⟩ | ⟨_, h⟩
                                                                                        · obtain ⟨v589, _, _, h⟩ := rdS_e h
                                                                                          obtain ⟨q591, hq591, h⟩ := bnd_e h
                                                                                          obtain ⟨v592, _, _, h⟩ := rdS_e h
                                                                                          obtain ⟨q594, hq594, h⟩ := bnd_e h
                                                                                          have kq594 : q594.2 a = S a := (w_fX12_count hq594 (by omega)).trans rfl
                                                                                          rcases ite_e h with ⟨_, h⟩ | ⟨_, h⟩
                                                                                          · obtain ⟨x595, hx595, h⟩ := lt_e h
                                                                                            exact (ih _ _ _ h).trans kq594
                                                                                          · obtain rfl := Option.some.inj h
                                                                                            exact kq594
                                                                                        · obtain ⟨x597, hx597, h⟩ := lt_e h
                                                                                          exact (ih _ _ _ h).trans rfl
set_option maxHeartbeats 4000000 in
theorem w_fLaw {L : Nat} {A : Nat → Int} {S : SS} {rr : Bool × SS} (h : fLaw L A S = some rr) {a : Nat} (ha : (a < 1 ∨ 48 < a) ∧ (a < 51 ∨ 59 < a) ∧ (a < 61 ∨ 100 < a) ∧ (a < 103 ∨ 149 < a)) : rr.2 a = S a := by
  unfold fLaw at h
  obtain ⟨q1, hq1, h⟩ := bnd_e h
  have kq1 : q1.2 a = S a := (w_fL_law_L18 (by omega) _ _ _ _ hq1).trans rfl
  rcases ite_e h with ⟨_, h⟩ | ⟨_, h⟩
  · obtain rfl := Option.some.inj h
    exact kq1
  · obtain rfl := Option.some.inj h
    exact kq1
