/-! the rows that hold nothing of the reading -/
theorem up_k {S : SS} {a j i : Nat} {v : Int} (h : i ≠ j) : up S a j v a i = S a i := by rw [up_at, if_neg h]
/-- a write into the reference's row below 200 -/
theorem JX_m {T U : Nat → Int} {n s : Nat} {SC SM : SS} {k : Nat} {v : Int} (hk : k < 200) (h : JX T U n s SC SM) : JX T U n s SC (up SM 134 k v) :=
  JX_wr (fun _ _ => rfl) rfl rfl rfl (fun j _ => by rw [up_row (by decide)]) (up_row (by decide)) (fun i hi => up_k (by omega)) h
theorem Ok_m {SM : SS} {k : Nat} {v : Int} : Ok (up SM 134 k v) ↔ Ok SM := Ok_wr (fun j _ => by rw [up_row (by decide)])
/-- a write into the class's rows 22 to 24, 26 to 29 -/
theorem JX_c {T U : Nat → Int} {n s : Nat} {SC SM : SS} {a k : Nat} {v : Int} (ha : (22 ≤ a ∧ a ≤ 24) ∨ (26 ≤ a ∧ a ≤ 29)) (h : JX T U n s SC SM) : JX T U n s (up SC a k v) SM :=
  JX_wr (fun j _ => by rw [up_row (by omega)]) (up_row (by omega)) (by rw [up_row (by omega)]) (up_row (by omega)) (fun _ _ => rfl) rfl (fun _ _ => rfl) h
theorem JX_c21 {T U : Nat → Int} {n s : Nat} {SC SM : SS} {k : Nat} {v : Int} (ha : k ≠ 9) (h : JX T U n s SC SM) : JX T U n s (up SC 21 k v) SM :=
  JX_wr (fun j _ => by rw [up_row (by omega)]) (up_row (by omega)) (up_k (by omega)) (up_row (by omega)) (fun _ _ => rfl) rfl (fun _ _ => rfl) h
theorem boll_j {T U : Nat → Int} {n : Nat} {SC SM : SS} (ht : tp T U n) (hJ : JX T U n 1 SC SM) (o : Ok SM) (hk : SM 130 9 ≠ 24) (hD : DrQ 0 SC (SM 134) (SM 130 6)) : ∃ SC1 SM1 v v' SC2 SM2, fX3_advance SC = some SC1 ∧ fX12_next SM = some SM1 ∧ fX3_number 0 9 (-1) SC1 = some (v, SC2) ∧ fX12_takes 0 9 SM1 = some (v', SM2)
    ∧ JX T U n 1 (up SC2 26 3 v) (up SM2 134 48 v') ∧ FM SM (up SM2 134 48 v') ∧ (Ok (up SM2 134 48 v') → SM 130 6 < up SM2 134 48 v' 130 6 ∧ DrQ 0 (up SC2 26 3 v) (up SM2 134 48 v' 134) (up SM2 134 48 v' 130 6)) := by
  obtain ⟨SC1, SM1, x1, x2, x3, x4, x5, x6, x7⟩ := adv_j ht hJ o hk
  obtain ⟨v, v', SC2, SM2, y1, y2, y3, y4, y5, y6⟩ := tk_j (lo := 0) (hi := 9) ht (by omega) x3
  refine ⟨SC1, SM1, v, v', SC2, SM2, x1, x2, y1, y2, JX_w (by omega) (JX_c (by omega) (JX_m (by omega) y3)), FM_t (FM_f x4) (FM_t (FM_f y4) (FM_m (up_row (by decide)))), fun o2 => ?_⟩
  obtain ⟨o1, p1, p2, p3, p4⟩ := y6 (Ok_m.mp o2)
  have D := DrQ_f (FX_t x4 y4) (y5.trans x5) (by omega) hD
  rw [up_row (a := 130) (by decide)]
  refine ⟨by omega, ?_⟩
  obtain ⟨⟨a1, a2, a3, a4⟩, b, c, d, ⟨e1, e2⟩, g, i, j⟩ := D
  have Z : ∀ k, k ≠ 48 → up SM2 134 48 v' 134 k = SM2 134 k := fun k h => up_k h
  have l0 : lawB (up SM2 134 48 v' 134) 0 false := by
    have := i.1
    unfold lawB codeP at this ⊢
    simp only [Z 4 (by decide), Z 6 (by decide), Z 8 (by decide), Z 200 (by decide)] at this ⊢
    rcases this with h | ⟨h1, h2, h3, h4, ty, h5, h6⟩
    · exact Or.inl h
    · exact Or.inr ⟨h1, h2, h3, h4, ty, by rw [← h5]; congr 1; funext k; exact Z _ (by omega), h6⟩
  have l1 : lawB (up SM2 134 48 v' 134) 1 true := by
    have := i.2
    unfold lawB codeP at this ⊢
    simp only [Z 5 (by decide), Z 7 (by decide), Z 9 (by decide), Z 200 (by decide)] at this ⊢
    rcases this with h | ⟨h1, h2, h3, h4, ty, h5, h6⟩
    · exact Or.inl h
    · exact Or.inr ⟨h1, h2, h3, h4, ty, by rw [← h5]; congr 1; funext k; exact Z _ (by omega), h6⟩
  unfold DrQ strE strB lawS
  rw [Z 0 (by decide), Z 1 (by decide), Z 2 (by decide), Z 3 (by decide), Z 4 (by decide), Z 5 (by decide), Z 6 (by decide), Z 7 (by decide), Z 8 (by decide), Z 9 (by decide), Z 49 (by decide), up_row (a := 21) (by decide), up_row (a := 22) (by decide), up_row (a := 23) (by decide), up_row (a := 24) (by decide)]
  refine ⟨⟨a1, a2, a3, a4⟩, b, fun s hs => ?_, fun s h8 hs => ?_, ⟨⟨fun x hx => ?_, fun x hx => ?_, fun x hx => ?_, ?_⟩, ⟨fun x hx => ?_, fun x hx => ?_, fun x hx => ?_, ?_⟩⟩, g, ⟨l0, l1⟩, j⟩
  · rw [Z _ (by omega), Z _ (by omega), Z _ (by omega)]; exact c s hs
  · rw [Z _ (by omega), Z _ (by omega)]; exact d s h8 hs
  · rw [Z _ (by omega), up_row (by omega)]; exact e1.1 x hx
  · rw [Z _ (by omega), up_row (by omega)]; exact e1.2.1 x hx
  · rw [Z _ (by omega), up_row (by omega)]; exact e1.2.2.1 x hx
  · show up SC2 26 3 v 26 3 = up SM2 134 48 v' 134 48
    rw [up_self, up_self, p1]
  · rw [Z _ (by omega)]; exact e2.1 x hx
  · rw [Z _ (by omega)]; exact e2.2.1 x hx
  · rw [Z _ (by omega)]; exact e2.2.2.1 x hx
  · show 0 ≤ up SM2 134 48 v' 134 48 ∧ up SM2 134 48 v' 134 48 ≤ 9
    rw [up_self]; omega
