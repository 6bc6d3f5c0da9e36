/-! all of a depth -/
def LV (T U : Nat → Int) (n e : Nat) (d : Int) : Prop :=
  (∀ c m, 8 * e + 4 ≤ c → 8 * e + 4 ≤ m → Sp T U n (5 * e + 3) false (fGX3_truth c 4 d) (fGX12_readAtom m 3 d))
  ∧ (∀ c m, 8 * e + 6 ≤ c → 8 * e + 6 ≤ m → Sp T U n (5 * e + 4) true (fGX3_truth c 2 d) (fGX12_readAtom m 4 d))
  ∧ (∀ c m, 8 * e + 8 ≤ c → 8 * e + 8 ≤ m → Sp T U n (5 * e + 6) true (fGX3_truth c 0 d) (fGX12_readAtom m 6 d))
theorem level {T U : Nat → Int} {n e d : Nat} (ht : tp T U n) (hd : d + e = 6) (ih : ∀ e', e = e' + 1 → LV T U n e' ((d + 1 : Nat) : Int)) : LV T U n e d := by
  have hA : ∀ c m, 8 * e + 2 ≤ c → 8 * e + 2 ≤ m → Sp T U n (5 * e + 1) false (fGX3_truth c 6 d) (fGX12_readAtom m 0 d) := by
    intro c m hc hm
    obtain ⟨c, rfl⟩ : ∃ c', c = c' + 2 := ⟨c - 2, by omega⟩
    obtain ⟨m, rfl⟩ : ∃ m', m = m' + 2 := ⟨m - 2, by omega⟩
    rw [gc_6, gm_0]
    refine atom_sp (rcC := fGX3_truth (c + 1)) (rcM := fGX12_readAtom (m + 1)) (rcC' := fGX3_truth c) (rcM' := fGX12_readAtom m) (ns := 5 * e - 2) (nt := 5 * e + 1) ht (by omega) gc_7 gm_1 (fun dd => ?_) (fun dd => ?_) (fun dd => ?_) (by omega) (fun _ => by omega) (fun _ => by omega)
    · obtain ⟨e, rfl⟩ : ∃ e', e = e' + 1 := ⟨e - 1, by omega⟩
      exact (ih e rfl).1 (c + 1) (m + 1) (by omega) (by omega)
    · obtain ⟨e, rfl⟩ : ∃ e', e = e' + 1 := ⟨e - 1, by omega⟩
      exact (ih e rfl).1 c m (by omega) (by omega)
    · obtain ⟨e, rfl⟩ : ∃ e', e = e' + 1 := ⟨e - 1, by omega⟩
      exact (ih e rfl).2.2 c m (by omega) (by omega)
  have hT : ∀ c m, 8 * e + 3 ≤ c → 8 * e + 3 ≤ m → Sp T U n (5 * e + 2) false (fGX3_truth c 5 d) (fGX12_readAtom m 2 d) := by
    intro c m hc hm
    obtain ⟨c, rfl⟩ : ∃ c', c = c' + 1 := ⟨c - 1, by omega⟩
    obtain ⟨m, rfl⟩ : ∃ m', m = m' + 1 := ⟨m - 1, by omega⟩
    rw [gc_5, gm_2]
    exact term_sp (rcC := fGX3_truth c) (rcM := fGX12_readAtom m) (need := 5 * e + 1) ht (hA c m (by omega) (by omega))
  have hS : ∀ c m, 8 * e + 4 ≤ c → 8 * e + 4 ≤ m → Sp T U n (5 * e + 3) false (fGX3_truth c 4 d) (fGX12_readAtom m 3 d) := by
    intro c m hc hm
    obtain ⟨c, rfl⟩ : ∃ c', c = c' + 1 := ⟨c - 1, by omega⟩
    obtain ⟨m, rfl⟩ : ∃ m', m = m' + 1 := ⟨m - 1, by omega⟩
    rw [gc_4, gm_3]
    exact sum_sp (rcC := fGX3_truth c) (rcM := fGX12_readAtom m) (need := 5 * e + 2) ht (hT c m (by omega) (by omega))
  have hU : ∀ c m, 8 * e + 6 ≤ c → 8 * e + 6 ≤ m → Sp T U n (5 * e + 4) true (fGX3_truth c 2 d) (fGX12_readAtom m 4 d) := by
    intro c m hc hm
    obtain ⟨c, rfl⟩ : ∃ c', c = c' + 2 := ⟨c - 2, by omega⟩
    obtain ⟨m, rfl⟩ : ∃ m', m = m' + 4 := ⟨m - 4, by omega⟩
    rw [gc_2, gm_4]
    refine unit_sp (rcC := fGX3_truth (c + 1)) (rcM := fGX12_readAtom (m + 3)) (rcC' := fGX3_truth c) (ns := 5 * e + 3) (nu := 5 * e + 4) (nt := 5 * e + 1) ht (by omega) gc_3 (fun S h => mf_3 h) (hS c (m + 3) (by omega) (by omega)) (fun dd => ?_) (fun dd => ?_) (by omega) (fun _ => by omega) (fun _ => by omega)
    · obtain ⟨e, rfl⟩ : ∃ e', e = e' + 1 := ⟨e - 1, by omega⟩
      intro s SC SM a1 a2 a3
      obtain ⟨SC', SM', x1, x2, x3, x4, x5⟩ := (ih e rfl).2.1 (c + 1) (m + 3) (by omega) (by omega) s SC SM a1 a2 a3
      exact ⟨SC', SM', x1, x2, x3, x4, fun o => ⟨(x5 o).1, (x5 o).2.1, Sg_w (by omega) (x5 o).2.2⟩⟩
    · obtain ⟨e, rfl⟩ : ∃ e', e = e' + 1 := ⟨e - 1, by omega⟩
      have := (ih e rfl).2.2 (c + 1) (m + 3) (by omega) (by omega)
      exact this
  have hB : ∀ c m, 8 * e + 7 ≤ c → 8 * e + 7 ≤ m → Sp T U n (5 * e + 5) true (fGX3_truth c 1 d) (fGX12_readAtom m 5 d) := by
    intro c m hc hm
    obtain ⟨c, rfl⟩ : ∃ c', c = c' + 1 := ⟨c - 1, by omega⟩
    obtain ⟨m, rfl⟩ : ∃ m', m = m' + 1 := ⟨m - 1, by omega⟩
    rw [gc_1, gm_5]
    exact both_sp (rcC := fGX3_truth c) (rcM := fGX12_readAtom m) (need := 5 * e + 4) ht (hU c m (by omega) (by omega))
  refine ⟨hS, hU, ?_⟩
  intro c m hc hm
  obtain ⟨c, rfl⟩ : ∃ c', c = c' + 1 := ⟨c - 1, by omega⟩
  obtain ⟨m, rfl⟩ : ∃ m', m = m' + 1 := ⟨m - 1, by omega⟩
  rw [gc_0, gm_6]
  exact truth_sp (rcC := fGX3_truth c) (rcM := fGX12_readAtom m) (need := 5 * e + 5) ht (hB c m (by omega) (by omega))
theorem levels {T U : Nat → Int} {n : Nat} (ht : tp T U n) : ∀ (e d : Nat), d + e = 6 → LV T U n e d := by
  intro e
  induction e with
  | zero => intro d hd; exact level ht hd (fun e' h => by omega)
  | succ e ih =>
    intro d hd
    refine level ht hd (fun e' h => ?_)
    have h' : e = e' := by omega
    rw [← h']
    exact ih (d + 1) (by omega)
theorem law_sum {T U : Nat → Int} {n : Nat} (ht : tp T U n) : Sp T U n 40 false (gX3_sum 0) (gX12_readSum 0) := by
  have l := (levels ht 6 0 (by omega)).1 60 60 (by omega) (by omega)
  unfold gX3_sum gX12_readSum
  intro s SC SM a1 a2 a3
  obtain ⟨SC', SM', x1, x2, x3, x4, x5⟩ := l s SC SM a1 a2 a3
  exact ⟨SC', SM', x1, x2, x3, x4, fun o => ⟨(x5 o).1, (x5 o).2.1, Sg_w (by omega) (x5 o).2.2⟩⟩
theorem law_truth {T U : Nat → Int} {n : Nat} (ht : tp T U n) : Sp T U n 40 true (gX3_truth 0) (gX12_readTruth 0) := by
  have l := (levels ht 6 0 (by omega)).2.2 60 60 (by omega) (by omega)
  unfold gX3_truth gX12_readTruth
  intro s SC SM a1 a2 a3
  obtain ⟨SC', SM', x1, x2, x3, x4, x5⟩ := l s SC SM a1 a2 a3
  exact ⟨SC', SM', x1, x2, x3, x4, fun o => ⟨(x5 o).1, (x5 o).2.1, Sg_w (by omega) (x5 o).2.2⟩⟩
