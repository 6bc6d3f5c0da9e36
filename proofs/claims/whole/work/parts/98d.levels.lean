/-! behind a fault the reference's reading stands still -/
theorem mf_eats {S : SS} {k : Int} (h : S 130 11 ≠ 0) : fX12_eats k S = some (false, S) := eats_n (fun z => h z.1)
theorem mf_atom {S : SS} {rc : Nat → Int → SS → Option SS} {d : Int} (h : S 130 11 ≠ 0) : fX12_readAtom rc d S = some S := by
  unfold fX12_readAtom
  rw [is_ok, bnd_s, if_neg (by rw [decide_eq_true_eq]; exact fun z => h z.1), if_neg h, is_ok, bnd_s, if_neg (by rw [decide_eq_true_eq]; exact fun z => h z.1), is_ok, bnd_s, if_neg (by rw [decide_eq_true_eq]; exact fun z => h z.1), fails_n h, bnd_s]
theorem mf_tl {S : SS} {rc : Nat → Int → SS → Option SS} {d : Int} (h : S 130 11 ≠ 0) {fm : Nat} (hf : 0 < fm) : fX12_readTerm_L5 rc d fm S = some S := by
  obtain ⟨fm, rfl⟩ := suc_of hf
  unfold fX12_readTerm_L5
  rw [mf_eats h, bnd_s]
  exact if_neg (fun z : false = true => by cases z)
theorem mf_term {S : SS} {rc : Nat → Int → SS → Option SS} {d : Int} (h : S 130 11 ≠ 0) (h0 : rc 0 d S = some S) : fX12_readTerm rc d S = some S := by
  unfold fX12_readTerm
  rw [h0, bnd_s, mf_tl h (by unfold FU; omega), bnd_s]
theorem mf_sl {S : SS} {rc : Nat → Int → SS → Option SS} {d : Int} (h : S 130 11 ≠ 0) {fm : Nat} (hf : 0 < fm) : fX12_readSum_L5 rc d fm S = some S := by
  obtain ⟨fm, rfl⟩ := suc_of hf
  unfold fX12_readSum_L5
  rw [is_ok, bnd_s, if_neg (by rw [decide_eq_true_eq]; exact fun z => h z.1), is_ok, bnd_s, if_neg (by rw [decide_eq_true_eq]; exact fun z => h z.1)]
theorem mf_sum {S : SS} {rc : Nat → Int → SS → Option SS} {d : Int} (h : S 130 11 ≠ 0) (h0 : rc 2 d S = some S) : fX12_readSum rc d S = some S := by
  unfold fX12_readSum
  rw [h0, bnd_s, mf_sl h (by unfold FU; omega), bnd_s]
theorem gc_0 {n : Nat} {a : Int} : fGX3_truth (n + 1) 0 a = fX3_truth (fGX3_truth n) a := by
  funext S
  refine (congrFun (congrFun (congrFun (fGX3_truth.eq_2 n) 0) a) S).trans ?_
  rw [if_pos rfl]
theorem gc_1 {n : Nat} {a : Int} : fGX3_truth (n + 1) 1 a = fX3_both (fGX3_truth n) a := by
  funext S
  refine (congrFun (congrFun (congrFun (fGX3_truth.eq_2 n) 1) a) S).trans ?_
  rw [if_neg (by decide), if_pos rfl]
theorem gc_2 {n : Nat} {a : Int} : fGX3_truth (n + 1) 2 a = fX3_unit (fGX3_truth n) a := by
  funext S
  refine (congrFun (congrFun (congrFun (fGX3_truth.eq_2 n) 2) a) S).trans ?_
  rw [if_neg (by decide), if_neg (by decide), if_pos rfl]
theorem gc_3 {n : Nat} {a : Int} : fGX3_truth (n + 1) 3 a = fX3_comparison (fGX3_truth n) a := by
  funext S
  refine (congrFun (congrFun (congrFun (fGX3_truth.eq_2 n) 3) a) S).trans ?_
  rw [if_neg (by decide), if_neg (by decide), if_neg (by decide), if_pos rfl]
theorem gc_4 {n : Nat} {a : Int} : fGX3_truth (n + 1) 4 a = fX3_sum (fGX3_truth n) a := by
  funext S
  refine (congrFun (congrFun (congrFun (fGX3_truth.eq_2 n) 4) a) S).trans ?_
  rw [if_neg (by decide), if_neg (by decide), if_neg (by decide), if_neg (by decide), if_pos rfl]
theorem gc_5 {n : Nat} {a : Int} : fGX3_truth (n + 1) 5 a = fX3_term (fGX3_truth n) a := by
  funext S
  refine (congrFun (congrFun (congrFun (fGX3_truth.eq_2 n) 5) a) S).trans ?_
  rw [if_neg (by decide), if_neg (by decide), if_neg (by decide), if_neg (by decide), if_neg (by decide), if_pos rfl]
theorem gc_6 {n : Nat} {a : Int} : fGX3_truth (n + 1) 6 a = fX3_atom (fGX3_truth n) a := by
  funext S
  refine (congrFun (congrFun (congrFun (fGX3_truth.eq_2 n) 6) a) S).trans ?_
  rw [if_neg (by decide), if_neg (by decide), if_neg (by decide), if_neg (by decide), if_neg (by decide), if_neg (by decide), if_pos rfl]
theorem gc_7 {n : Nat} {a : Int} : fGX3_truth (n + 1) 7 a = fX3_choice (fGX3_truth n) a := by
  funext S
  refine (congrFun (congrFun (congrFun (fGX3_truth.eq_2 n) 7) a) S).trans ?_
  rw [if_neg (by decide), if_neg (by decide), if_neg (by decide), if_neg (by decide), if_neg (by decide), if_neg (by decide), if_neg (by decide)]
theorem gm_0 {n : Nat} {a : Int} : fGX12_readAtom (n + 1) 0 a = fX12_readAtom (fGX12_readAtom n) a := by
  funext S
  refine (congrFun (congrFun (congrFun (fGX12_readAtom.eq_2 n) 0) a) S).trans ?_
  rw [if_pos rfl]
theorem gm_1 {n : Nat} {a : Int} : fGX12_readAtom (n + 1) 1 a = fX12_readIf (fGX12_readAtom n) a := by
  funext S
  refine (congrFun (congrFun (congrFun (fGX12_readAtom.eq_2 n) 1) a) S).trans ?_
  rw [if_neg (by decide), if_pos rfl]
theorem gm_2 {n : Nat} {a : Int} : fGX12_readAtom (n + 1) 2 a = fX12_readTerm (fGX12_readAtom n) a := by
  funext S
  refine (congrFun (congrFun (congrFun (fGX12_readAtom.eq_2 n) 2) a) S).trans ?_
  rw [if_neg (by decide), if_neg (by decide), if_pos rfl]
theorem gm_3 {n : Nat} {a : Int} : fGX12_readAtom (n + 1) 3 a = fX12_readSum (fGX12_readAtom n) a := by
  funext S
  refine (congrFun (congrFun (congrFun (fGX12_readAtom.eq_2 n) 3) a) S).trans ?_
  rw [if_neg (by decide), if_neg (by decide), if_neg (by decide), if_pos rfl]
theorem gm_4 {n : Nat} {a : Int} : fGX12_readAtom (n + 1) 4 a = fX12_readUnit (fGX12_readAtom n) a := by
  funext S
  refine (congrFun (congrFun (congrFun (fGX12_readAtom.eq_2 n) 4) a) S).trans ?_
  rw [if_neg (by decide), if_neg (by decide), if_neg (by decide), if_neg (by decide), if_pos rfl]
theorem gm_5 {n : Nat} {a : Int} : fGX12_readAtom (n + 1) 5 a = fX12_readBoth (fGX12_readAtom n) a := by
  funext S
  refine (congrFun (congrFun (congrFun (fGX12_readAtom.eq_2 n) 5) a) S).trans ?_
  rw [if_neg (by decide), if_neg (by decide), if_neg (by decide), if_neg (by decide), if_neg (by decide), if_pos rfl]
theorem gm_6 {n : Nat} {a : Int} : fGX12_readAtom (n + 1) 6 a = fX12_readTruth (fGX12_readAtom n) a := by
  funext S
  refine (congrFun (congrFun (congrFun (fGX12_readAtom.eq_2 n) 6) a) S).trans ?_
  rw [if_neg (by decide), if_neg (by decide), if_neg (by decide), if_neg (by decide), if_neg (by decide), if_neg (by decide)]
theorem mf_3 {S : SS} {d : Int} {m : Nat} (h : S 130 11 ≠ 0) : fGX12_readAtom (m + 3) 3 d S = some S := by
  rw [gm_3]
  refine mf_sum h ?_
  rw [gm_2]
  refine mf_term h ?_
  rw [gm_0]
  exact mf_atom (rc := fGX12_readAtom m) h
