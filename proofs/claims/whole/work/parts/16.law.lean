/-! the law's own reads of the script, and its calls -/
theorem At.scald {G : GG} {Y : YY} {d pc : Nat} {ls : List (Nat × VV)} {st : List VV} {M : MM} {k sl : Nat} {Φ : Option VV → MM → Prop} {j : Int} (hL : scL G ≤ 100000) (h0 : 0 ≤ j) (h1 : j < (scL G : Nat)) (hd : decode Y.2.1 pc = .ok (.iaload, 1)) (h : At G Y d (pc + 1) ls (vi (scX G j.toNat) :: st) M k sl Φ) : At G Y d (pc) ls (vi j :: vr 100031 :: st) M k sl Φ := by
  intro p e s m args below meth c H locs lz X hR hC hs hl hv hS
  obtain ⟨cell, q1, q2, q3, q4⟩ := X.2.2.2.2.2.2.2.2.2.2.2.2.2.2.2 hL
  have eL : scL G = cell.slots.size := by unfold scL; rw [q1]
  have hj := cs_h hs
  obtain ⟨v, hv1⟩ := q4 j.toNat (by omega)
  have eX : scX G j.toNat = v.toInt := by unfold scX; rw [q1]; show (match cell.slots[j.toNat]? with | some (.int v) => v.toInt | _ => 0) = _; rw [hv1]
  have h2 := h p e s m args below meth c H locs lz X hR hC (cs_c (show cI (scX G j.toNat) by rw [eX]; exact ii_c v) (cs_t (cs_t hs))) hl hv hS
  rw [List.map_cons, List.map_cons, cv_r (r := 100031) (by decide)]
  refine W.iald (v := .int v) X.1 X.2.1 (by rw [hR.2.2.1 _ (Array.getElem?_eq_some_iff.mp q1).1]; exact q1) q2 q3 (by rw [← eL]; exact ix_in hj h0 h1) (by rw [ix_nat hj]; exact hv1) rfl rfl hd ?_
  rw [List.map_cons] at h2
  rw [show cv G.ad (vi (scX G j.toNat)) = .int v by rw [eX]; show Value.int (Int32.ofInt v.toInt) = _; rw [Int32.ofInt_toInt]] at h2
  exact h2
theorem At.sclen {G : GG} {Y : YY} {d pc : Nat} {ls : List (Nat × VV)} {st : List VV} {M : MM} {k sl : Nat} {Φ : Option VV → MM → Prop} {z : Int} (hL : scL G ≤ 100000) (hz : (scL G : Int) = z) (hd : decode Y.2.1 pc = .ok (.arraylength, 1)) (h : At G Y d (pc + 1) ls (vi z :: st) M k sl Φ) : At G Y d (pc) ls (vr 100031 :: st) M k sl Φ := by
  intro p e s m args below meth c H locs lz X hR hC hs hl hv hS
  subst hz
  obtain ⟨cell, q1, q2, q3, q4⟩ := X.2.2.2.2.2.2.2.2.2.2.2.2.2.2.2 hL
  have eL : scL G = cell.slots.size := by unfold scL; rw [q1]
  have h2 := h p e s m args below meth c H locs lz X hR hC (cs_c (show cI (scL G : Int) by unfold cI; omega) (cs_t hs)) hl hv hS
  rw [List.map_cons, cv_r (r := 100031) (by decide)]
  exact W.alen (n := Int32.ofInt (scL G : Int)) X.1 X.2.1 (by rw [hR.2.2.1 _ (Array.getElem?_eq_some_iff.mp q1).1]; exact q1) q2 (by rw [eL]; exact Int32.ofInt_eq_ofNat.symm) rfl rfl hd h2
theorem At.cV1L {G : GG} {Y : YY} {d pc : Nat} {ls : List (Nat × VV)} {st : List VV} {S S' : SS} {k sl : Nat} {Φ : Option VV → MM → Prop} {Y' : YY} {av rest : List VV} {r ci n N idx d' : Nat} {v : VV} (hk : k ≤ Y.2.2.2.2.1 ∧ sl ≤ Y.2.2.2.2.2) (hm : MV Y' ci n) (hlk : LK Y.1.cls idx Y'.1) (hd : decode Y.2.1 pc = .ok (.invokevirtual idx, 3)) (hst : st = av.reverse ++ vr r :: rest) (hn : av.length = n) (hsh : sh r = (ci, N)) (hrm : (rest.map cat).sum ≤ 8) (hdd : d' + 1 ≤ d) (hks : Y'.2.2.2.2.1 = 0 ∧ Y'.2.2.2.2.2 = 0)
    (hM : RD G Y' d' (vr r :: av) S (some v) S') (kk : At G Y d (pc + 3) ls (v :: rest) (mm S') k sl Φ) : At G Y d pc ls st (mm S) k sl Φ := by
  refine At.callV hm hlk hd hst hn hsh (le149 hsh (by have := hm.2.2.2.1; omega)) hrm hdd (by rw [hks.1, hks.2]; exact hk) hM ?_
  rintro r M' ⟨rfl, rfl⟩
  rw [hks.1, hks.2]
  exact kk
def rdS {α : Type} (L : Nat) (X : Nat → Int) (i : Int) (k : Int → Option α) : Option α := if 0 ≤ i ∧ i < L then k (X i.toNat) else none
theorem rdS_e {α : Type} {L : Nat} {X : Nat → Int} {i : Int} {k : Int → Option α} {r : α} (h : rdS L X i k = some r) : ∃ v, v = X i.toNat ∧ (0 ≤ i ∧ i < L) ∧ k v = some r := by
  unfold rdS at h
  split at h
  · exact ⟨_, rfl, by assumption, h⟩
  · cases h
def mLaw : YY := (x, code, maxLocals, ret, 600000, 7302250)
