theorem va_P1 {D : va_G} {cl : List vw_C} {q : Nat × va_E} {H : Heap} (h : va_at D cl q H) : va_P D cl [q] H := by
  intro k x hx
  have hz : k < 1 := (List.getElem?_eq_some_iff.mp hx).1
  rw [show k = 0 by omega] at hx
  cases hx
  exact h
theorem sh_0 : sh 0 = (99, 0) := by decide +kernel
theorem sh_big {r : Nat} (h : 150 ≤ r) : sh r = (99, 0) := by
  have h9 : shT.length = 150 := by decide +kernel
  unfold sh
  rw [List.getD_eq_getElem?_getD, List.getElem?_eq_none (by omega)]
  rfl
theorem sh_pos {r a b : Nat} (h : sh r = (a, b)) (ha : a ≠ 99) : 1 ≤ r := by
  rcases Nat.eq_zero_or_pos r with rfl | h1
  · rw [sh_0] at h; cases h; exact absurd rfl ha
  · exact h1
theorem le149 {r a b : Nat} (h : sh r = (a, b)) (ha : a ≠ 99 := by decide) : r ≤ 149 := by
  rcases Nat.lt_or_ge r 150 with h1 | h1
  · omega
  · rw [sh_big h1] at h; cases h; exact absurd rfl ha
theorem ec_row {ad : Nat → Nat} {cy : Nat → ClassId} {M M' : MM} {r : Nat} (h1 : ∀ j, M'.2.1 r j = M.2.1 r j) (h2 : ∀ j, M'.2.2 r j = M.2.2 r j) : ec ad cy M' r = ec ad cy M r := by
  unfold ec fval
  simp only [h1, h2]
theorem up_ne {α : Type} {S : Nat → Nat → α} {r j : Nat} {v : α} {a i : Nat} (h : a ≠ r) : up S r j v a i = S a i := by simp [up, h]
theorem Rep.put {G : GG} {M M' : MM} {H H' : Heap} {r : Nat} (h : Rep G M H) (hG : okG G) (hr1 : 1 ≤ r) (hr2 : r ≤ M.1) (hn : M'.1 = M.1) (z : H'.size = H.size) (oq : ∀ q, q ≠ G.ad r → H'[q]? = H[q]?) (hrow : ∀ r', r' ≠ r → ec G.ad G.cy M' r' = ec G.ad G.cy M r') (hc : va_at G.D vwCl (G.ad r, ec G.ad G.cy M' r) H') : Rep G M' H' := by
  obtain ⟨h1, h2, h3, h4⟩ := h
  have hr := hG r hr1 (by omega)
  refine ⟨by rw [z, hn]; exact h1, by rw [hn]; exact h2, fun q hq => by rw [oq q (by omega)]; exact h3 q hq, fun r' a b => ?_⟩
  by_cases he : r' = r
  · subst he; exact hc
  · have hr' := hG r' a (by omega)
    rw [hrow r' he]
    exact (h4 r' a (by omega)).kept (oq _ (by omega))
theorem ALo_ad {G : GG} (hG : okG G) {r : Nat} (h1 : 1 ≤ r) (h2 : r ≤ 100000) : ALo G (G.ad r) := by
  unfold ALo
  rw [hG r h1 h2]
  omega
/-! classes and fields -/
def CLS (ci N : Nat) (C : String) (T : u_T) : Prop := vwCl[ci]? = some (C, T, N) ∧ ci < 13 ∧ (∀ w ∈ u_ws C T N, w ∈ lw_good) ∧ (∃ ty : Nat → FieldType, (∀ k, k < N → parseFieldDescriptor (T k).2.2.1 = some (ty k)) ∧ ∀ k, k < N → (match ty k with | .int => 0 | .long => 1 | .boolean => 3 | _ => 2) = fty ci k) ∧ (∀ a, a < N → ∀ b, b < N → a ≠ b → (T a).2.1 ≠ (T b).2.1)
/-- own's entry idx is field j of class ci, which has N fields -/
def FL (own : String) (idx ci N j : Nat) : Prop := ∃ (C : String) (T : u_T), CLS ci N C T ∧ j < N ∧ (Cond.fieldLink own idx (T j).1 (T j).2.1 (T j).2.2.1 ∈ lw_good ∨ ∃ host, Cond.fieldLinkNest own idx (T j).1 (T j).2.1 (T j).2.2.1 host ∈ lw_nest)
def FW (own : String) (idx ci N j : Nat) : Prop := ∃ (C : String) (T : u_T), CLS ci N C T ∧ j < N ∧ (T j).2.2.2 = false ∧ (Cond.fieldLink own idx (T j).1 (T j).2.1 (T j).2.2.1 ∈ lw_good ∨ ∃ host, Cond.fieldLinkNest own idx (T j).1 (T j).2.1 (T j).2.2.1 host ∈ lw_nest)
theorem ec_obj {ad : Nat → Nat} {cy : Nat → ClassId} {M : MM} {r ci N : Nat} (h : sh r = (ci, N)) (hc : ci < 13) : ec ad cy M r = .inr (ci, (List.range N).map (fun j => fval ad M ci r j)) := by
  unfold ec
  rw [h]
  exact if_pos hc
theorem ec_obj_at {ad : Nat → Nat} {M : MM} {r ci N j : Nat} (hj : j < N) : ((List.range N).map (fun j => fval ad M ci r j))[j]? = some (fval ad M ci r j) := by
  rw [List.getElem?_map, List.getElem?_range hj]
  rfl
theorem At.getF {G : GG} {Y : YY} {d pc : Nat} {ls : List (Nat × VV)} {st : List VV} {n : Nat} {R : Nat → Nat → Nat} {S : Nat → Nat → Int} {k sl : Nat} {Φ : Option VV → MM → Prop} {r ci N j idx : Nat} {v : VV} (hf : FL Y.1.cls idx ci N j) (hsh : sh r = (ci, N)) (hr : r ≤ n) (hv9 : cv G.ad v = fval G.ad (n, R, S) ci r j) (hc9 : Can S → cV v) (hd : decode Y.2.1 pc = .ok (.getfield idx, 3)) (h : At G Y d (pc + 3) ls (v :: st) (n, R, S) k sl Φ) : At G Y d (pc) ls (vr r :: st) (n, R, S) k sl Φ := by
  intro p e s m args below meth c H locs lz X hR hC hs hl hv hS
  obtain ⟨C, T, ⟨hcl, hci, hin, -, -⟩, hj, hlink⟩ := hf
  have hr1 := sh_pos hsh (by omega)
  have hP := va_P1 (hR.2.2.2 r hr1 hr)
  rw [ec_obj hsh hci] at hP
  have h2 := h p e s m args below meth c H locs lz X hR hC (cs_c (hc9 hC) (cs_t hs)) hl hv hS
  rw [List.map_cons, hv9] at h2
  rw [List.map_cons, cv_r (by omega)]
  rcases hlink with hlink | ⟨host, hlink⟩
  · exact va_get X.1 X.2.1 X.2.2.2.2.2.2.2.1 hin X.2.2.2.2.2.1 X.2.2.2.2.2.2.2.2.2.1 hP 0 rfl hcl j hj (X.2.2.2.2.2.2.2.1 _ hlink) (fun _ h9 => h9) (ec_obj_at hj) hd h2
  · exact va_getN X.1 X.2.1 X.2.2.2.2.2.2.2.1 hin X.2.2.2.2.2.1 X.2.2.2.2.2.2.2.2.2.1 hP 0 rfl hcl j hj (va_Nw.use rfl (X.2.2.2.2.2.2.2.2.2.2.1 _ hlink)) (fun _ h9 => h9) (ec_obj_at hj) hd h2
theorem sty_obj {r ci N j : Nat} (h : sh r = (ci, N)) (hc : ci < 13) : sty r j = fty ci j := by
  unfold sty
  rw [h]
  exact if_pos hc
theorem FL.lt {own : String} {idx ci N j : Nat} (h : FL own idx ci N j) : ci < 13 := by
  obtain ⟨C, T, h1, -⟩ := h
  exact h1.2.1
theorem FW.lt {own : String} {idx ci N j : Nat} (h : FW own idx ci N j) : ci < 13 := by
  obtain ⟨C, T, h1, -⟩ := h
  exact h1.2.1
theorem At.getI {G : GG} {Y : YY} {d pc : Nat} {ls : List (Nat × VV)} {st : List VV} {n : Nat} {R : Nat → Nat → Nat} {S : Nat → Nat → Int} {k sl : Nat} {Φ : Option VV → MM → Prop} {r ci N j idx : Nat} (hf : FL Y.1.cls idx ci N j) (hsh : sh r = (ci, N)) (hr : r ≤ n) (hd : decode Y.2.1 pc = .ok (.getfield idx, 3)) (h : At G Y d (pc + 3) ls (vi (S r j) :: st) (n, R, S) k sl Φ) (hy : fty ci j ≠ 1 ∧ fty ci j ≠ 2 := by decide) : At G Y d (pc) ls (vr r :: st) (n, R, S) k sl Φ :=
  At.getF (v := vi (S r j)) hf hsh hr (by unfold fval; rw [if_neg hy.1, if_neg hy.2]; rfl) (fun hC => (hC r j).2 (by rw [sty_obj hsh hf.lt]; exact hy.1)) hd h
theorem At.getL {G : GG} {Y : YY} {d pc : Nat} {ls : List (Nat × VV)} {st : List VV} {n : Nat} {R : Nat → Nat → Nat} {S : Nat → Nat → Int} {k sl : Nat} {Φ : Option VV → MM → Prop} {r ci N j idx : Nat} (hf : FL Y.1.cls idx ci N j) (hsh : sh r = (ci, N)) (hr : r ≤ n) (hd : decode Y.2.1 pc = .ok (.getfield idx, 3)) (h : At G Y d (pc + 3) ls (vl (S r j) :: st) (n, R, S) k sl Φ) (hy : fty ci j = 1 := by decide) : At G Y d (pc) ls (vr r :: st) (n, R, S) k sl Φ :=
  At.getF (v := vl (S r j)) hf hsh hr (by unfold fval; rw [if_pos hy]; rfl) (fun hC => (hC r j).1 (by rw [sty_obj hsh hf.lt]; exact hy)) hd h
theorem At.getR {G : GG} {Y : YY} {d pc : Nat} {ls : List (Nat × VV)} {st : List VV} {n : Nat} {R : Nat → Nat → Nat} {S : Nat → Nat → Int} {k sl : Nat} {Φ : Option VV → MM → Prop} {r ci N j idx q : Nat} (hf : FL Y.1.cls idx ci N j) (hsh : sh r = (ci, N)) (hr : r ≤ n) (hq : R r j = q) (hd : decode Y.2.1 pc = .ok (.getfield idx, 3)) (h : At G Y d (pc + 3) ls (vr q :: st) (n, R, S) k sl Φ) (hy : fty ci j = 2 := by decide) : At G Y d (pc) ls (vr r :: st) (n, R, S) k sl Φ :=
  At.getF (v := vr q) hf hsh hr (by subst hq; unfold fval; rw [if_neg (by omega), if_pos hy]; rfl) (fun _ => trivial) hd h
theorem At.putF0 {G : GG} {Y : YY} {d pc : Nat} {ls : List (Nat × VV)} {st : List VV} {n : Nat} {R : Nat → Nat → Nat} {S : Nat → Nat → Int} {k sl : Nat} {Φ : Option VV → MM → Prop} {r ci N j idx : Nat} {v : VV} {ty : FieldType} {z : Int} (hf : FW Y.1.cls idx ci N j) (hsh : sh r = (ci, N)) (hr : r ≤ n) (hty : ∀ t : FieldType, (match t with | .int => 0 | .long => 1 | .boolean => 3 | _ => 2) = fty ci j → t = ty) (hnar : narrow ty (cv G.ad v) = cv G.ad v) (hfit : fits ty (cv G.ad v) = true) (hval : cv G.ad v = fval G.ad (n, R, up S r j z) ci r j) (hcz : cV v → (sty r j = 1 → cL z) ∧ (sty r j ≠ 1 → cI z)) (hd : decode Y.2.1 pc = .ok (.putfield idx, 3)) (h : At G Y d (pc + 3) ls (st) (n, R, up S r j z) k sl Φ) : At G Y d (pc) ls (v :: vr r :: st) (n, R, S) k sl Φ := by
  intro p e s m args below meth c H locs lz X hR hC hs hl hv hS
  obtain ⟨C, T, ⟨hcl, hci, hin, ⟨ty0, ht1, ht2⟩, hnm⟩, hj, hfin, hlink⟩ := hf
  have hr1 := sh_pos hsh (by omega)
  have hG := X.2.2.2.2.2.2.2.2.1
  have hK := X.2.2.2.2.2.2.2.2.2.1
  have hts := X.2.2.2.2.2.2.2.1
  have hat := hR.2.2.2 r hr1 hr
  have hP := va_P1 hat
  rw [ec_obj hsh hci] at hP
  have hap := va_apart (own := Y.1.cls) hts hin ty0 ht1 hnm hK hcl
  obtain ⟨r0, h1, cell, q1, q2, q3, q4⟩ := hP 0 _ rfl
  have hr0 : r0 = (C, T, N) := Option.some.inj (h1.symm.trans hcl)
  subst hr0
  obtain ⟨hS9, hfc, kC, hkC, hkind⟩ := hK.1 ci _ hcl
  obtain ⟨cf, kf, fi, f, hi, hsl⟩ := hS9 j hj
  have hlay := hts _ (hin _ (u_in_lay hj))
  unfold u_lay at hlay
  rw [if_neg (by rw [hfin]; decide)] at hlay
  have hst := (u_facts hfc hkC (u_lays hts hin hj) hi).1
  have h6 := u_store hfc hkC hkind hlay hi (by rw [ht1 j hj, hty _ (ht2 j hj)]) hnar hfit
  have fin : ∀ H' : Heap, H'[G.ad r]? = some (cell.setSlot f.slot (cv G.ad v)) → H'.size = H.size → (∀ q, q ≠ G.ad r → H'[q]? = H[q]?) → W p G.l e (rmD d Y.2.2.2.2.1 Y.2.2.2.2.2) s m args below meth c H' (locs ++ [⟨G.ad r, f.slot⟩]) k sl (MQ below (QcG G Φ) args s Y.2.2.2.2.1 Y.2.2.2.2.2 (fre G)) (F0 m (pc + 3) lz (st.map (cv G.ad))) := by
    intro H' e1 e2 e3
    rw [hsl] at e1
    refine h p e s m args below meth c H' _ lz X (hR.put hG hr1 hr rfl e2 e3 (fun r' hne => ec_row (fun _ => rfl) (fun i => up_ne hne)) ?_) (hC.up1 (hcz (cs_h hs))) (cs_t (cs_t hs)) hl hv (hS.put e2 e3 (ALo_ad hG hr1 (by have := hR.2.1; omega)))
    rw [ec_obj hsh hci]
    refine ⟨_, hcl, t_OB.to (V := updV (vp_V ((List.range N).map (fun j => fval G.ad (n, R, S) ci r j))) j (cv G.ad v)) ⟨_, e1, q2, q3, t_set q4 hap hj _⟩ (fun i hi => ?_)⟩
    unfold updV vp_V
    rw [List.getD_eq_getElem?_getD, List.getD_eq_getElem?_getD, ec_obj_at hi, ec_obj_at hi]
    by_cases hij : i = j
    · subst hij; rw [if_pos rfl]; exact hval
    · rw [if_neg hij]
      show fval _ _ _ _ _ = fval _ _ _ _ _
      unfold fval up
      simp [hij]
  rw [List.map_cons, List.map_cons, cv_r (r := r) (by omega)]
  rcases hlink with hlink | ⟨host, hlink⟩
  · exact W.putK X.1 X.2.1 (f := f) ⟨X.2.2.2.2.2.1, hts _ hlink, ⟨_, _, _, hi⟩, hst⟩ (by rw [q2]; exact h6) q1 q3 (by rw [hsl]; exact k2_hasslot (q4 j hj)) rfl rfl hd fin
  · exact va_WputK X.1 X.2.1 (f := f) X.2.2.2.2.2.1 (va_Nw.use rfl (X.2.2.2.2.2.2.2.2.2.2.1 _ hlink)) hi hst (by rw [q2]; exact h6) q1 q3 (by rw [hsl]; exact k2_hasslot (q4 j hj)) rfl rfl hd fin
theorem up_self {α : Type} {S : Nat → Nat → α} {r j : Nat} {v : α} : up S r j v r j = v := by simp [up]
theorem At.putI {G : GG} {Y : YY} {d pc : Nat} {ls : List (Nat × VV)} {st : List VV} {n : Nat} {R : Nat → Nat → Nat} {S : Nat → Nat → Int} {k sl : Nat} {Φ : Option VV → MM → Prop} {r ci N j idx : Nat} {z : Int} (hf : FW Y.1.cls idx ci N j) (hsh : sh r = (ci, N)) (hr : r ≤ n) (hd : decode Y.2.1 pc = .ok (.putfield idx, 3)) (h : At G Y d (pc + 3) ls (st) (n, R, up S r j z) k sl Φ) (hy : fty ci j = 0 := by decide) : At G Y d (pc) ls (vi z :: vr r :: st) (n, R, S) k sl Φ :=
  At.putF0 (ty := .int) hf hsh hr (fun t ht => by rw [hy] at ht; cases t <;> first | rfl | cases ht) rfl rfl (by unfold fval; rw [if_neg (by omega), if_neg (by omega)]; show _ = Value.int (Int32.ofInt (up S r j z r j)); rw [up_self]; rfl) (fun hz => ⟨fun e => by rw [sty_obj hsh hf.lt] at e; omega, fun _ => hz⟩) hd h
theorem At.putZ {G : GG} {Y : YY} {d pc : Nat} {ls : List (Nat × VV)} {st : List VV} {n : Nat} {R : Nat → Nat → Nat} {S : Nat → Nat → Int} {k sl : Nat} {Φ : Option VV → MM → Prop} {r ci N j idx : Nat} {z : Int} (hz : z = 0 ∨ z = 1) (hf : FW Y.1.cls idx ci N j) (hsh : sh r = (ci, N)) (hr : r ≤ n) (hd : decode Y.2.1 pc = .ok (.putfield idx, 3)) (h : At G Y d (pc + 3) ls (st) (n, R, up S r j z) k sl Φ) (hy : fty ci j = 3 := by decide) : At G Y d (pc) ls (vi z :: vr r :: st) (n, R, S) k sl Φ :=
  At.putF0 (ty := .boolean) hf hsh hr (fun t ht => by rw [hy] at ht; cases t <;> first | rfl | cases ht) (by rcases hz with rfl | rfl <;> rfl) (by rcases hz with rfl | rfl <;> rfl) (by unfold fval; rw [if_neg (by omega), if_neg (by omega)]; show _ = Value.int (Int32.ofInt (up S r j z r j)); rw [up_self]; rfl) (fun hz => ⟨fun e => by rw [sty_obj hsh hf.lt] at e; omega, fun _ => hz⟩) hd h
theorem At.putL {G : GG} {Y : YY} {d pc : Nat} {ls : List (Nat × VV)} {st : List VV} {n : Nat} {R : Nat → Nat → Nat} {S : Nat → Nat → Int} {k sl : Nat} {Φ : Option VV → MM → Prop} {r ci N j idx : Nat} {z : Int} (hf : FW Y.1.cls idx ci N j) (hsh : sh r = (ci, N)) (hr : r ≤ n) (hd : decode Y.2.1 pc = .ok (.putfield idx, 3)) (h : At G Y d (pc + 3) ls (st) (n, R, up S r j z) k sl Φ) (hy : fty ci j = 1 := by decide) : At G Y d (pc) ls (vl z :: vr r :: st) (n, R, S) k sl Φ :=
  At.putF0 (ty := .long) hf hsh hr (fun t ht => by rw [hy] at ht; cases t <;> first | rfl | cases ht) rfl rfl (by unfold fval; rw [if_pos hy]; show _ = Value.long (Int64.ofInt (up S r j z r j)); rw [up_self]; rfl) (fun hz => ⟨fun _ => hz, fun e => by rw [sty_obj hsh hf.lt] at e; omega⟩) hd h
theorem ec_int {ad : Nat → Nat} {cy : Nat → ClassId} {M : MM} {r a N : Nat} (h : sh r = (a, N)) (ha : a = 20 ∨ a = 22 ∨ a = 23) : ec ad cy M r = .inl (cy a, N, .inl (fun j => Int32.ofInt (M.2.2 r j))) := by
  unfold ec
  rw [h]
  show (if a < 13 then _ else _) = _
  rw [if_neg (by omega), if_neg (by show ¬ a = 21; omega), if_neg (by show ¬ 24 ≤ a; omega)]
theorem ec_long {ad : Nat → Nat} {cy : Nat → ClassId} {M : MM} {r N : Nat} (h : sh r = (21, N)) : ec ad cy M r = .inl (cy 21, N, .inr (.inl (fun j => Int64.ofInt (M.2.2 r j)))) := by
  unfold ec
  rw [h]
  rfl
theorem ec_ref {ad : Nat → Nat} {cy : Nat → ClassId} {M : MM} {r a N : Nat} (h : sh r = (a, N)) (ha : 24 ≤ a) : ec ad cy M r = .inl (cy a, N, .inr (.inr (.inr (.inr (fun j => rfo ad (M.2.1 r j)))))) := by
  unfold ec
  rw [h]
  show (if a < 13 then _ else _) = _
  rw [if_neg (by omega), if_neg (by show ¬ a = 21; omega), if_pos (by show 24 ≤ a; omega)]
theorem ix_in {i : Int} {N : Nat} (hc : cI i) (h0 : 0 ≤ i) (h1 : i < N) : vp_in (Int32.ofInt i) N := vp_in_iff.mpr (by rw [ii_to hc]; exact ⟨h0, h1⟩)
theorem ix_nat {i : Int} (hc : cI i) : (Int32.ofInt i).toNatClampNeg = i.toNat := by
  show (Int32.ofInt i).toInt.toNat = i.toNat
  rw [ii_to hc]
theorem sty_arr {r a N j : Nat} (h : sh r = (a, N)) (ha : a = 20 ∨ a = 22 ∨ a = 23) : sty r j = 0 := by
  unfold sty
  rw [h]
  show (if a < 13 then _ else _) = _
  rw [if_neg (by omega), if_neg (by show ¬ a = 21; omega), if_neg (by show ¬ 24 ≤ a; omega)]
theorem sty_long {r N j : Nat} (h : sh r = (21, N)) : sty r j = 1 := by
  unfold sty
  rw [h]
  rfl
theorem At.iald {G : GG} {Y : YY} {d pc : Nat} {ls : List (Nat × VV)} {st : List VV} {n : Nat} {R : Nat → Nat → Nat} {S : Nat → Nat → Int} {k sl : Nat} {Φ : Option VV → MM → Prop} {r N : Nat} {i : Int} (hsh : sh r = (20, N)) (hr : r ≤ n) (h0 : 0 ≤ i) (h1 : i < N) (hd : decode Y.2.1 pc = .ok (.iaload, 1)) (h : At G Y d (pc + 1) ls (vi (S r i.toNat) :: st) (n, R, S) k sl Φ) : At G Y d (pc) ls (vi i :: vr r :: st) (n, R, S) k sl Φ := by
  intro p e s m args below meth c H locs lz X hR hC hs hl hv hS
  have hr1 := sh_pos hsh (by decide)
  have hP := va_P1 (hR.2.2.2 r hr1 hr)
  rw [ec_int hsh (by decide)] at hP
  have h2 := h p e s m args below meth c H locs lz X hR hC (cs_c ((hC r i.toNat).2 (by rw [sty_arr hsh (by decide)]; decide)) (cs_t (cs_t hs))) hl hv hS
  rw [List.map_cons, List.map_cons, cv_r (r := r) (by omega)]
  refine va_iald X.1 X.2.1 X.2.2.2.2.2.2.2.2.2.1 hP 0 0 rfl rfl (ix_in (cs_h hs) h0 h1) hd ?_
  rw [ix_nat (cs_h hs)]
  exact h2
theorem At.bald {G : GG} {Y : YY} {d pc : Nat} {ls : List (Nat × VV)} {st : List VV} {n : Nat} {R : Nat → Nat → Nat} {S : Nat → Nat → Int} {k sl : Nat} {Φ : Option VV → MM → Prop} {r N : Nat} {i : Int} (hsh : sh r = (22, N)) (hr : r ≤ n) (h0 : 0 ≤ i) (h1 : i < N) (hd : decode Y.2.1 pc = .ok (.baload, 1)) (h : At G Y d (pc + 1) ls (vi (S r i.toNat) :: st) (n, R, S) k sl Φ) : At G Y d (pc) ls (vi i :: vr r :: st) (n, R, S) k sl Φ := by
  intro p e s m args below meth c H locs lz X hR hC hs hl hv hS
  have hr1 := sh_pos hsh (by decide)
  have hP := va_P1 (hR.2.2.2 r hr1 hr)
  rw [ec_int hsh (by decide)] at hP
  have h2 := h p e s m args below meth c H locs lz X hR hC (cs_c ((hC r i.toNat).2 (by rw [sty_arr hsh (by decide)]; decide)) (cs_t (cs_t hs))) hl hv hS
  rw [List.map_cons, List.map_cons, cv_r (r := r) (by omega)]
  refine va_bald X.1 X.2.1 X.2.2.2.2.2.2.2.2.2.1 hP 0 2 rfl rfl (ix_in (cs_h hs) h0 h1) hd ?_
  rw [ix_nat (cs_h hs)]
  exact h2
theorem At.zald {G : GG} {Y : YY} {d pc : Nat} {ls : List (Nat × VV)} {st : List VV} {n : Nat} {R : Nat → Nat → Nat} {S : Nat → Nat → Int} {k sl : Nat} {Φ : Option VV → MM → Prop} {r N : Nat} {i : Int} (hsh : sh r = (23, N)) (hr : r ≤ n) (h0 : 0 ≤ i) (h1 : i < N) (hd : decode Y.2.1 pc = .ok (.baload, 1)) (h : At G Y d (pc + 1) ls (vi (S r i.toNat) :: st) (n, R, S) k sl Φ) : At G Y d (pc) ls (vi i :: vr r :: st) (n, R, S) k sl Φ := by
  intro p e s m args below meth c H locs lz X hR hC hs hl hv hS
  have hr1 := sh_pos hsh (by decide)
  have hP := va_P1 (hR.2.2.2 r hr1 hr)
  rw [ec_int hsh (by decide)] at hP
  have h2 := h p e s m args below meth c H locs lz X hR hC (cs_c ((hC r i.toNat).2 (by rw [sty_arr hsh (by decide)]; decide)) (cs_t (cs_t hs))) hl hv hS
  rw [List.map_cons, List.map_cons, cv_r (r := r) (by omega)]
  refine va_zald X.1 X.2.1 X.2.2.2.2.2.2.2.2.2.1 hP 0 3 rfl rfl (ix_in (cs_h hs) h0 h1) hd ?_
  rw [ix_nat (cs_h hs)]
  exact h2
theorem At.lald {G : GG} {Y : YY} {d pc : Nat} {ls : List (Nat × VV)} {st : List VV} {n : Nat} {R : Nat → Nat → Nat} {S : Nat → Nat → Int} {k sl : Nat} {Φ : Option VV → MM → Prop} {r N : Nat} {i : Int} (hsh : sh r = (21, N)) (hr : r ≤ n) (h0 : 0 ≤ i) (h1 : i < N) (hd : decode Y.2.1 pc = .ok (.laload, 1)) (h : At G Y d (pc + 1) ls (vl (S r i.toNat) :: st) (n, R, S) k sl Φ) : At G Y d (pc) ls (vi i :: vr r :: st) (n, R, S) k sl Φ := by
  intro p e s m args below meth c H locs lz X hR hC hs hl hv hS
  have hr1 := sh_pos hsh (by decide)
  have hP := va_P1 (hR.2.2.2 r hr1 hr)
  rw [ec_long hsh] at hP
  have h2 := h p e s m args below meth c H locs lz X hR hC (cs_c ((hC r i.toNat).1 (by rw [sty_long hsh])) (cs_t (cs_t hs))) hl hv hS
  rw [List.map_cons, List.map_cons, cv_r (r := r) (by omega)]
  refine va_lald X.1 X.2.1 X.2.2.2.2.2.2.2.2.2.1 hP 0 1 rfl rfl (ix_in (cs_h hs) h0 h1) hd ?_
  rw [ix_nat (cs_h hs)]
  exact h2
theorem At.aldS {G : GG} {Y : YY} {d pc : Nat} {ls : List (Nat × VV)} {st : List VV} {n : Nat} {R : Nat → Nat → Nat} {S : Nat → Nat → Int} {k sl : Nat} {Φ : Option VV → MM → Prop} {r N : Nat} {i : Int} (hsh : sh r = (24, N)) (hr : r ≤ n) (h0 : 0 ≤ i) (h1 : i < N) (hd : decode Y.2.1 pc = .ok (.aaload, 1)) (h : At G Y d (pc + 1) ls (vr (R r i.toNat) :: st) (n, R, S) k sl Φ) : At G Y d (pc) ls (vi i :: vr r :: st) (n, R, S) k sl Φ := by
  intro p e s m args below meth c H locs lz X hR hC hs hl hv hS
  have hr1 := sh_pos hsh (by decide)
  have hP := va_P1 (hR.2.2.2 r hr1 hr)
  rw [ec_ref hsh (by decide)] at hP
  have h2 := h p e s m args below meth c H locs lz X hR hC (cs_c (trivial) (cs_t (cs_t hs))) hl hv hS
  rw [List.map_cons, List.map_cons, cv_r (r := r) (by omega)]
  refine va_aldq X.1 X.2.1 X.2.2.2.2.2.2.2.2.2.1 hP 0 4 rfl rfl (ix_in (cs_h hs) h0 h1) hd ?_
  rw [ix_nat (cs_h hs)]
  exact h2
theorem At.aldQ {G : GG} {Y : YY} {d pc : Nat} {ls : List (Nat × VV)} {st : List VV} {n : Nat} {R : Nat → Nat → Nat} {S : Nat → Nat → Int} {k sl : Nat} {Φ : Option VV → MM → Prop} {r N : Nat} {i : Int} (hsh : sh r = (25, N)) (hr : r ≤ n) (h0 : 0 ≤ i) (h1 : i < N) (hd : decode Y.2.1 pc = .ok (.aaload, 1)) (h : At G Y d (pc + 1) ls (vr (R r i.toNat) :: st) (n, R, S) k sl Φ) : At G Y d (pc) ls (vi i :: vr r :: st) (n, R, S) k sl Φ := by
  intro p e s m args below meth c H locs lz X hR hC hs hl hv hS
  have hr1 := sh_pos hsh (by decide)
  have hP := va_P1 (hR.2.2.2 r hr1 hr)
  rw [ec_ref hsh (by decide)] at hP
  have h2 := h p e s m args below meth c H locs lz X hR hC (cs_c (trivial) (cs_t (cs_t hs))) hl hv hS
  rw [List.map_cons, List.map_cons, cv_r (r := r) (by omega)]
  refine va_aldq X.1 X.2.1 X.2.2.2.2.2.2.2.2.2.1 hP 0 5 rfl rfl (ix_in (cs_h hs) h0 h1) hd ?_
  rw [ix_nat (cs_h hs)]
  exact h2
theorem At.aldT {G : GG} {Y : YY} {d pc : Nat} {ls : List (Nat × VV)} {st : List VV} {n : Nat} {R : Nat → Nat → Nat} {S : Nat → Nat → Int} {k sl : Nat} {Φ : Option VV → MM → Prop} {r N : Nat} {i : Int} (hsh : sh r = (26, N)) (hr : r ≤ n) (h0 : 0 ≤ i) (h1 : i < N) (hd : decode Y.2.1 pc = .ok (.aaload, 1)) (h : At G Y d (pc + 1) ls (vr (R r i.toNat) :: st) (n, R, S) k sl Φ) : At G Y d (pc) ls (vi i :: vr r :: st) (n, R, S) k sl Φ := by
  intro p e s m args below meth c H locs lz X hR hC hs hl hv hS
  have hr1 := sh_pos hsh (by decide)
  have hP := va_P1 (hR.2.2.2 r hr1 hr)
  rw [ec_ref hsh (by decide)] at hP
  have h2 := h p e s m args below meth c H locs lz X hR hC (cs_c (trivial) (cs_t (cs_t hs))) hl hv hS
  rw [List.map_cons, List.map_cons, cv_r (r := r) (by omega)]
  refine va_aldq X.1 X.2.1 X.2.2.2.2.2.2.2.2.2.1 hP 0 6 rfl rfl (ix_in (cs_h hs) h0 h1) hd ?_
  rw [ix_nat (cs_h hs)]
  exact h2
theorem At.alenI {G : GG} {Y : YY} {d pc : Nat} {ls : List (Nat × VV)} {st : List VV} {n : Nat} {R : Nat → Nat → Nat} {S : Nat → Nat → Int} {k sl : Nat} {Φ : Option VV → MM → Prop} {r N : Nat} {z : Int} (hsh : sh r = (20, N)) (hr : r ≤ n) (hN : N < 2147483648) (hz : (N : Int) = z) (hd : decode Y.2.1 pc = .ok (.arraylength, 1)) (h : At G Y d (pc + 1) ls (vi z :: st) (n, R, S) k sl Φ) : At G Y d (pc) ls (vr r :: st) (n, R, S) k sl Φ := by
  intro p e s m args below meth c H locs lz X hR hC hs hl hv hS
  subst hz
  have hr1 := sh_pos hsh (by decide)
  have hP := va_P1 (hR.2.2.2 r hr1 hr)
  rw [ec_int hsh (by decide)] at hP
  have h2 := h p e s m args below meth c H locs lz X hR hC (cs_c (show cI (N : Int) by unfold cI; omega) (cs_t hs)) hl hv hS
  rw [List.map_cons, cv_r (r := r) (by omega)]
  refine va_alen (v := Int32.ofInt (N : Int)) X.1 X.2.1 X.2.2.2.2.2.2.2.2.2.1 hP 0 0 rfl rfl (Int32.ofInt_eq_ofNat).symm hd ?_
  exact h2
theorem At.alenB {G : GG} {Y : YY} {d pc : Nat} {ls : List (Nat × VV)} {st : List VV} {n : Nat} {R : Nat → Nat → Nat} {S : Nat → Nat → Int} {k sl : Nat} {Φ : Option VV → MM → Prop} {r N : Nat} {z : Int} (hsh : sh r = (22, N)) (hr : r ≤ n) (hN : N < 2147483648) (hz : (N : Int) = z) (hd : decode Y.2.1 pc = .ok (.arraylength, 1)) (h : At G Y d (pc + 1) ls (vi z :: st) (n, R, S) k sl Φ) : At G Y d (pc) ls (vr r :: st) (n, R, S) k sl Φ := by
  intro p e s m args below meth c H locs lz X hR hC hs hl hv hS
  subst hz
  have hr1 := sh_pos hsh (by decide)
  have hP := va_P1 (hR.2.2.2 r hr1 hr)
  rw [ec_int hsh (by decide)] at hP
  have h2 := h p e s m args below meth c H locs lz X hR hC (cs_c (show cI (N : Int) by unfold cI; omega) (cs_t hs)) hl hv hS
  rw [List.map_cons, cv_r (r := r) (by omega)]
  refine va_alen (v := Int32.ofInt (N : Int)) X.1 X.2.1 X.2.2.2.2.2.2.2.2.2.1 hP 0 2 rfl rfl (Int32.ofInt_eq_ofNat).symm hd ?_
  exact h2
theorem At.alenJ {G : GG} {Y : YY} {d pc : Nat} {ls : List (Nat × VV)} {st : List VV} {n : Nat} {R : Nat → Nat → Nat} {S : Nat → Nat → Int} {k sl : Nat} {Φ : Option VV → MM → Prop} {r N : Nat} {z : Int} (hsh : sh r = (21, N)) (hr : r ≤ n) (hN : N < 2147483648) (hz : (N : Int) = z) (hd : decode Y.2.1 pc = .ok (.arraylength, 1)) (h : At G Y d (pc + 1) ls (vi z :: st) (n, R, S) k sl Φ) : At G Y d (pc) ls (vr r :: st) (n, R, S) k sl Φ := by
  intro p e s m args below meth c H locs lz X hR hC hs hl hv hS
  subst hz
  have hr1 := sh_pos hsh (by decide)
  have hP := va_P1 (hR.2.2.2 r hr1 hr)
  rw [ec_long hsh] at hP
  have h2 := h p e s m args below meth c H locs lz X hR hC (cs_c (show cI (N : Int) by unfold cI; omega) (cs_t hs)) hl hv hS
  rw [List.map_cons, cv_r (r := r) (by omega)]
  refine va_alen (v := Int32.ofInt (N : Int)) X.1 X.2.1 X.2.2.2.2.2.2.2.2.2.1 hP 0 1 rfl rfl (Int32.ofInt_eq_ofNat).symm hd ?_
  exact h2
theorem At.alenS {G : GG} {Y : YY} {d pc : Nat} {ls : List (Nat × VV)} {st : List VV} {n : Nat} {R : Nat → Nat → Nat} {S : Nat → Nat → Int} {k sl : Nat} {Φ : Option VV → MM → Prop} {r N : Nat} {z : Int} (hsh : sh r = (24, N)) (hr : r ≤ n) (hN : N < 2147483648) (hz : (N : Int) = z) (hd : decode Y.2.1 pc = .ok (.arraylength, 1)) (h : At G Y d (pc + 1) ls (vi z :: st) (n, R, S) k sl Φ) : At G Y d (pc) ls (vr r :: st) (n, R, S) k sl Φ := by
  intro p e s m args below meth c H locs lz X hR hC hs hl hv hS
  subst hz
  have hr1 := sh_pos hsh (by decide)
  have hP := va_P1 (hR.2.2.2 r hr1 hr)
  rw [ec_ref hsh (by decide)] at hP
  have h2 := h p e s m args below meth c H locs lz X hR hC (cs_c (show cI (N : Int) by unfold cI; omega) (cs_t hs)) hl hv hS
  rw [List.map_cons, cv_r (r := r) (by omega)]
  refine va_alen (v := Int32.ofInt (N : Int)) X.1 X.2.1 X.2.2.2.2.2.2.2.2.2.1 hP 0 4 rfl rfl (Int32.ofInt_eq_ofNat).symm hd ?_
  exact h2
theorem At.alenQ {G : GG} {Y : YY} {d pc : Nat} {ls : List (Nat × VV)} {st : List VV} {n : Nat} {R : Nat → Nat → Nat} {S : Nat → Nat → Int} {k sl : Nat} {Φ : Option VV → MM → Prop} {r N : Nat} {z : Int} (hsh : sh r = (25, N)) (hr : r ≤ n) (hN : N < 2147483648) (hz : (N : Int) = z) (hd : decode Y.2.1 pc = .ok (.arraylength, 1)) (h : At G Y d (pc + 1) ls (vi z :: st) (n, R, S) k sl Φ) : At G Y d (pc) ls (vr r :: st) (n, R, S) k sl Φ := by
  intro p e s m args below meth c H locs lz X hR hC hs hl hv hS
  subst hz
  have hr1 := sh_pos hsh (by decide)
  have hP := va_P1 (hR.2.2.2 r hr1 hr)
  rw [ec_ref hsh (by decide)] at hP
  have h2 := h p e s m args below meth c H locs lz X hR hC (cs_c (show cI (N : Int) by unfold cI; omega) (cs_t hs)) hl hv hS
  rw [List.map_cons, cv_r (r := r) (by omega)]
  refine va_alen (v := Int32.ofInt (N : Int)) X.1 X.2.1 X.2.2.2.2.2.2.2.2.2.1 hP 0 5 rfl rfl (Int32.ofInt_eq_ofNat).symm hd ?_
  exact h2
theorem At.alenT {G : GG} {Y : YY} {d pc : Nat} {ls : List (Nat × VV)} {st : List VV} {n : Nat} {R : Nat → Nat → Nat} {S : Nat → Nat → Int} {k sl : Nat} {Φ : Option VV → MM → Prop} {r N : Nat} {z : Int} (hsh : sh r = (26, N)) (hr : r ≤ n) (hN : N < 2147483648) (hz : (N : Int) = z) (hd : decode Y.2.1 pc = .ok (.arraylength, 1)) (h : At G Y d (pc + 1) ls (vi z :: st) (n, R, S) k sl Φ) : At G Y d (pc) ls (vr r :: st) (n, R, S) k sl Φ := by
  intro p e s m args below meth c H locs lz X hR hC hs hl hv hS
  subst hz
  have hr1 := sh_pos hsh (by decide)
  have hP := va_P1 (hR.2.2.2 r hr1 hr)
  rw [ec_ref hsh (by decide)] at hP
  have h2 := h p e s m args below meth c H locs lz X hR hC (cs_c (show cI (N : Int) by unfold cI; omega) (cs_t hs)) hl hv hS
  rw [List.map_cons, cv_r (r := r) (by omega)]
  refine va_alen (v := Int32.ofInt (N : Int)) X.1 X.2.1 X.2.2.2.2.2.2.2.2.2.1 hP 0 6 rfl rfl (Int32.ofInt_eq_ofNat).symm hd ?_
  exact h2
theorem At.iast {G : GG} {Y : YY} {d pc : Nat} {ls : List (Nat × VV)} {st : List VV} {n : Nat} {R : Nat → Nat → Nat} {S : Nat → Nat → Int} {k sl : Nat} {Φ : Option VV → MM → Prop} {r N : Nat} {i z : Int} (hsh : sh r = (20, N)) (hr : r ≤ n) (h0 : 0 ≤ i) (h1 : i < N) (hd : decode Y.2.1 pc = .ok (.iastore, 1)) (h : At G Y d (pc + 1) ls (st) (n, R, up S r i.toNat (z)) k sl Φ) : At G Y d (pc) ls (vi z :: vi i :: vr r :: st) (n, R, S) k sl Φ := by
  intro p e s m args below meth c H locs lz X hR hC hs hl hv hS
  have hr1 := sh_pos hsh (by decide)
  have hG := X.2.2.2.2.2.2.2.2.1
  have hat := hR.2.2.2 r hr1 hr
  rw [ec_int hsh (by decide)] at hat
  have hci := cs_h (cs_t hs)
  have hin := ix_in hci h0 h1
  rw [List.map_cons, List.map_cons, List.map_cons, cv_r (r := r) (by omega)]
  refine W.iast X.1 X.2.1 hat (((X.2.2.2.2.2.2.2.2.2.1).2 0 _ rfl).1 N _) (fun q => by cases q) (by show ¬ (_ ∨ (arrV _ _ _).slots.size ≤ _); rw [arrV_size]; exact hin) rfl rfl hd fun H1 e1 z1 oq => ?_
  refine h p e s m args below meth c H1 _ lz X (hR.put hG hr1 hr rfl z1 oq (fun r' hne => ec_row (fun _ => rfl) (fun i => up_ne hne)) ?_) (hC.up1 (by rw [sty_arr hsh (by decide)]; exact ⟨fun e => (by cases e), fun _ => cs_h hs⟩)) (cs_t (cs_t (cs_t hs))) hl hv (hS.put z1 oq (ALo_ad hG hr1 (by have := hR.2.1; omega)))
  rw [ec_int hsh (by decide)]
  show H1[G.ad r]? = some (vp_cell _ _)
  rw [e1, vp_cell_i, vp_cell_i, arrV_store, ix_nat hci]
  congr 2
  funext q
  by_cases hq : q = i.toNat
  · subst hq
    simp [updV, up]
  · simp [updV, up, hq]
theorem At.last {G : GG} {Y : YY} {d pc : Nat} {ls : List (Nat × VV)} {st : List VV} {n : Nat} {R : Nat → Nat → Nat} {S : Nat → Nat → Int} {k sl : Nat} {Φ : Option VV → MM → Prop} {r N : Nat} {i z : Int} (hsh : sh r = (21, N)) (hr : r ≤ n) (h0 : 0 ≤ i) (h1 : i < N) (hd : decode Y.2.1 pc = .ok (.lastore, 1)) (h : At G Y d (pc + 1) ls (st) (n, R, up S r i.toNat (z)) k sl Φ) : At G Y d (pc) ls (vl z :: vi i :: vr r :: st) (n, R, S) k sl Φ := by
  intro p e s m args below meth c H locs lz X hR hC hs hl hv hS
  have hr1 := sh_pos hsh (by decide)
  have hG := X.2.2.2.2.2.2.2.2.1
  have hat := hR.2.2.2 r hr1 hr
  rw [ec_long hsh] at hat
  have hci := cs_h (cs_t hs)
  have hin := ix_in hci h0 h1
  rw [List.map_cons, List.map_cons, List.map_cons, cv_r (r := r) (by omega)]
  refine W.last X.1 X.2.1 hat (((X.2.2.2.2.2.2.2.2.2.1).2 1 _ rfl).1 N _) (fun q => by cases q) (by show ¬ (_ ∨ (arrV _ _ _).slots.size ≤ _); rw [arrV_size]; exact hin) rfl rfl hd fun H1 e1 z1 oq => ?_
  refine h p e s m args below meth c H1 _ lz X (hR.put hG hr1 hr rfl z1 oq (fun r' hne => ec_row (fun _ => rfl) (fun i => up_ne hne)) ?_) (hC.up1 (by rw [sty_long hsh]; exact ⟨fun _ => cs_h hs, fun e => absurd rfl e⟩)) (cs_t (cs_t (cs_t hs))) hl hv (hS.put z1 oq (ALo_ad hG hr1 (by have := hR.2.1; omega)))
  rw [ec_long hsh]
  show H1[G.ad r]? = some (vp_cell _ _)
  rw [e1, vp_cell_l, vp_cell_l, arrV_store, ix_nat hci]
  congr 2
  funext q
  by_cases hq : q = i.toNat
  · subst hq
    simp [updV, up]
  · simp [updV, up, hq]
theorem At.bast {G : GG} {Y : YY} {d pc : Nat} {ls : List (Nat × VV)} {st : List VV} {n : Nat} {R : Nat → Nat → Nat} {S : Nat → Nat → Int} {k sl : Nat} {Φ : Option VV → MM → Prop} {r N : Nat} {i z : Int} (hsh : sh r = (22, N)) (hr : r ≤ n) (h0 : 0 ≤ i) (h1 : i < N) (hd : decode Y.2.1 pc = .ok (.bastore, 1)) (h : At G Y d (pc + 1) ls (st) (n, R, up S r i.toNat (jb z)) k sl Φ) : At G Y d (pc) ls (vi z :: vi i :: vr r :: st) (n, R, S) k sl Φ := by
  intro p e s m args below meth c H locs lz X hR hC hs hl hv hS
  have hr1 := sh_pos hsh (by decide)
  have hG := X.2.2.2.2.2.2.2.2.1
  have hat := hR.2.2.2 r hr1 hr
  rw [ec_int hsh (by decide)] at hat
  have hci := cs_h (cs_t hs)
  have hin := ix_in hci h0 h1
  rw [List.map_cons, List.map_cons, List.map_cons, cv_r (r := r) (by omega)]
  refine W.bast X.1 X.2.1 hat (((X.2.2.2.2.2.2.2.2.2.1).2 2 _ rfl).1 N _) (fun q => by cases q) (by show ¬ (_ ∨ (arrV _ _ _).slots.size ≤ _); rw [arrV_size]; exact hin) rfl rfl hd fun H1 e1 z1 oq => ?_
  refine h p e s m args below meth c H1 _ lz X (hR.put hG hr1 hr rfl z1 oq (fun r' hne => ec_row (fun _ => rfl) (fun i => up_ne hne)) ?_) (hC.up1 (by rw [sty_arr hsh (by decide)]; exact ⟨fun e => (by cases e), fun _ => ii_c _⟩)) (cs_t (cs_t (cs_t hs))) hl hv (hS.put z1 oq (ALo_ad hG hr1 (by have := hR.2.1; omega)))
  rw [ec_int hsh (by decide)]
  show H1[G.ad r]? = some (vp_cell _ _)
  rw [e1, vp_cell_i, vp_cell_i, arrV_store, ix_nat hci]
  congr 2
  funext q
  by_cases hq : q = i.toNat
  · subst hq
    simp only [updV, if_true, up_self]; show narrow .byte (.int (Int32.ofInt z)) = .int (Int32.ofInt (jb z)); unfold jb; rw [Int32.ofInt_toInt]; rfl
  · simp [updV, up, hq]
theorem At.zast {G : GG} {Y : YY} {d pc : Nat} {ls : List (Nat × VV)} {st : List VV} {n : Nat} {R : Nat → Nat → Nat} {S : Nat → Nat → Int} {k sl : Nat} {Φ : Option VV → MM → Prop} {r N : Nat} {i z : Int} (hsh : sh r = (23, N)) (hr : r ≤ n) (h0 : 0 ≤ i) (h1 : i < N) (hd : decode Y.2.1 pc = .ok (.bastore, 1)) (h : At G Y d (pc + 1) ls (st) (n, R, up S r i.toNat (jz z)) k sl Φ) : At G Y d (pc) ls (vi z :: vi i :: vr r :: st) (n, R, S) k sl Φ := by
  intro p e s m args below meth c H locs lz X hR hC hs hl hv hS
  have hr1 := sh_pos hsh (by decide)
  have hG := X.2.2.2.2.2.2.2.2.1
  have hat := hR.2.2.2 r hr1 hr
  rw [ec_int hsh (by decide)] at hat
  have hci := cs_h (cs_t hs)
  have hin := ix_in hci h0 h1
  rw [List.map_cons, List.map_cons, List.map_cons, cv_r (r := r) (by omega)]
  refine W.zast X.1 X.2.1 hat (((X.2.2.2.2.2.2.2.2.2.1).2 3 _ rfl).1 N _) (fun q => by cases q) (by show ¬ (_ ∨ (arrV _ _ _).slots.size ≤ _); rw [arrV_size]; exact hin) rfl rfl hd fun H1 e1 z1 oq => ?_
  refine h p e s m args below meth c H1 _ lz X (hR.put hG hr1 hr rfl z1 oq (fun r' hne => ec_row (fun _ => rfl) (fun i => up_ne hne)) ?_) (hC.up1 (by rw [sty_arr hsh (by decide)]; exact ⟨fun e => (by cases e), fun _ => ii_c _⟩)) (cs_t (cs_t (cs_t hs))) hl hv (hS.put z1 oq (ALo_ad hG hr1 (by have := hR.2.1; omega)))
  rw [ec_int hsh (by decide)]
  show H1[G.ad r]? = some (vp_cell _ _)
  rw [e1, vp_cell_i, vp_cell_i, arrV_store, ix_nat hci]
  congr 2
  funext q
  by_cases hq : q = i.toNat
  · subst hq
    simp only [updV, if_true, up_self]; show narrow .boolean (.int (Int32.ofInt z)) = .int (Int32.ofInt (jz z)); unfold jz; rw [Int32.ofInt_toInt]; rfl
  · simp [updV, up, hq]
