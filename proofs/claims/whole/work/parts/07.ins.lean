theorem cs_c {v : VV} {st : List VV} (h : cV v) (hs : ∀ x ∈ st, cV x) : ∀ x ∈ v :: st, cV x := fun x hx => (List.mem_cons.mp hx).elim (fun e => e ▸ h) (hs x)
theorem cs_h {v : VV} {st : List VV} (hs : ∀ x ∈ v :: st, cV x) : cV v := hs v List.mem_cons_self
theorem cs_t {v : VV} {st : List VV} (hs : ∀ x ∈ v :: st, cV x) : ∀ x ∈ st, cV x := fun x hx => hs x (List.mem_cons_of_mem _ hx)
def lg : List (Nat × VV) → Nat → Option VV
  | [], _ => none
  | q :: r, i => if q.1 = i then some q.2 else lg r i
theorem lg_mem : ∀ {ls : List (Nat × VV)} {i : Nat} {v : VV}, lg ls i = some v → (i, v) ∈ ls
  | [], _, _, h => by cases h
  | q :: r, i, v, h => by
    unfold lg at h
    split at h
    · rename_i h1
      obtain ⟨a, b⟩ := q
      cases h
      cases h1
      exact List.mem_cons_self
    · exact List.mem_cons_of_mem _ (lg_mem h)
theorem lg_at {ad : Nat → Nat} {lz : Array Slot} {nL : Nat} {ls : List (Nat × VV)} {i : Nat} {v : VV} (hv : lv_has lz nL (cvl ad ls)) (h : lg ls i = some v) : lz[i]? = some (.val (cv ad v)) :=
  hv.2.2 (i, cv ad v) (List.mem_map.mpr ⟨(i, v), lg_mem h, rfl⟩)
theorem lg_c {ls : List (Nat × VV)} {i : Nat} {v : VV} (hl : ∀ q ∈ ls, cV q.2) (h : lg ls i = some v) : cV v := hl _ (lg_mem h)
/-- a store of a value of one word, of two -/
def st1 (ls : List (Nat × VV)) (i : Nat) (v : VV) : List (Nat × VV) := (i, v) :: ls.filter (fun q => !(q.1 == i) && !(q.1 + 1 == i && is2 q.2))
def st2 (ls : List (Nat × VV)) (i : Nat) (v : VV) : List (Nat × VV) := (i, v) :: ls.filter (fun q => !(q.1 == i) && (!(q.1 == i + 1) && !(q.1 + 1 == i && is2 q.2)))
theorem cat_is2 (ad : Nat → Nat) (v : VV) : ((cv ad v).category == 2) = is2 v := by
  rw [cv_cat]
  unfold cat
  cases is2 v <;> rfl
theorem cvl_st1 (ad : Nat → Nat) (ls : List (Nat × VV)) (i : Nat) (v : VV) : (i, cv ad v) :: (cvl ad ls).filter (fun q => !(q.1 == i) && !(q.1 + 1 == i && q.2.category == 2)) = cvl ad (st1 ls i v) := by
  unfold cvl st1
  rw [List.map_cons, List.filter_map]
  congr 2
  apply List.filter_congr
  intro q _
  simp only [Function.comp, cat_is2]
theorem cvl_st2 (ad : Nat → Nat) (ls : List (Nat × VV)) (i : Nat) (v : VV) : (i, cv ad v) :: (cvl ad ls).filter (fun q => !(q.1 == i) && (!(q.1 == i + 1) && !(q.1 + 1 == i && q.2.category == 2))) = cvl ad (st2 ls i v) := by
  unfold cvl st2
  rw [List.map_cons, List.filter_map]
  congr 2
  apply List.filter_congr
  intro q _
  simp only [Function.comp, cat_is2]
theorem st1_c {ls : List (Nat × VV)} {i : Nat} {v : VV} (hl : ∀ q ∈ ls, cV q.2) (h : cV v) : ∀ q ∈ st1 ls i v, cV q.2 := fun q hq => (List.mem_cons.mp hq).elim (fun e => e ▸ h) (fun h2 => hl q (List.mem_filter.mp h2).1)
theorem st2_c {ls : List (Nat × VV)} {i : Nat} {v : VV} (hl : ∀ q ∈ ls, cV q.2) (h : cV v) : ∀ q ∈ st2 ls i v, cV q.2 := fun q hq => (List.mem_cons.mp hq).elim (fun e => e ▸ h) (fun h2 => hl q (List.mem_filter.mp h2).1)
theorem lc_eq {a b : Int} (ha : cL a) (hb : cL b) : lg_cmp (Int64.ofInt a) (Int64.ofInt b) = Int32.ofInt (lc a b) := by
  unfold lg_cmp lc
  simp only [gt_iff_lt, ll_lt ha hb, ll_lt hb ha, ll_inj ha hb]
  by_cases h1 : a < b
  · simp [h1, show ¬ b < a by omega, show ¬ a = b by omega]
  · by_cases h2 : a = b
    · simp [h2]
    · simp [h1, h2, show b < a by omega]
theorem At.iadd {G : GG} {Y : YY} {d pc : Nat} {ls : List (Nat × VV)} {st : List VV} {M : MM} {k sl : Nat} {Φ : Option VV → MM → Prop} {a b : Int} (hd : decode Y.2.1 pc = .ok (.iadd, 1))  (h : At G Y d (pc + 1) ls (vi (w32 (a + b)) :: st) M k sl Φ) : At G Y d (pc) ls (vi b :: vi a :: st) M k sl Φ := by
  intro p e s m args below meth c H locs lz X hR hC hs hl hv hS
  have h2 := h p e s m args below meth c H locs lz X hR hC (cs_c (w32_c _) (cs_t (cs_t hs))) hl hv hS
  refine lv_iadd X.1 X.2.1 hd ?_
  rw [show Int32.ofInt a + Int32.ofInt b = Int32.ofInt (w32 (a + b)) by rw [ii_w, Int32.ofInt_add]]
  exact h2
theorem At.isub {G : GG} {Y : YY} {d pc : Nat} {ls : List (Nat × VV)} {st : List VV} {M : MM} {k sl : Nat} {Φ : Option VV → MM → Prop} {a b : Int} (hd : decode Y.2.1 pc = .ok (.isub, 1))  (h : At G Y d (pc + 1) ls (vi (w32 (a - b)) :: st) M k sl Φ) : At G Y d (pc) ls (vi b :: vi a :: st) M k sl Φ := by
  intro p e s m args below meth c H locs lz X hR hC hs hl hv hS
  have h2 := h p e s m args below meth c H locs lz X hR hC (cs_c (w32_c _) (cs_t (cs_t hs))) hl hv hS
  refine lv_isub X.1 X.2.1 hd ?_
  rw [show Int32.ofInt a - Int32.ofInt b = Int32.ofInt (w32 (a - b)) by rw [ii_w, Int32.ofInt_sub]]
  exact h2
theorem At.imul {G : GG} {Y : YY} {d pc : Nat} {ls : List (Nat × VV)} {st : List VV} {M : MM} {k sl : Nat} {Φ : Option VV → MM → Prop} {a b : Int} (hd : decode Y.2.1 pc = .ok (.imul, 1))  (h : At G Y d (pc + 1) ls (vi (w32 (a * b)) :: st) M k sl Φ) : At G Y d (pc) ls (vi b :: vi a :: st) M k sl Φ := by
  intro p e s m args below meth c H locs lz X hR hC hs hl hv hS
  have h2 := h p e s m args below meth c H locs lz X hR hC (cs_c (w32_c _) (cs_t (cs_t hs))) hl hv hS
  refine lv_imul X.1 X.2.1 hd ?_
  rw [show Int32.ofInt a * Int32.ofInt b = Int32.ofInt (w32 (a * b)) by rw [ii_w, Int32.ofInt_mul]]
  exact h2
theorem At.iand {G : GG} {Y : YY} {d pc : Nat} {ls : List (Nat × VV)} {st : List VV} {M : MM} {k sl : Nat} {Φ : Option VV → MM → Prop} {a b : Int} (hd : decode Y.2.1 pc = .ok (.iand, 1))  (h : At G Y d (pc + 1) ls (vi (jand a b) :: st) M k sl Φ) : At G Y d (pc) ls (vi b :: vi a :: st) M k sl Φ := by
  intro p e s m args below meth c H locs lz X hR hC hs hl hv hS
  have h2 := h p e s m args below meth c H locs lz X hR hC (cs_c (ii_c _) (cs_t (cs_t hs))) hl hv hS
  refine lv_iand X.1 X.2.1 hd ?_
  rw [show Int32.ofInt a &&& Int32.ofInt b = Int32.ofInt (jand a b) from (Int32.ofInt_toInt _).symm]
  exact h2
theorem At.ior {G : GG} {Y : YY} {d pc : Nat} {ls : List (Nat × VV)} {st : List VV} {M : MM} {k sl : Nat} {Φ : Option VV → MM → Prop} {a b : Int} (hd : decode Y.2.1 pc = .ok (.ior, 1))  (h : At G Y d (pc + 1) ls (vi (jor a b) :: st) M k sl Φ) : At G Y d (pc) ls (vi b :: vi a :: st) M k sl Φ := by
  intro p e s m args below meth c H locs lz X hR hC hs hl hv hS
  have h2 := h p e s m args below meth c H locs lz X hR hC (cs_c (ii_c _) (cs_t (cs_t hs))) hl hv hS
  refine lv_ior X.1 X.2.1 hd ?_
  rw [show Int32.ofInt a ||| Int32.ofInt b = Int32.ofInt (jor a b) from (Int32.ofInt_toInt _).symm]
  exact h2
theorem At.ixor {G : GG} {Y : YY} {d pc : Nat} {ls : List (Nat × VV)} {st : List VV} {M : MM} {k sl : Nat} {Φ : Option VV → MM → Prop} {a b : Int} (hd : decode Y.2.1 pc = .ok (.ixor, 1))  (h : At G Y d (pc + 1) ls (vi (jxor a b) :: st) M k sl Φ) : At G Y d (pc) ls (vi b :: vi a :: st) M k sl Φ := by
  intro p e s m args below meth c H locs lz X hR hC hs hl hv hS
  have h2 := h p e s m args below meth c H locs lz X hR hC (cs_c (ii_c _) (cs_t (cs_t hs))) hl hv hS
  refine lv_ixor X.1 X.2.1 hd ?_
  rw [show Int32.ofInt a ^^^ Int32.ofInt b = Int32.ofInt (jxor a b) from (Int32.ofInt_toInt _).symm]
  exact h2
theorem At.ishl {G : GG} {Y : YY} {d pc : Nat} {ls : List (Nat × VV)} {st : List VV} {M : MM} {k sl : Nat} {Φ : Option VV → MM → Prop} {a b : Int} (hd : decode Y.2.1 pc = .ok (.ishl, 1))  (h : At G Y d (pc + 1) ls (vi (jshl a b) :: st) M k sl Φ) : At G Y d (pc) ls (vi b :: vi a :: st) M k sl Φ := by
  intro p e s m args below meth c H locs lz X hR hC hs hl hv hS
  have h2 := h p e s m args below meth c H locs lz X hR hC (cs_c (ii_c _) (cs_t (cs_t hs))) hl hv hS
  refine lv_ishl X.1 X.2.1 hd ?_
  rw [show Int32.ofInt a <<< (Int32.ofInt b &&& 31) = Int32.ofInt (jshl a b) from (Int32.ofInt_toInt _).symm]
  exact h2
theorem At.ishr {G : GG} {Y : YY} {d pc : Nat} {ls : List (Nat × VV)} {st : List VV} {M : MM} {k sl : Nat} {Φ : Option VV → MM → Prop} {a b : Int} (hd : decode Y.2.1 pc = .ok (.ishr, 1))  (h : At G Y d (pc + 1) ls (vi (jshr a b) :: st) M k sl Φ) : At G Y d (pc) ls (vi b :: vi a :: st) M k sl Φ := by
  intro p e s m args below meth c H locs lz X hR hC hs hl hv hS
  have h2 := h p e s m args below meth c H locs lz X hR hC (cs_c (ii_c _) (cs_t (cs_t hs))) hl hv hS
  refine lv_ishr X.1 X.2.1 hd ?_
  rw [show Int32.ofInt a >>> (Int32.ofInt b &&& 31) = Int32.ofInt (jshr a b) from (Int32.ofInt_toInt _).symm]
  exact h2
theorem At.iushr {G : GG} {Y : YY} {d pc : Nat} {ls : List (Nat × VV)} {st : List VV} {M : MM} {k sl : Nat} {Φ : Option VV → MM → Prop} {a b : Int} (hd : decode Y.2.1 pc = .ok (.iushr, 1))  (h : At G Y d (pc + 1) ls (vi (jushr a b) :: st) M k sl Φ) : At G Y d (pc) ls (vi b :: vi a :: st) M k sl Φ := by
  intro p e s m args below meth c H locs lz X hR hC hs hl hv hS
  have h2 := h p e s m args below meth c H locs lz X hR hC (cs_c (ii_c _) (cs_t (cs_t hs))) hl hv hS
  refine lv_iushr X.1 X.2.1 hd (v := Int32.ofInt (jushr a b)) (Int32.ofInt_toInt _).symm ?_
  exact h2
theorem At.ladd {G : GG} {Y : YY} {d pc : Nat} {ls : List (Nat × VV)} {st : List VV} {M : MM} {k sl : Nat} {Φ : Option VV → MM → Prop} {a b : Int} (hd : decode Y.2.1 pc = .ok (.ladd, 1))  (h : At G Y d (pc + 1) ls (vl (w64 (a + b)) :: st) M k sl Φ) : At G Y d (pc) ls (vl b :: vl a :: st) M k sl Φ := by
  intro p e s m args below meth c H locs lz X hR hC hs hl hv hS
  have h2 := h p e s m args below meth c H locs lz X hR hC (cs_c (w64_c _) (cs_t (cs_t hs))) hl hv hS
  refine lv_ladd X.1 X.2.1 hd ?_
  rw [show Int64.ofInt a + Int64.ofInt b = Int64.ofInt (w64 (a + b)) by rw [ll_w, Int64.ofInt_add]]
  exact h2
theorem At.lsub {G : GG} {Y : YY} {d pc : Nat} {ls : List (Nat × VV)} {st : List VV} {M : MM} {k sl : Nat} {Φ : Option VV → MM → Prop} {a b : Int} (hd : decode Y.2.1 pc = .ok (.lsub, 1))  (h : At G Y d (pc + 1) ls (vl (w64 (a - b)) :: st) M k sl Φ) : At G Y d (pc) ls (vl b :: vl a :: st) M k sl Φ := by
  intro p e s m args below meth c H locs lz X hR hC hs hl hv hS
  have h2 := h p e s m args below meth c H locs lz X hR hC (cs_c (w64_c _) (cs_t (cs_t hs))) hl hv hS
  refine lv_lsub X.1 X.2.1 hd ?_
  rw [show Int64.ofInt a - Int64.ofInt b = Int64.ofInt (w64 (a - b)) by rw [ll_w, Int64.ofInt_sub]]
  exact h2
theorem At.lmul {G : GG} {Y : YY} {d pc : Nat} {ls : List (Nat × VV)} {st : List VV} {M : MM} {k sl : Nat} {Φ : Option VV → MM → Prop} {a b : Int} (hd : decode Y.2.1 pc = .ok (.lmul, 1))  (h : At G Y d (pc + 1) ls (vl (w64 (a * b)) :: st) M k sl Φ) : At G Y d (pc) ls (vl b :: vl a :: st) M k sl Φ := by
  intro p e s m args below meth c H locs lz X hR hC hs hl hv hS
  have h2 := h p e s m args below meth c H locs lz X hR hC (cs_c (w64_c _) (cs_t (cs_t hs))) hl hv hS
  refine lv_lmul X.1 X.2.1 hd ?_
  rw [show Int64.ofInt a * Int64.ofInt b = Int64.ofInt (w64 (a * b)) by rw [ll_w, Int64.ofInt_mul]]
  exact h2
theorem At.land {G : GG} {Y : YY} {d pc : Nat} {ls : List (Nat × VV)} {st : List VV} {M : MM} {k sl : Nat} {Φ : Option VV → MM → Prop} {a b : Int} (hd : decode Y.2.1 pc = .ok (.land, 1))  (h : At G Y d (pc + 1) ls (vl (kand a b) :: st) M k sl Φ) : At G Y d (pc) ls (vl b :: vl a :: st) M k sl Φ := by
  intro p e s m args below meth c H locs lz X hR hC hs hl hv hS
  have h2 := h p e s m args below meth c H locs lz X hR hC (cs_c (ll_c _) (cs_t (cs_t hs))) hl hv hS
  refine lv_land X.1 X.2.1 hd ?_
  rw [show Int64.ofInt a &&& Int64.ofInt b = Int64.ofInt (kand a b) from (Int64.ofInt_toInt _).symm]
  exact h2
theorem At.lor {G : GG} {Y : YY} {d pc : Nat} {ls : List (Nat × VV)} {st : List VV} {M : MM} {k sl : Nat} {Φ : Option VV → MM → Prop} {a b : Int} (hd : decode Y.2.1 pc = .ok (.lor, 1))  (h : At G Y d (pc + 1) ls (vl (kor a b) :: st) M k sl Φ) : At G Y d (pc) ls (vl b :: vl a :: st) M k sl Φ := by
  intro p e s m args below meth c H locs lz X hR hC hs hl hv hS
  have h2 := h p e s m args below meth c H locs lz X hR hC (cs_c (ll_c _) (cs_t (cs_t hs))) hl hv hS
  refine lv_lor X.1 X.2.1 hd ?_
  rw [show Int64.ofInt a ||| Int64.ofInt b = Int64.ofInt (kor a b) from (Int64.ofInt_toInt _).symm]
  exact h2
theorem At.lshl {G : GG} {Y : YY} {d pc : Nat} {ls : List (Nat × VV)} {st : List VV} {M : MM} {k sl : Nat} {Φ : Option VV → MM → Prop} {a b : Int} (hd : decode Y.2.1 pc = .ok (.lshl, 1))  (h : At G Y d (pc + 1) ls (vl (kshl a b) :: st) M k sl Φ) : At G Y d (pc) ls (vi b :: vl a :: st) M k sl Φ := by
  intro p e s m args below meth c H locs lz X hR hC hs hl hv hS
  have h2 := h p e s m args below meth c H locs lz X hR hC (cs_c (ll_c _) (cs_t (cs_t hs))) hl hv hS
  refine lv_lshl X.1 X.2.1 hd (v := Int64.ofInt (kshl a b)) (Int64.ofInt_toInt _).symm ?_
  exact h2
theorem At.lshr {G : GG} {Y : YY} {d pc : Nat} {ls : List (Nat × VV)} {st : List VV} {M : MM} {k sl : Nat} {Φ : Option VV → MM → Prop} {a b : Int} (hd : decode Y.2.1 pc = .ok (.lshr, 1))  (h : At G Y d (pc + 1) ls (vl (kshr a b) :: st) M k sl Φ) : At G Y d (pc) ls (vi b :: vl a :: st) M k sl Φ := by
  intro p e s m args below meth c H locs lz X hR hC hs hl hv hS
  have h2 := h p e s m args below meth c H locs lz X hR hC (cs_c (ll_c _) (cs_t (cs_t hs))) hl hv hS
  refine lv_lshr X.1 X.2.1 hd (v := Int64.ofInt (kshr a b)) (Int64.ofInt_toInt _).symm ?_
  exact h2
theorem At.idiv {G : GG} {Y : YY} {d pc : Nat} {ls : List (Nat × VV)} {st : List VV} {M : MM} {k sl : Nat} {Φ : Option VV → MM → Prop} {a b : Int}  (hd : decode Y.2.1 pc = .ok (.idiv, 1)) (hb : b ≠ 0) (h : At G Y d (pc + 1) ls (vi (w32 (a.tdiv b)) :: st) M k sl Φ) : At G Y d (pc) ls (vi b :: vi a :: st) M k sl Φ := by
  intro p e s m args below meth c H locs lz X hR hC hs hl hv hS
  have h2 := h p e s m args below meth c H locs lz X hR hC (cs_c (w32_c _) (cs_t (cs_t hs))) hl hv hS
  refine lv_idiv X.1 X.2.1 hd (by rw [← ii_0, ii_inj (cs_h hs) cI_0]; exact hb) ?_
  rw [ii_div (cs_h (cs_t hs)) (cs_h hs)]
  exact h2
theorem At.irem {G : GG} {Y : YY} {d pc : Nat} {ls : List (Nat × VV)} {st : List VV} {M : MM} {k sl : Nat} {Φ : Option VV → MM → Prop} {a b : Int}  (hd : decode Y.2.1 pc = .ok (.irem, 1)) (hb : b ≠ 0) (h : At G Y d (pc + 1) ls (vi (a.tmod b) :: st) M k sl Φ) : At G Y d (pc) ls (vi b :: vi a :: st) M k sl Φ := by
  intro p e s m args below meth c H locs lz X hR hC hs hl hv hS
  have h2 := h p e s m args below meth c H locs lz X hR hC (cs_c (tmod_c (cs_h (cs_t hs))) (cs_t (cs_t hs))) hl hv hS
  refine lv_irem X.1 X.2.1 hd (by rw [← ii_0, ii_inj (cs_h hs) cI_0]; exact hb) ?_
  rw [ii_rem (cs_h (cs_t hs)) (cs_h hs)]
  exact h2
theorem At.ldiv {G : GG} {Y : YY} {d pc : Nat} {ls : List (Nat × VV)} {st : List VV} {M : MM} {k sl : Nat} {Φ : Option VV → MM → Prop} {a b : Int}  (hd : decode Y.2.1 pc = .ok (.ldiv, 1)) (hb : b ≠ 0) (h : At G Y d (pc + 1) ls (vl (w64 (a.tdiv b)) :: st) M k sl Φ) : At G Y d (pc) ls (vl b :: vl a :: st) M k sl Φ := by
  intro p e s m args below meth c H locs lz X hR hC hs hl hv hS
  have h2 := h p e s m args below meth c H locs lz X hR hC (cs_c (w64_c _) (cs_t (cs_t hs))) hl hv hS
  refine lv_ldiv X.1 X.2.1 hd (by rw [← ll_0, ll_inj (cs_h hs) cL_0]; exact hb) ?_
  rw [ll_div (cs_h (cs_t hs)) (cs_h hs)]
  exact h2
theorem At.lrem {G : GG} {Y : YY} {d pc : Nat} {ls : List (Nat × VV)} {st : List VV} {M : MM} {k sl : Nat} {Φ : Option VV → MM → Prop} {a b : Int}  (hd : decode Y.2.1 pc = .ok (.lrem, 1)) (hb : b ≠ 0) (h : At G Y d (pc + 1) ls (vl (a.tmod b) :: st) M k sl Φ) : At G Y d (pc) ls (vl b :: vl a :: st) M k sl Φ := by
  intro p e s m args below meth c H locs lz X hR hC hs hl hv hS
  have h2 := h p e s m args below meth c H locs lz X hR hC (cs_c (tmod_cL (cs_h (cs_t hs))) (cs_t (cs_t hs))) hl hv hS
  refine lv_lrem X.1 X.2.1 hd (by rw [← ll_0, ll_inj (cs_h hs) cL_0]; exact hb) ?_
  rw [ll_rem (cs_h (cs_t hs)) (cs_h hs)]
  exact h2
theorem At.ineg {G : GG} {Y : YY} {d pc : Nat} {ls : List (Nat × VV)} {st : List VV} {M : MM} {k sl : Nat} {Φ : Option VV → MM → Prop} {a : Int} (hd : decode Y.2.1 pc = .ok (.ineg, 1))  (h : At G Y d (pc + 1) ls (vi (w32 (-a)) :: st) M k sl Φ) : At G Y d (pc) ls (vi a :: st) M k sl Φ := by
  intro p e s m args below meth c H locs lz X hR hC hs hl hv hS
  have h2 := h p e s m args below meth c H locs lz X hR hC (cs_c (w32_c _) (cs_t hs)) hl hv hS
  refine lv_ineg X.1 X.2.1 hd ?_
  rw [show -Int32.ofInt a = Int32.ofInt (w32 (-a)) by rw [ii_w, Int32.ofInt_neg]]
  exact h2
theorem At.i2l {G : GG} {Y : YY} {d pc : Nat} {ls : List (Nat × VV)} {st : List VV} {M : MM} {k sl : Nat} {Φ : Option VV → MM → Prop} {a : Int} (hd : decode Y.2.1 pc = .ok (.i2l, 1))  (h : At G Y d (pc + 1) ls (vl a :: st) M k sl Φ) : At G Y d (pc) ls (vi a :: st) M k sl Φ := by
  intro p e s m args below meth c H locs lz X hR hC hs hl hv hS
  have h2 := h p e s m args below meth c H locs lz X hR hC (cs_c (cI_L (cs_h hs)) (cs_t hs)) hl hv hS
  refine lv_i2l X.1 X.2.1 hd (v := Int64.ofInt a) (by rw [← Int64.toInt_inj, Int32.toInt_toInt64, ii_to (cs_h hs), ll_to (cI_L (cs_h hs))]) ?_
  exact h2
theorem At.l2i {G : GG} {Y : YY} {d pc : Nat} {ls : List (Nat × VV)} {st : List VV} {M : MM} {k sl : Nat} {Φ : Option VV → MM → Prop} {a : Int} (hd : decode Y.2.1 pc = .ok (.l2i, 1))  (h : At G Y d (pc + 1) ls (vi (w32 a) :: st) M k sl Φ) : At G Y d (pc) ls (vl a :: st) M k sl Φ := by
  intro p e s m args below meth c H locs lz X hR hC hs hl hv hS
  have h2 := h p e s m args below meth c H locs lz X hR hC (cs_c (w32_c _) (cs_t hs)) hl hv hS
  refine lv_l2i X.1 X.2.1 hd (v := Int32.ofInt (w32 a)) (by rw [ii_w, ← Int32.toInt_inj, Int64.toInt_toInt32, ll_to (cs_h hs), Int32.toInt_ofInt]) ?_
  exact h2
theorem At.i2b {G : GG} {Y : YY} {d pc : Nat} {ls : List (Nat × VV)} {st : List VV} {M : MM} {k sl : Nat} {Φ : Option VV → MM → Prop} {a : Int} (hd : decode Y.2.1 pc = .ok (.i2b, 1))  (h : At G Y d (pc + 1) ls (vi (jb a) :: st) M k sl Φ) : At G Y d (pc) ls (vi a :: st) M k sl Φ := by
  intro p e s m args below meth c H locs lz X hR hC hs hl hv hS
  have h2 := h p e s m args below meth c H locs lz X hR hC (cs_c (ii_c _) (cs_t hs)) hl hv hS
  refine lv_i2b X.1 X.2.1 hd (v := Int32.ofInt (jb a)) (Int32.ofInt_toInt _).symm ?_
  exact h2
theorem At.i2s {G : GG} {Y : YY} {d pc : Nat} {ls : List (Nat × VV)} {st : List VV} {M : MM} {k sl : Nat} {Φ : Option VV → MM → Prop} {a : Int} (hd : decode Y.2.1 pc = .ok (.i2s, 1))  (h : At G Y d (pc + 1) ls (vi (js a) :: st) M k sl Φ) : At G Y d (pc) ls (vi a :: st) M k sl Φ := by
  intro p e s m args below meth c H locs lz X hR hC hs hl hv hS
  have h2 := h p e s m args below meth c H locs lz X hR hC (cs_c (ii_c _) (cs_t hs)) hl hv hS
  refine lv_i2s X.1 X.2.1 hd (v := Int32.ofInt (js a)) (Int32.ofInt_toInt _).symm ?_
  exact h2
theorem At.i2c {G : GG} {Y : YY} {d pc : Nat} {ls : List (Nat × VV)} {st : List VV} {M : MM} {k sl : Nat} {Φ : Option VV → MM → Prop} {a : Int} (hd : decode Y.2.1 pc = .ok (.i2c, 1))  (h : At G Y d (pc + 1) ls (vi (jc a) :: st) M k sl Φ) : At G Y d (pc) ls (vi a :: st) M k sl Φ := by
  intro p e s m args below meth c H locs lz X hR hC hs hl hv hS
  have h2 := h p e s m args below meth c H locs lz X hR hC (cs_c (ii_c _) (cs_t hs)) hl hv hS
  refine lv_i2c X.1 X.2.1 hd (v := Int32.ofInt (jc a)) (Int32.ofInt_toInt _).symm ?_
  exact h2
theorem At.lcmp {G : GG} {Y : YY} {d pc : Nat} {ls : List (Nat × VV)} {st : List VV} {M : MM} {k sl : Nat} {Φ : Option VV → MM → Prop} {a b : Int} (hd : decode Y.2.1 pc = .ok (.lcmp, 1))  (h : At G Y d (pc + 1) ls (vi (lc a b) :: st) M k sl Φ) : At G Y d (pc) ls (vl b :: vl a :: st) M k sl Φ := by
  intro p e s m args below meth c H locs lz X hR hC hs hl hv hS
  have h2 := h p e s m args below meth c H locs lz X hR hC (cs_c (lc_c _ _) (cs_t (cs_t hs))) hl hv hS
  refine W.lcmp X.1 X.2.1 hd ?_
  rw [lc_eq (cs_h (cs_t hs)) (cs_h hs)]
  exact h2
theorem At.iconst {G : GG} {Y : YY} {d pc : Nat} {ls : List (Nat × VV)} {st : List VV} {M : MM} {k sl : Nat} {Φ : Option VV → MM → Prop} {n : Int}  (hd : decode Y.2.1 pc = .ok (.iconst n, 1)) (hc : -2147483648 ≤ n ∧ n < 2147483648) (h : At G Y d (pc + 1) ls (vi n :: st) M k sl Φ) : At G Y d (pc) ls (st) M k sl Φ := by
  intro p e s m args below meth c H locs lz X hR hC hs hl hv hS
  have h2 := h p e s m args below meth c H locs lz X hR hC (cs_c hc hs) hl hv hS
  refine lv_iconst X.1 X.2.1 hd (v := Int32.ofInt n) rfl ?_
  exact h2
theorem At.bipush {G : GG} {Y : YY} {d pc : Nat} {ls : List (Nat × VV)} {st : List VV} {M : MM} {k sl : Nat} {Φ : Option VV → MM → Prop} {n : Int}  (hd : decode Y.2.1 pc = .ok (.bipush n, 2)) (hc : -128 ≤ n ∧ n < 128) (h : At G Y d (pc + 2) ls (vi n :: st) M k sl Φ) : At G Y d (pc) ls (st) M k sl Φ := by
  intro p e s m args below meth c H locs lz X hR hC hs hl hv hS
  have h2 := h p e s m args below meth c H locs lz X hR hC (cs_c (show cI n by unfold cI; omega) hs) hl hv hS
  refine lv_bipush X.1 X.2.1 hd (v := Int32.ofInt n) (by rw [← Int32.toInt_inj, Int8.toInt_toInt32, Int8.toInt_ofInt_of_le hc.1 hc.2, ii_to (by unfold cI; omega)]) ?_
  exact h2
theorem At.sipush {G : GG} {Y : YY} {d pc : Nat} {ls : List (Nat × VV)} {st : List VV} {M : MM} {k sl : Nat} {Φ : Option VV → MM → Prop} {n : Int}  (hd : decode Y.2.1 pc = .ok (.sipush n, 3)) (hc : -32768 ≤ n ∧ n < 32768) (h : At G Y d (pc + 3) ls (vi n :: st) M k sl Φ) : At G Y d (pc) ls (st) M k sl Φ := by
  intro p e s m args below meth c H locs lz X hR hC hs hl hv hS
  have h2 := h p e s m args below meth c H locs lz X hR hC (cs_c (show cI n by unfold cI; omega) hs) hl hv hS
  refine lv_sipush X.1 X.2.1 hd (v := Int32.ofInt n) (by rw [← Int32.toInt_inj, Int16.toInt_toInt32, Int16.toInt_ofInt_of_le hc.1 hc.2, ii_to (by unfold cI; omega)]) ?_
  exact h2
theorem At.lconst0 {G : GG} {Y : YY} {d pc : Nat} {ls : List (Nat × VV)} {st : List VV} {M : MM} {k sl : Nat} {Φ : Option VV → MM → Prop}  (hd : decode Y.2.1 pc = .ok (.lconst 0, 1))  (h : At G Y d (pc + 1) ls (vl 0 :: st) M k sl Φ) : At G Y d (pc) ls (st) M k sl Φ := by
  intro p e s m args below meth c H locs lz X hR hC hs hl hv hS
  have h2 := h p e s m args below meth c H locs lz X hR hC (cs_c cL_0 hs) hl hv hS
  refine lv_lconst X.1 X.2.1 hd (v := Int64.ofInt 0) rfl ?_
  exact h2
theorem At.lconst1 {G : GG} {Y : YY} {d pc : Nat} {ls : List (Nat × VV)} {st : List VV} {M : MM} {k sl : Nat} {Φ : Option VV → MM → Prop}  (hd : decode Y.2.1 pc = .ok (.lconst 1, 1))  (h : At G Y d (pc + 1) ls (vl 1 :: st) M k sl Φ) : At G Y d (pc) ls (st) M k sl Φ := by
  intro p e s m args below meth c H locs lz X hR hC hs hl hv hS
  have h2 := h p e s m args below meth c H locs lz X hR hC (cs_c (show cL 1 by unfold cL; omega) hs) hl hv hS
  refine lv_lconst X.1 X.2.1 hd (v := Int64.ofInt 1) rfl ?_
  exact h2
theorem At.ldc {G : GG} {Y : YY} {d pc : Nat} {ls : List (Nat × VV)} {st : List VV} {M : MM} {k sl : Nat} {Φ : Option VV → MM → Prop} {n : Nat} {v : Int}  (hd : decode Y.2.1 pc = .ok (.ldc n, 2)) (hw : Cond.constant Y.1.cls n (Int32.ofInt v) ∈ lw_good) (hc : -2147483648 ≤ v ∧ v < 2147483648) (h : At G Y d (pc + 2) ls (vi v :: st) M k sl Φ) : At G Y d (pc) ls (st) M k sl Φ := by
  intro p e s m args below meth c H locs lz X hR hC hs hl hv hS
  have h2 := h p e s m args below meth c H locs lz X hR hC (cs_c hc hs) hl hv hS
  refine lv_ldc X.1 X.2.1 X.2.2.2.2.2.1 (X.2.2.2.2.2.2.2.1 _ hw) hd ?_
  exact h2
theorem At.ldcw {G : GG} {Y : YY} {d pc : Nat} {ls : List (Nat × VV)} {st : List VV} {M : MM} {k sl : Nat} {Φ : Option VV → MM → Prop} {n : Nat} {v : Int}  (hd : decode Y.2.1 pc = .ok (.ldc_w n, 3)) (hw : Cond.constant Y.1.cls n (Int32.ofInt v) ∈ lw_good) (hc : -2147483648 ≤ v ∧ v < 2147483648) (h : At G Y d (pc + 3) ls (vi v :: st) M k sl Φ) : At G Y d (pc) ls (st) M k sl Φ := by
  intro p e s m args below meth c H locs lz X hR hC hs hl hv hS
  have h2 := h p e s m args below meth c H locs lz X hR hC (cs_c hc hs) hl hv hS
  refine lv_ldcw X.1 X.2.1 X.2.2.2.2.2.1 (X.2.2.2.2.2.2.2.1 _ hw) hd ?_
  exact h2
theorem At.ldc2 {G : GG} {Y : YY} {d pc : Nat} {ls : List (Nat × VV)} {st : List VV} {M : MM} {k sl : Nat} {Φ : Option VV → MM → Prop} {n : Nat} {v : Int}  (hd : decode Y.2.1 pc = .ok (.ldc2_w n, 3)) (hw : Cond.constantLong Y.1.cls n (Int64.ofInt v) ∈ lw_good) (hc : -9223372036854775808 ≤ v ∧ v < 9223372036854775808) (h : At G Y d (pc + 3) ls (vl v :: st) M k sl Φ) : At G Y d (pc) ls (st) M k sl Φ := by
  intro p e s m args below meth c H locs lz X hR hC hs hl hv hS
  have h2 := h p e s m args below meth c H locs lz X hR hC (cs_c hc hs) hl hv hS
  refine lv_ldc2 X.1 X.2.1 X.2.2.2.2.2.1 (X.2.2.2.2.2.2.2.1 _ hw) hd ?_
  exact h2
theorem At.null {G : GG} {Y : YY} {d pc : Nat} {ls : List (Nat × VV)} {st : List VV} {M : MM} {k sl : Nat} {Φ : Option VV → MM → Prop}  (hd : decode Y.2.1 pc = .ok (.aconst_null, 1))  (h : At G Y d (pc + 1) ls (vr 0 :: st) M k sl Φ) : At G Y d (pc) ls (st) M k sl Φ := by
  intro p e s m args below meth c H locs lz X hR hC hs hl hv hS
  have h2 := h p e s m args below meth c H locs lz X hR hC (cs_c trivial hs) hl hv hS
  refine lv_null X.1 X.2.1 hd ?_
  exact h2
theorem At.iload {G : GG} {Y : YY} {d pc : Nat} {ls : List (Nat × VV)} {st : List VV} {M : MM} {k sl : Nat} {Φ : Option VV → MM → Prop} {i : Nat} {z : Int}  (hd : decode Y.2.1 pc = .ok (.iload i, 2)) (hg : lg ls i = some (vi z)) (h : At G Y d (pc + 2) ls (vi z :: st) M k sl Φ) : At G Y d (pc) ls (st) M k sl Φ := by
  intro p e s m args below meth c H locs lz X hR hC hs hl hv hS
  have h2 := h p e s m args below meth c H locs lz X hR hC (cs_c (lg_c hl hg) hs) hl hv hS
  refine lv_iload X.1 X.2.1 hd (lg_at hv hg) ?_
  exact h2
theorem At.iloadn {G : GG} {Y : YY} {d pc : Nat} {ls : List (Nat × VV)} {st : List VV} {M : MM} {k sl : Nat} {Φ : Option VV → MM → Prop} {i : Fin 4} {z : Int}  (hd : decode Y.2.1 pc = .ok (.iload_n i, 1)) (hg : lg ls i.val = some (vi z)) (h : At G Y d (pc + 1) ls (vi z :: st) M k sl Φ) : At G Y d (pc) ls (st) M k sl Φ := by
  intro p e s m args below meth c H locs lz X hR hC hs hl hv hS
  have h2 := h p e s m args below meth c H locs lz X hR hC (cs_c (lg_c hl hg) hs) hl hv hS
  refine lv_iload_n X.1 X.2.1 hd rfl (lg_at hv hg) ?_
  exact h2
theorem At.lload {G : GG} {Y : YY} {d pc : Nat} {ls : List (Nat × VV)} {st : List VV} {M : MM} {k sl : Nat} {Φ : Option VV → MM → Prop} {i : Nat} {z : Int}  (hd : decode Y.2.1 pc = .ok (.lload i, 2)) (hg : lg ls i = some (vl z)) (h : At G Y d (pc + 2) ls (vl z :: st) M k sl Φ) : At G Y d (pc) ls (st) M k sl Φ := by
  intro p e s m args below meth c H locs lz X hR hC hs hl hv hS
  have h2 := h p e s m args below meth c H locs lz X hR hC (cs_c (lg_c hl hg) hs) hl hv hS
  refine lv_lload X.1 X.2.1 hd (lg_at hv hg) ?_
  exact h2
theorem At.lloadn {G : GG} {Y : YY} {d pc : Nat} {ls : List (Nat × VV)} {st : List VV} {M : MM} {k sl : Nat} {Φ : Option VV → MM → Prop} {i : Fin 4} {z : Int}  (hd : decode Y.2.1 pc = .ok (.lload_n i, 1)) (hg : lg ls i.val = some (vl z)) (h : At G Y d (pc + 1) ls (vl z :: st) M k sl Φ) : At G Y d (pc) ls (st) M k sl Φ := by
  intro p e s m args below meth c H locs lz X hR hC hs hl hv hS
  have h2 := h p e s m args below meth c H locs lz X hR hC (cs_c (lg_c hl hg) hs) hl hv hS
  refine lv_lload_n X.1 X.2.1 hd rfl (lg_at hv hg) ?_
  exact h2
theorem At.aload {G : GG} {Y : YY} {d pc : Nat} {ls : List (Nat × VV)} {st : List VV} {M : MM} {k sl : Nat} {Φ : Option VV → MM → Prop} {i : Nat} {r : Nat} (hd : decode Y.2.1 pc = .ok (.aload i, 2)) (hg : lg ls i = some (vr r)) (h : At G Y d (pc + 2) ls (vr r :: st) M k sl Φ) : At G Y d (pc) ls (st) M k sl Φ := by
  intro p e s m args below meth c H locs lz X hR hC hs hl hv hS
  have h2 := h p e s m args below meth c H locs lz X hR hC (cs_c (lg_c hl hg) hs) hl hv hS
  have g := lg_at hv hg
  by_cases hr : r = 0
  · subst hr
    rw [cv_0] at g
    refine lv_aloadN X.1 X.2.1 hd g ?_
    rw [List.map_cons, cv_0] at h2
    exact h2
  · rw [cv_r hr] at g
    refine lv_aload X.1 X.2.1 hd g ?_
    rw [List.map_cons, cv_r hr] at h2
    exact h2
theorem At.aloadn {G : GG} {Y : YY} {d pc : Nat} {ls : List (Nat × VV)} {st : List VV} {M : MM} {k sl : Nat} {Φ : Option VV → MM → Prop} {i : Fin 4} {r : Nat} (hd : decode Y.2.1 pc = .ok (.aload_n i, 1)) (hg : lg ls i.val = some (vr r)) (h : At G Y d (pc + 1) ls (vr r :: st) M k sl Φ) : At G Y d (pc) ls (st) M k sl Φ := by
  intro p e s m args below meth c H locs lz X hR hC hs hl hv hS
  have h2 := h p e s m args below meth c H locs lz X hR hC (cs_c (lg_c hl hg) hs) hl hv hS
  have g := lg_at hv hg
  by_cases hr : r = 0
  · subst hr
    rw [cv_0] at g
    refine lv_aload_nN X.1 X.2.1 hd rfl g ?_
    rw [List.map_cons, cv_0] at h2
    exact h2
  · rw [cv_r hr] at g
    refine lv_aload_n X.1 X.2.1 hd rfl g ?_
    rw [List.map_cons, cv_r hr] at h2
    exact h2
theorem At.istore {G : GG} {Y : YY} {d pc : Nat} {ls : List (Nat × VV)} {st : List VV} {M : MM} {k sl : Nat} {Φ : Option VV → MM → Prop} {i : Nat} {z : Int} {ls' : List (Nat × VV)} (hd : decode Y.2.1 pc = .ok (.istore i, 2)) (hn : i < Y.2.2.1) (hl' : st1 ls i (vi z) = ls') (h : At G Y d (pc + 2) ls' (st) M k sl Φ) : At G Y d (pc) ls (vi z :: st) M k sl Φ := by
  intro p e s m args below meth c H locs lz X hR hC hs hl hv hS
  subst hl'
  refine lv_istore X.1 X.2.1 hd hv hn (cvl_st1 G.ad ls i (vi z)) (fun lz hv => ?_)
  exact h p e s m args below meth c H locs lz X hR hC (cs_t hs) (st1_c hl (cs_h hs)) hv hS
theorem At.istoren {G : GG} {Y : YY} {d pc : Nat} {ls : List (Nat × VV)} {st : List VV} {M : MM} {k sl : Nat} {Φ : Option VV → MM → Prop} {i : Fin 4} {z : Int} {ls' : List (Nat × VV)} (hd : decode Y.2.1 pc = .ok (.istore_n i, 1)) (hn : i.val < Y.2.2.1) (hl' : st1 ls i.val (vi z) = ls') (h : At G Y d (pc + 1) ls' (st) M k sl Φ) : At G Y d (pc) ls (vi z :: st) M k sl Φ := by
  intro p e s m args below meth c H locs lz X hR hC hs hl hv hS
  subst hl'
  refine lv_istore_n X.1 X.2.1 hd rfl hv hn (cvl_st1 G.ad ls i.val (vi z)) (fun lz hv => ?_)
  exact h p e s m args below meth c H locs lz X hR hC (cs_t hs) (st1_c hl (cs_h hs)) hv hS
theorem At.lstore {G : GG} {Y : YY} {d pc : Nat} {ls : List (Nat × VV)} {st : List VV} {M : MM} {k sl : Nat} {Φ : Option VV → MM → Prop} {i : Nat} {z : Int} {ls' : List (Nat × VV)} (hd : decode Y.2.1 pc = .ok (.lstore i, 2)) (hn : i + 1 < Y.2.2.1) (hl' : st2 ls i (vl z) = ls') (h : At G Y d (pc + 2) ls' (st) M k sl Φ) : At G Y d (pc) ls (vl z :: st) M k sl Φ := by
  intro p e s m args below meth c H locs lz X hR hC hs hl hv hS
  subst hl'
  refine lv_lstore X.1 X.2.1 hd hv hn (cvl_st2 G.ad ls i (vl z)) (fun lz hv => ?_)
  exact h p e s m args below meth c H locs lz X hR hC (cs_t hs) (st2_c hl (cs_h hs)) hv hS
theorem At.lstoren {G : GG} {Y : YY} {d pc : Nat} {ls : List (Nat × VV)} {st : List VV} {M : MM} {k sl : Nat} {Φ : Option VV → MM → Prop} {i : Fin 4} {z : Int} {ls' : List (Nat × VV)} (hd : decode Y.2.1 pc = .ok (.lstore_n i, 1)) (hn : i.val + 1 < Y.2.2.1) (hl' : st2 ls i.val (vl z) = ls') (h : At G Y d (pc + 1) ls' (st) M k sl Φ) : At G Y d (pc) ls (vl z :: st) M k sl Φ := by
  intro p e s m args below meth c H locs lz X hR hC hs hl hv hS
  subst hl'
  refine lv_lstore_n X.1 X.2.1 hd rfl hv hn (cvl_st2 G.ad ls i.val (vl z)) (fun lz hv => ?_)
  exact h p e s m args below meth c H locs lz X hR hC (cs_t hs) (st2_c hl (cs_h hs)) hv hS
theorem At.astore {G : GG} {Y : YY} {d pc : Nat} {ls : List (Nat × VV)} {st : List VV} {M : MM} {k sl : Nat} {Φ : Option VV → MM → Prop} {i : Nat} {r : Nat} {ls' : List (Nat × VV)} (hd : decode Y.2.1 pc = .ok (.astore i, 2)) (hn : i < Y.2.2.1) (hl' : st1 ls i (vr r) = ls') (h : At G Y d (pc + 2) ls' (st) M k sl Φ) : At G Y d (pc) ls (vr r :: st) M k sl Φ := by
  intro p e s m args below meth c H locs lz X hR hC hs hl hv hS
  subst hl'
  have q := cvl_st1 G.ad ls i (vr r)
  have h2 := fun lz hv => h p e s m args below meth c H locs lz X hR hC (cs_t hs) (st1_c hl (cs_h hs)) hv hS
  by_cases hr : r = 0
  · subst hr
    rw [cv_0] at q
    rw [List.map_cons, cv_0]
    exact lv_astoreN X.1 X.2.1 hd hv hn q h2
  · rw [cv_r hr] at q
    rw [List.map_cons, cv_r hr]
    exact lv_astore X.1 X.2.1 hd hv hn q h2
theorem At.astoren {G : GG} {Y : YY} {d pc : Nat} {ls : List (Nat × VV)} {st : List VV} {M : MM} {k sl : Nat} {Φ : Option VV → MM → Prop} {i : Fin 4} {r : Nat} {ls' : List (Nat × VV)} (hd : decode Y.2.1 pc = .ok (.astore_n i, 1)) (hn : i.val < Y.2.2.1) (hl' : st1 ls i.val (vr r) = ls') (h : At G Y d (pc + 1) ls' (st) M k sl Φ) : At G Y d (pc) ls (vr r :: st) M k sl Φ := by
  intro p e s m args below meth c H locs lz X hR hC hs hl hv hS
  subst hl'
  have q := cvl_st1 G.ad ls i.val (vr r)
  have h2 := fun lz hv => h p e s m args below meth c H locs lz X hR hC (cs_t hs) (st1_c hl (cs_h hs)) hv hS
  by_cases hr : r = 0
  · subst hr
    rw [cv_0] at q
    rw [List.map_cons, cv_0]
    exact lv_astore_nN X.1 X.2.1 hd rfl hv hn q h2
  · rw [cv_r hr] at q
    rw [List.map_cons, cv_r hr]
    exact lv_astore_n X.1 X.2.1 hd rfl hv hn q h2
theorem At.iinc {G : GG} {Y : YY} {d pc : Nat} {ls : List (Nat × VV)} {st : List VV} {M : MM} {k sl : Nat} {Φ : Option VV → MM → Prop} {i : Nat} {z n : Int} {ls' : List (Nat × VV)} (hd : decode Y.2.1 pc = .ok (.iinc i n, 3)) (hg : lg ls i = some (vi z)) (hn : i < Y.2.2.1) (hl' : st1 ls i (vi (w32 (z + n))) = ls') (h : At G Y d (pc + 3) ls' (st) M k sl Φ) : At G Y d (pc) ls (st) M k sl Φ := by
  intro p e s m args below meth c H locs lz X hR hC hs hl hv hS
  subst hl'
  obtain ⟨j, hj⟩ := List.getElem?_of_mem (List.mem_map.mpr ⟨(i, vi z), lg_mem hg, rfl⟩ : (i, cv G.ad (vi z)) ∈ cvl G.ad ls)
  refine lv_iinc (v := Int32.ofInt (w32 (z + n))) X.1 X.2.1 hd hv hj (by rw [ii_w, Int32.ofInt_add]) hn (cvl_st1 G.ad ls i (vi (w32 (z + n)))) (fun lz hv => ?_)
  exact h p e s m args below meth c H locs lz X hR hC hs (st1_c hl (w32_c _)) hv hS
theorem At.dup {G : GG} {Y : YY} {d pc : Nat} {ls : List (Nat × VV)} {st : List VV} {M : MM} {k sl : Nat} {Φ : Option VV → MM → Prop} {v : VV} (h1 : is2 v = false) (hd : decode Y.2.1 pc = .ok (.dup, 1)) (h : At G Y d (pc + 1) ls (v :: v :: st) M k sl Φ) : At G Y d (pc) ls (v :: st) M k sl Φ := by
  intro p e s m args below meth c H locs lz X hR hC hs hl hv hS
  have h2 := h p e s m args below meth c H locs lz X hR hC (cs_c (cs_h hs) hs) hl hv hS
  refine lv_dup X.1 X.2.1 hd (by rw [cv_cat]; unfold cat; rw [h1]; rfl) ?_
  exact h2
theorem At.pop {G : GG} {Y : YY} {d pc : Nat} {ls : List (Nat × VV)} {st : List VV} {M : MM} {k sl : Nat} {Φ : Option VV → MM → Prop} {v : VV} (h1 : is2 v = false) (hd : decode Y.2.1 pc = .ok (.pop, 1)) (h : At G Y d (pc + 1) ls (st) M k sl Φ) : At G Y d (pc) ls (v :: st) M k sl Φ := by
  intro p e s m args below meth c H locs lz X hR hC hs hl hv hS
  have h2 := h p e s m args below meth c H locs lz X hR hC (cs_t hs) hl hv hS
  refine lv_pop X.1 X.2.1 hd (by rw [cv_cat]; unfold cat; rw [h1]; rfl) ?_
  exact h2
theorem At.dup2 {G : GG} {Y : YY} {d pc : Nat} {ls : List (Nat × VV)} {st : List VV} {M : MM} {k sl : Nat} {Φ : Option VV → MM → Prop} {v w : VV} (h1 : is2 v = false) (h0 : is2 w = false) (hd : decode Y.2.1 pc = .ok (.dup2, 1)) (h : At G Y d (pc + 1) ls (v :: w :: v :: w :: st) M k sl Φ) : At G Y d (pc) ls (v :: w :: st) M k sl Φ := by
  intro p e s m args below meth c H locs lz X hR hC hs hl hv hS
  have h2 := h p e s m args below meth c H locs lz X hR hC (cs_c (cs_h hs) (cs_c (cs_h (cs_t hs)) hs)) hl hv hS
  refine lv_dup2_11 X.1 X.2.1 hd (by rw [cv_cat]; unfold cat; rw [h1]; rfl) (by rw [cv_cat]; unfold cat; rw [h0]; rfl) ?_
  exact h2
theorem At.icmp_eq {G : GG} {Y : YY} {d pc : Nat} {ls : List (Nat × VV)} {st : List VV} {M : MM} {k sl : Nat} {Φ : Option VV → MM → Prop} {a b : Int} {off : Int} {tgt : Nat} (hd : decode Y.2.1 pc = .ok (.if_icmp .eq off, 3)) (ht : (pc : Int) + off = (tgt : Int)) (kt : a = b → At G Y d (tgt) ls (st) M k sl Φ) (kf : ¬ (a = b) → At G Y d (pc + 3) ls (st) M k sl Φ) : At G Y d (pc) ls (vi b :: vi a :: st) M k sl Φ := by
  intro p e s m args below meth c H locs lz X hR hC hs hl hv hS
  have e0 := ii_inj (cs_h (cs_t hs)) (cs_h hs)
  
  refine lv_icmp_eq X.1 X.2.1 hd ht (fun hc => kt ?_ p e s m args below meth c H locs lz X hR hC (cs_t (cs_t hs)) hl hv hS) (fun hc => kf ?_ p e s m args below meth c H locs lz X hR hC (cs_t (cs_t hs)) hl hv hS)
  · simpa only [e0, ne_eq, ge_iff_le, gt_iff_lt, Int32.not_le, Int32.not_lt] using hc
  · simpa only [e0, ne_eq, ge_iff_le, gt_iff_lt, Int32.not_le, Int32.not_lt] using hc
theorem At.icmp_eq_t {G : GG} {Y : YY} {d pc : Nat} {ls : List (Nat × VV)} {st : List VV} {M : MM} {k sl : Nat} {Φ : Option VV → MM → Prop} {a b : Int} {off : Int} {tgt : Nat} (hd : decode Y.2.1 pc = .ok (.if_icmp .eq off, 3)) (ht : (pc : Int) + off = (tgt : Int)) (hc : a = b) (h : At G Y d (tgt) ls (st) M k sl Φ) : At G Y d (pc) ls (vi b :: vi a :: st) M k sl Φ := At.icmp_eq hd ht (fun _ => h) (fun q => absurd hc q)
theorem At.icmp_eq_f {G : GG} {Y : YY} {d pc : Nat} {ls : List (Nat × VV)} {st : List VV} {M : MM} {k sl : Nat} {Φ : Option VV → MM → Prop} {a b : Int} {off : Int} {tgt : Nat} (hd : decode Y.2.1 pc = .ok (.if_icmp .eq off, 3)) (ht : (pc : Int) + off = (tgt : Int)) (hc : ¬ (a = b)) (h : At G Y d (pc + 3) ls (st) M k sl Φ) : At G Y d (pc) ls (vi b :: vi a :: st) M k sl Φ := At.icmp_eq hd ht (fun q => absurd q hc) (fun _ => h)
theorem At.icmp_ne {G : GG} {Y : YY} {d pc : Nat} {ls : List (Nat × VV)} {st : List VV} {M : MM} {k sl : Nat} {Φ : Option VV → MM → Prop} {a b : Int} {off : Int} {tgt : Nat} (hd : decode Y.2.1 pc = .ok (.if_icmp .ne off, 3)) (ht : (pc : Int) + off = (tgt : Int)) (kt : ¬ a = b → At G Y d (tgt) ls (st) M k sl Φ) (kf : a = b → At G Y d (pc + 3) ls (st) M k sl Φ) : At G Y d (pc) ls (vi b :: vi a :: st) M k sl Φ := by
  intro p e s m args below meth c H locs lz X hR hC hs hl hv hS
  have e0 := ii_inj (cs_h (cs_t hs)) (cs_h hs)
  
  refine lv_icmp_ne X.1 X.2.1 hd ht (fun hc => kt ?_ p e s m args below meth c H locs lz X hR hC (cs_t (cs_t hs)) hl hv hS) (fun hc => kf ?_ p e s m args below meth c H locs lz X hR hC (cs_t (cs_t hs)) hl hv hS)
  · simpa only [e0, ne_eq, ge_iff_le, gt_iff_lt, Int32.not_le, Int32.not_lt] using hc
  · simpa only [e0, ne_eq, ge_iff_le, gt_iff_lt, Int32.not_le, Int32.not_lt] using hc
theorem At.icmp_ne_t {G : GG} {Y : YY} {d pc : Nat} {ls : List (Nat × VV)} {st : List VV} {M : MM} {k sl : Nat} {Φ : Option VV → MM → Prop} {a b : Int} {off : Int} {tgt : Nat} (hd : decode Y.2.1 pc = .ok (.if_icmp .ne off, 3)) (ht : (pc : Int) + off = (tgt : Int)) (hc : ¬ a = b) (h : At G Y d (tgt) ls (st) M k sl Φ) : At G Y d (pc) ls (vi b :: vi a :: st) M k sl Φ := At.icmp_ne hd ht (fun _ => h) (fun q => absurd q hc)
theorem At.icmp_ne_f {G : GG} {Y : YY} {d pc : Nat} {ls : List (Nat × VV)} {st : List VV} {M : MM} {k sl : Nat} {Φ : Option VV → MM → Prop} {a b : Int} {off : Int} {tgt : Nat} (hd : decode Y.2.1 pc = .ok (.if_icmp .ne off, 3)) (ht : (pc : Int) + off = (tgt : Int)) (hc : a = b) (h : At G Y d (pc + 3) ls (st) M k sl Φ) : At G Y d (pc) ls (vi b :: vi a :: st) M k sl Φ := At.icmp_ne hd ht (fun q => absurd hc q) (fun _ => h)
theorem At.icmp_lt {G : GG} {Y : YY} {d pc : Nat} {ls : List (Nat × VV)} {st : List VV} {M : MM} {k sl : Nat} {Φ : Option VV → MM → Prop} {a b : Int} {off : Int} {tgt : Nat} (hd : decode Y.2.1 pc = .ok (.if_icmp .lt off, 3)) (ht : (pc : Int) + off = (tgt : Int)) (kt : a < b → At G Y d (tgt) ls (st) M k sl Φ) (kf : ¬ (a < b) → At G Y d (pc + 3) ls (st) M k sl Φ) : At G Y d (pc) ls (vi b :: vi a :: st) M k sl Φ := by
  intro p e s m args below meth c H locs lz X hR hC hs hl hv hS
  have e0 := ii_lt (cs_h (cs_t hs)) (cs_h hs)
  
  refine lv_icmp_lt X.1 X.2.1 hd ht (fun hc => kt ?_ p e s m args below meth c H locs lz X hR hC (cs_t (cs_t hs)) hl hv hS) (fun hc => kf ?_ p e s m args below meth c H locs lz X hR hC (cs_t (cs_t hs)) hl hv hS)
  · simpa only [e0, ne_eq, ge_iff_le, gt_iff_lt, Int32.not_le, Int32.not_lt] using hc
  · simpa only [e0, ne_eq, ge_iff_le, gt_iff_lt, Int32.not_le, Int32.not_lt] using hc
theorem At.icmp_lt_t {G : GG} {Y : YY} {d pc : Nat} {ls : List (Nat × VV)} {st : List VV} {M : MM} {k sl : Nat} {Φ : Option VV → MM → Prop} {a b : Int} {off : Int} {tgt : Nat} (hd : decode Y.2.1 pc = .ok (.if_icmp .lt off, 3)) (ht : (pc : Int) + off = (tgt : Int)) (hc : a < b) (h : At G Y d (tgt) ls (st) M k sl Φ) : At G Y d (pc) ls (vi b :: vi a :: st) M k sl Φ := At.icmp_lt hd ht (fun _ => h) (fun q => absurd hc q)
theorem At.icmp_lt_f {G : GG} {Y : YY} {d pc : Nat} {ls : List (Nat × VV)} {st : List VV} {M : MM} {k sl : Nat} {Φ : Option VV → MM → Prop} {a b : Int} {off : Int} {tgt : Nat} (hd : decode Y.2.1 pc = .ok (.if_icmp .lt off, 3)) (ht : (pc : Int) + off = (tgt : Int)) (hc : ¬ (a < b)) (h : At G Y d (pc + 3) ls (st) M k sl Φ) : At G Y d (pc) ls (vi b :: vi a :: st) M k sl Φ := At.icmp_lt hd ht (fun q => absurd q hc) (fun _ => h)
theorem At.icmp_ge {G : GG} {Y : YY} {d pc : Nat} {ls : List (Nat × VV)} {st : List VV} {M : MM} {k sl : Nat} {Φ : Option VV → MM → Prop} {a b : Int} {off : Int} {tgt : Nat} (hd : decode Y.2.1 pc = .ok (.if_icmp .ge off, 3)) (ht : (pc : Int) + off = (tgt : Int)) (kt : b ≤ a → At G Y d (tgt) ls (st) M k sl Φ) (kf : ¬ (b ≤ a) → At G Y d (pc + 3) ls (st) M k sl Φ) : At G Y d (pc) ls (vi b :: vi a :: st) M k sl Φ := by
  intro p e s m args below meth c H locs lz X hR hC hs hl hv hS
  have e0 := ii_le (cs_h hs) (cs_h (cs_t hs))
  
  refine lv_icmp_ge X.1 X.2.1 hd ht (fun hc => kt ?_ p e s m args below meth c H locs lz X hR hC (cs_t (cs_t hs)) hl hv hS) (fun hc => kf ?_ p e s m args below meth c H locs lz X hR hC (cs_t (cs_t hs)) hl hv hS)
  · simpa only [e0, ne_eq, ge_iff_le, gt_iff_lt, Int32.not_le, Int32.not_lt] using hc
  · simpa only [e0, ne_eq, ge_iff_le, gt_iff_lt, Int32.not_le, Int32.not_lt] using hc
theorem At.icmp_ge_t {G : GG} {Y : YY} {d pc : Nat} {ls : List (Nat × VV)} {st : List VV} {M : MM} {k sl : Nat} {Φ : Option VV → MM → Prop} {a b : Int} {off : Int} {tgt : Nat} (hd : decode Y.2.1 pc = .ok (.if_icmp .ge off, 3)) (ht : (pc : Int) + off = (tgt : Int)) (hc : b ≤ a) (h : At G Y d (tgt) ls (st) M k sl Φ) : At G Y d (pc) ls (vi b :: vi a :: st) M k sl Φ := At.icmp_ge hd ht (fun _ => h) (fun q => absurd hc q)
theorem At.icmp_ge_f {G : GG} {Y : YY} {d pc : Nat} {ls : List (Nat × VV)} {st : List VV} {M : MM} {k sl : Nat} {Φ : Option VV → MM → Prop} {a b : Int} {off : Int} {tgt : Nat} (hd : decode Y.2.1 pc = .ok (.if_icmp .ge off, 3)) (ht : (pc : Int) + off = (tgt : Int)) (hc : ¬ (b ≤ a)) (h : At G Y d (pc + 3) ls (st) M k sl Φ) : At G Y d (pc) ls (vi b :: vi a :: st) M k sl Φ := At.icmp_ge hd ht (fun q => absurd q hc) (fun _ => h)
theorem At.icmp_gt {G : GG} {Y : YY} {d pc : Nat} {ls : List (Nat × VV)} {st : List VV} {M : MM} {k sl : Nat} {Φ : Option VV → MM → Prop} {a b : Int} {off : Int} {tgt : Nat} (hd : decode Y.2.1 pc = .ok (.if_icmp .gt off, 3)) (ht : (pc : Int) + off = (tgt : Int)) (kt : b < a → At G Y d (tgt) ls (st) M k sl Φ) (kf : ¬ (b < a) → At G Y d (pc + 3) ls (st) M k sl Φ) : At G Y d (pc) ls (vi b :: vi a :: st) M k sl Φ := by
  intro p e s m args below meth c H locs lz X hR hC hs hl hv hS
  have e0 := ii_lt (cs_h hs) (cs_h (cs_t hs))
  
  refine lv_icmp_gt X.1 X.2.1 hd ht (fun hc => kt ?_ p e s m args below meth c H locs lz X hR hC (cs_t (cs_t hs)) hl hv hS) (fun hc => kf ?_ p e s m args below meth c H locs lz X hR hC (cs_t (cs_t hs)) hl hv hS)
  · simpa only [e0, ne_eq, ge_iff_le, gt_iff_lt, Int32.not_le, Int32.not_lt] using hc
  · simpa only [e0, ne_eq, ge_iff_le, gt_iff_lt, Int32.not_le, Int32.not_lt] using hc
theorem At.icmp_gt_t {G : GG} {Y : YY} {d pc : Nat} {ls : List (Nat × VV)} {st : List VV} {M : MM} {k sl : Nat} {Φ : Option VV → MM → Prop} {a b : Int} {off : Int} {tgt : Nat} (hd : decode Y.2.1 pc = .ok (.if_icmp .gt off, 3)) (ht : (pc : Int) + off = (tgt : Int)) (hc : b < a) (h : At G Y d (tgt) ls (st) M k sl Φ) : At G Y d (pc) ls (vi b :: vi a :: st) M k sl Φ := At.icmp_gt hd ht (fun _ => h) (fun q => absurd hc q)
theorem At.icmp_gt_f {G : GG} {Y : YY} {d pc : Nat} {ls : List (Nat × VV)} {st : List VV} {M : MM} {k sl : Nat} {Φ : Option VV → MM → Prop} {a b : Int} {off : Int} {tgt : Nat} (hd : decode Y.2.1 pc = .ok (.if_icmp .gt off, 3)) (ht : (pc : Int) + off = (tgt : Int)) (hc : ¬ (b < a)) (h : At G Y d (pc + 3) ls (st) M k sl Φ) : At G Y d (pc) ls (vi b :: vi a :: st) M k sl Φ := At.icmp_gt hd ht (fun q => absurd q hc) (fun _ => h)
theorem At.icmp_le {G : GG} {Y : YY} {d pc : Nat} {ls : List (Nat × VV)} {st : List VV} {M : MM} {k sl : Nat} {Φ : Option VV → MM → Prop} {a b : Int} {off : Int} {tgt : Nat} (hd : decode Y.2.1 pc = .ok (.if_icmp .le off, 3)) (ht : (pc : Int) + off = (tgt : Int)) (kt : a ≤ b → At G Y d (tgt) ls (st) M k sl Φ) (kf : ¬ (a ≤ b) → At G Y d (pc + 3) ls (st) M k sl Φ) : At G Y d (pc) ls (vi b :: vi a :: st) M k sl Φ := by
  intro p e s m args below meth c H locs lz X hR hC hs hl hv hS
  have e0 := ii_le (cs_h (cs_t hs)) (cs_h hs)
  
  refine lv_icmp_le X.1 X.2.1 hd ht (fun hc => kt ?_ p e s m args below meth c H locs lz X hR hC (cs_t (cs_t hs)) hl hv hS) (fun hc => kf ?_ p e s m args below meth c H locs lz X hR hC (cs_t (cs_t hs)) hl hv hS)
  · simpa only [e0, ne_eq, ge_iff_le, gt_iff_lt, Int32.not_le, Int32.not_lt] using hc
  · simpa only [e0, ne_eq, ge_iff_le, gt_iff_lt, Int32.not_le, Int32.not_lt] using hc
theorem At.icmp_le_t {G : GG} {Y : YY} {d pc : Nat} {ls : List (Nat × VV)} {st : List VV} {M : MM} {k sl : Nat} {Φ : Option VV → MM → Prop} {a b : Int} {off : Int} {tgt : Nat} (hd : decode Y.2.1 pc = .ok (.if_icmp .le off, 3)) (ht : (pc : Int) + off = (tgt : Int)) (hc : a ≤ b) (h : At G Y d (tgt) ls (st) M k sl Φ) : At G Y d (pc) ls (vi b :: vi a :: st) M k sl Φ := At.icmp_le hd ht (fun _ => h) (fun q => absurd hc q)
theorem At.icmp_le_f {G : GG} {Y : YY} {d pc : Nat} {ls : List (Nat × VV)} {st : List VV} {M : MM} {k sl : Nat} {Φ : Option VV → MM → Prop} {a b : Int} {off : Int} {tgt : Nat} (hd : decode Y.2.1 pc = .ok (.if_icmp .le off, 3)) (ht : (pc : Int) + off = (tgt : Int)) (hc : ¬ (a ≤ b)) (h : At G Y d (pc + 3) ls (st) M k sl Φ) : At G Y d (pc) ls (vi b :: vi a :: st) M k sl Φ := At.icmp_le hd ht (fun q => absurd q hc) (fun _ => h)
theorem At.if_eq {G : GG} {Y : YY} {d pc : Nat} {ls : List (Nat × VV)} {st : List VV} {M : MM} {k sl : Nat} {Φ : Option VV → MM → Prop} {a : Int} {off : Int} {tgt : Nat} (hd : decode Y.2.1 pc = .ok (.ifCond .eq off, 3)) (ht : (pc : Int) + off = (tgt : Int)) (kt : a = 0 → At G Y d (tgt) ls (st) M k sl Φ) (kf : ¬ (a = 0) → At G Y d (pc + 3) ls (st) M k sl Φ) : At G Y d (pc) ls (vi a :: st) M k sl Φ := by
  intro p e s m args below meth c H locs lz X hR hC hs hl hv hS
  have e0 := ii_inj (cs_h hs) cI_0
  rw [ii_0] at e0
  refine lv_if_eq X.1 X.2.1 hd ht (fun hc => kt ?_ p e s m args below meth c H locs lz X hR hC (cs_t hs) hl hv hS) (fun hc => kf ?_ p e s m args below meth c H locs lz X hR hC (cs_t hs) hl hv hS)
  · simpa only [e0, ne_eq, ge_iff_le, gt_iff_lt, Int32.not_le, Int32.not_lt] using hc
  · simpa only [e0, ne_eq, ge_iff_le, gt_iff_lt, Int32.not_le, Int32.not_lt] using hc
theorem At.if_eq_t {G : GG} {Y : YY} {d pc : Nat} {ls : List (Nat × VV)} {st : List VV} {M : MM} {k sl : Nat} {Φ : Option VV → MM → Prop} {a : Int} {off : Int} {tgt : Nat} (hd : decode Y.2.1 pc = .ok (.ifCond .eq off, 3)) (ht : (pc : Int) + off = (tgt : Int)) (hc : a = 0) (h : At G Y d (tgt) ls (st) M k sl Φ) : At G Y d (pc) ls (vi a :: st) M k sl Φ := At.if_eq hd ht (fun _ => h) (fun q => absurd hc q)
theorem At.if_eq_f {G : GG} {Y : YY} {d pc : Nat} {ls : List (Nat × VV)} {st : List VV} {M : MM} {k sl : Nat} {Φ : Option VV → MM → Prop} {a : Int} {off : Int} {tgt : Nat} (hd : decode Y.2.1 pc = .ok (.ifCond .eq off, 3)) (ht : (pc : Int) + off = (tgt : Int)) (hc : ¬ (a = 0)) (h : At G Y d (pc + 3) ls (st) M k sl Φ) : At G Y d (pc) ls (vi a :: st) M k sl Φ := At.if_eq hd ht (fun q => absurd q hc) (fun _ => h)
theorem At.if_ne {G : GG} {Y : YY} {d pc : Nat} {ls : List (Nat × VV)} {st : List VV} {M : MM} {k sl : Nat} {Φ : Option VV → MM → Prop} {a : Int} {off : Int} {tgt : Nat} (hd : decode Y.2.1 pc = .ok (.ifCond .ne off, 3)) (ht : (pc : Int) + off = (tgt : Int)) (kt : ¬ a = 0 → At G Y d (tgt) ls (st) M k sl Φ) (kf : a = 0 → At G Y d (pc + 3) ls (st) M k sl Φ) : At G Y d (pc) ls (vi a :: st) M k sl Φ := by
  intro p e s m args below meth c H locs lz X hR hC hs hl hv hS
  have e0 := ii_inj (cs_h hs) cI_0
  rw [ii_0] at e0
  refine lv_if_ne X.1 X.2.1 hd ht (fun hc => kt ?_ p e s m args below meth c H locs lz X hR hC (cs_t hs) hl hv hS) (fun hc => kf ?_ p e s m args below meth c H locs lz X hR hC (cs_t hs) hl hv hS)
  · simpa only [e0, ne_eq, ge_iff_le, gt_iff_lt, Int32.not_le, Int32.not_lt] using hc
  · simpa only [e0, ne_eq, ge_iff_le, gt_iff_lt, Int32.not_le, Int32.not_lt] using hc
theorem At.if_ne_t {G : GG} {Y : YY} {d pc : Nat} {ls : List (Nat × VV)} {st : List VV} {M : MM} {k sl : Nat} {Φ : Option VV → MM → Prop} {a : Int} {off : Int} {tgt : Nat} (hd : decode Y.2.1 pc = .ok (.ifCond .ne off, 3)) (ht : (pc : Int) + off = (tgt : Int)) (hc : ¬ a = 0) (h : At G Y d (tgt) ls (st) M k sl Φ) : At G Y d (pc) ls (vi a :: st) M k sl Φ := At.if_ne hd ht (fun _ => h) (fun q => absurd q hc)
theorem At.if_ne_f {G : GG} {Y : YY} {d pc : Nat} {ls : List (Nat × VV)} {st : List VV} {M : MM} {k sl : Nat} {Φ : Option VV → MM → Prop} {a : Int} {off : Int} {tgt : Nat} (hd : decode Y.2.1 pc = .ok (.ifCond .ne off, 3)) (ht : (pc : Int) + off = (tgt : Int)) (hc : a = 0) (h : At G Y d (pc + 3) ls (st) M k sl Φ) : At G Y d (pc) ls (vi a :: st) M k sl Φ := At.if_ne hd ht (fun q => absurd hc q) (fun _ => h)
theorem At.if_lt {G : GG} {Y : YY} {d pc : Nat} {ls : List (Nat × VV)} {st : List VV} {M : MM} {k sl : Nat} {Φ : Option VV → MM → Prop} {a : Int} {off : Int} {tgt : Nat} (hd : decode Y.2.1 pc = .ok (.ifCond .lt off, 3)) (ht : (pc : Int) + off = (tgt : Int)) (kt : a < 0 → At G Y d (tgt) ls (st) M k sl Φ) (kf : ¬ (a < 0) → At G Y d (pc + 3) ls (st) M k sl Φ) : At G Y d (pc) ls (vi a :: st) M k sl Φ := by
  intro p e s m args below meth c H locs lz X hR hC hs hl hv hS
  have e0 := ii_lt (cs_h hs) cI_0
  rw [ii_0] at e0
  refine lv_if_lt X.1 X.2.1 hd ht (fun hc => kt ?_ p e s m args below meth c H locs lz X hR hC (cs_t hs) hl hv hS) (fun hc => kf ?_ p e s m args below meth c H locs lz X hR hC (cs_t hs) hl hv hS)
  · simpa only [e0, ne_eq, ge_iff_le, gt_iff_lt, Int32.not_le, Int32.not_lt] using hc
  · simpa only [e0, ne_eq, ge_iff_le, gt_iff_lt, Int32.not_le, Int32.not_lt] using hc
theorem At.if_lt_t {G : GG} {Y : YY} {d pc : Nat} {ls : List (Nat × VV)} {st : List VV} {M : MM} {k sl : Nat} {Φ : Option VV → MM → Prop} {a : Int} {off : Int} {tgt : Nat} (hd : decode Y.2.1 pc = .ok (.ifCond .lt off, 3)) (ht : (pc : Int) + off = (tgt : Int)) (hc : a < 0) (h : At G Y d (tgt) ls (st) M k sl Φ) : At G Y d (pc) ls (vi a :: st) M k sl Φ := At.if_lt hd ht (fun _ => h) (fun q => absurd hc q)
theorem At.if_lt_f {G : GG} {Y : YY} {d pc : Nat} {ls : List (Nat × VV)} {st : List VV} {M : MM} {k sl : Nat} {Φ : Option VV → MM → Prop} {a : Int} {off : Int} {tgt : Nat} (hd : decode Y.2.1 pc = .ok (.ifCond .lt off, 3)) (ht : (pc : Int) + off = (tgt : Int)) (hc : ¬ (a < 0)) (h : At G Y d (pc + 3) ls (st) M k sl Φ) : At G Y d (pc) ls (vi a :: st) M k sl Φ := At.if_lt hd ht (fun q => absurd q hc) (fun _ => h)
theorem At.if_ge {G : GG} {Y : YY} {d pc : Nat} {ls : List (Nat × VV)} {st : List VV} {M : MM} {k sl : Nat} {Φ : Option VV → MM → Prop} {a : Int} {off : Int} {tgt : Nat} (hd : decode Y.2.1 pc = .ok (.ifCond .ge off, 3)) (ht : (pc : Int) + off = (tgt : Int)) (kt : 0 ≤ a → At G Y d (tgt) ls (st) M k sl Φ) (kf : ¬ (0 ≤ a) → At G Y d (pc + 3) ls (st) M k sl Φ) : At G Y d (pc) ls (vi a :: st) M k sl Φ := by
  intro p e s m args below meth c H locs lz X hR hC hs hl hv hS
  have e0 := ii_le cI_0 (cs_h hs)
  rw [ii_0] at e0
  refine lv_if_ge X.1 X.2.1 hd ht (fun hc => kt ?_ p e s m args below meth c H locs lz X hR hC (cs_t hs) hl hv hS) (fun hc => kf ?_ p e s m args below meth c H locs lz X hR hC (cs_t hs) hl hv hS)
  · simpa only [e0, ne_eq, ge_iff_le, gt_iff_lt, Int32.not_le, Int32.not_lt] using hc
  · simpa only [e0, ne_eq, ge_iff_le, gt_iff_lt, Int32.not_le, Int32.not_lt] using hc
theorem At.if_ge_t {G : GG} {Y : YY} {d pc : Nat} {ls : List (Nat × VV)} {st : List VV} {M : MM} {k sl : Nat} {Φ : Option VV → MM → Prop} {a : Int} {off : Int} {tgt : Nat} (hd : decode Y.2.1 pc = .ok (.ifCond .ge off, 3)) (ht : (pc : Int) + off = (tgt : Int)) (hc : 0 ≤ a) (h : At G Y d (tgt) ls (st) M k sl Φ) : At G Y d (pc) ls (vi a :: st) M k sl Φ := At.if_ge hd ht (fun _ => h) (fun q => absurd hc q)
theorem At.if_ge_f {G : GG} {Y : YY} {d pc : Nat} {ls : List (Nat × VV)} {st : List VV} {M : MM} {k sl : Nat} {Φ : Option VV → MM → Prop} {a : Int} {off : Int} {tgt : Nat} (hd : decode Y.2.1 pc = .ok (.ifCond .ge off, 3)) (ht : (pc : Int) + off = (tgt : Int)) (hc : ¬ (0 ≤ a)) (h : At G Y d (pc + 3) ls (st) M k sl Φ) : At G Y d (pc) ls (vi a :: st) M k sl Φ := At.if_ge hd ht (fun q => absurd q hc) (fun _ => h)
theorem At.if_gt {G : GG} {Y : YY} {d pc : Nat} {ls : List (Nat × VV)} {st : List VV} {M : MM} {k sl : Nat} {Φ : Option VV → MM → Prop} {a : Int} {off : Int} {tgt : Nat} (hd : decode Y.2.1 pc = .ok (.ifCond .gt off, 3)) (ht : (pc : Int) + off = (tgt : Int)) (kt : 0 < a → At G Y d (tgt) ls (st) M k sl Φ) (kf : ¬ (0 < a) → At G Y d (pc + 3) ls (st) M k sl Φ) : At G Y d (pc) ls (vi a :: st) M k sl Φ := by
  intro p e s m args below meth c H locs lz X hR hC hs hl hv hS
  have e0 := ii_lt cI_0 (cs_h hs)
  rw [ii_0] at e0
  refine lv_if_gt X.1 X.2.1 hd ht (fun hc => kt ?_ p e s m args below meth c H locs lz X hR hC (cs_t hs) hl hv hS) (fun hc => kf ?_ p e s m args below meth c H locs lz X hR hC (cs_t hs) hl hv hS)
  · simpa only [e0, ne_eq, ge_iff_le, gt_iff_lt, Int32.not_le, Int32.not_lt] using hc
  · simpa only [e0, ne_eq, ge_iff_le, gt_iff_lt, Int32.not_le, Int32.not_lt] using hc
theorem At.if_gt_t {G : GG} {Y : YY} {d pc : Nat} {ls : List (Nat × VV)} {st : List VV} {M : MM} {k sl : Nat} {Φ : Option VV → MM → Prop} {a : Int} {off : Int} {tgt : Nat} (hd : decode Y.2.1 pc = .ok (.ifCond .gt off, 3)) (ht : (pc : Int) + off = (tgt : Int)) (hc : 0 < a) (h : At G Y d (tgt) ls (st) M k sl Φ) : At G Y d (pc) ls (vi a :: st) M k sl Φ := At.if_gt hd ht (fun _ => h) (fun q => absurd hc q)
theorem At.if_gt_f {G : GG} {Y : YY} {d pc : Nat} {ls : List (Nat × VV)} {st : List VV} {M : MM} {k sl : Nat} {Φ : Option VV → MM → Prop} {a : Int} {off : Int} {tgt : Nat} (hd : decode Y.2.1 pc = .ok (.ifCond .gt off, 3)) (ht : (pc : Int) + off = (tgt : Int)) (hc : ¬ (0 < a)) (h : At G Y d (pc + 3) ls (st) M k sl Φ) : At G Y d (pc) ls (vi a :: st) M k sl Φ := At.if_gt hd ht (fun q => absurd q hc) (fun _ => h)
theorem At.if_le {G : GG} {Y : YY} {d pc : Nat} {ls : List (Nat × VV)} {st : List VV} {M : MM} {k sl : Nat} {Φ : Option VV → MM → Prop} {a : Int} {off : Int} {tgt : Nat} (hd : decode Y.2.1 pc = .ok (.ifCond .le off, 3)) (ht : (pc : Int) + off = (tgt : Int)) (kt : a ≤ 0 → At G Y d (tgt) ls (st) M k sl Φ) (kf : ¬ (a ≤ 0) → At G Y d (pc + 3) ls (st) M k sl Φ) : At G Y d (pc) ls (vi a :: st) M k sl Φ := by
  intro p e s m args below meth c H locs lz X hR hC hs hl hv hS
  have e0 := ii_le (cs_h hs) cI_0
  rw [ii_0] at e0
  refine lv_if_le X.1 X.2.1 hd ht (fun hc => kt ?_ p e s m args below meth c H locs lz X hR hC (cs_t hs) hl hv hS) (fun hc => kf ?_ p e s m args below meth c H locs lz X hR hC (cs_t hs) hl hv hS)
  · simpa only [e0, ne_eq, ge_iff_le, gt_iff_lt, Int32.not_le, Int32.not_lt] using hc
  · simpa only [e0, ne_eq, ge_iff_le, gt_iff_lt, Int32.not_le, Int32.not_lt] using hc
theorem At.if_le_t {G : GG} {Y : YY} {d pc : Nat} {ls : List (Nat × VV)} {st : List VV} {M : MM} {k sl : Nat} {Φ : Option VV → MM → Prop} {a : Int} {off : Int} {tgt : Nat} (hd : decode Y.2.1 pc = .ok (.ifCond .le off, 3)) (ht : (pc : Int) + off = (tgt : Int)) (hc : a ≤ 0) (h : At G Y d (tgt) ls (st) M k sl Φ) : At G Y d (pc) ls (vi a :: st) M k sl Φ := At.if_le hd ht (fun _ => h) (fun q => absurd hc q)
theorem At.if_le_f {G : GG} {Y : YY} {d pc : Nat} {ls : List (Nat × VV)} {st : List VV} {M : MM} {k sl : Nat} {Φ : Option VV → MM → Prop} {a : Int} {off : Int} {tgt : Nat} (hd : decode Y.2.1 pc = .ok (.ifCond .le off, 3)) (ht : (pc : Int) + off = (tgt : Int)) (hc : ¬ (a ≤ 0)) (h : At G Y d (pc + 3) ls (st) M k sl Φ) : At G Y d (pc) ls (vi a :: st) M k sl Φ := At.if_le hd ht (fun q => absurd q hc) (fun _ => h)
theorem At.goto {G : GG} {Y : YY} {d pc : Nat} {ls : List (Nat × VV)} {st : List VV} {M : MM} {k sl : Nat} {Φ : Option VV → MM → Prop} {off : Int} {tgt : Nat} (hd : decode Y.2.1 pc = .ok (.goto off, 3)) (ht : (pc : Int) + off = (tgt : Int)) (h : At G Y d (tgt) ls (st) M k sl Φ) : At G Y d (pc) ls (st) M k sl Φ := by
  intro p e s m args below meth c H locs lz X hR hC hs hl hv hS
  exact lv_goto X.1 X.2.1 hd ht (h p e s m args below meth c H locs lz X hR hC hs hl hv hS)
theorem At.ifnull {G : GG} {Y : YY} {d pc : Nat} {ls : List (Nat × VV)} {st : List VV} {M : MM} {k sl : Nat} {Φ : Option VV → MM → Prop} {r : Nat} {off : Int} {tgt : Nat} (hd : decode Y.2.1 pc = .ok (.ifnull off, 3)) (ht : (pc : Int) + off = (tgt : Int)) (kt : r = 0 → At G Y d (tgt) ls (st) M k sl Φ) (kf : ¬ r = 0 → At G Y d (pc + 3) ls (st) M k sl Φ) : At G Y d (pc) ls (vr r :: st) M k sl Φ := by
  intro p e s m args below meth c H locs lz X hR hC hs hl hv hS
  by_cases hr : r = 0
  · rw [List.map_cons, hr, cv_0]
    exact lv_ifnullN X.1 X.2.1 hd ht (kt hr p e s m args below meth c H locs lz X hR hC (cs_t hs) hl hv hS)
  · rw [List.map_cons, cv_r hr]
    exact lv_ifnull X.1 X.2.1 hd (kf hr p e s m args below meth c H locs lz X hR hC (cs_t hs) hl hv hS)
theorem At.ifnonnull {G : GG} {Y : YY} {d pc : Nat} {ls : List (Nat × VV)} {st : List VV} {M : MM} {k sl : Nat} {Φ : Option VV → MM → Prop} {r : Nat} {off : Int} {tgt : Nat} (hd : decode Y.2.1 pc = .ok (.ifnonnull off, 3)) (ht : (pc : Int) + off = (tgt : Int)) (kt : ¬ r = 0 → At G Y d (tgt) ls (st) M k sl Φ) (kf : r = 0 → At G Y d (pc + 3) ls (st) M k sl Φ) : At G Y d (pc) ls (vr r :: st) M k sl Φ := by
  intro p e s m args below meth c H locs lz X hR hC hs hl hv hS
  by_cases hr : r = 0
  · rw [List.map_cons, hr, cv_0]
    exact lv_ifnonnullN X.1 X.2.1 hd (kf hr p e s m args below meth c H locs lz X hR hC (cs_t hs) hl hv hS)
  · rw [List.map_cons, cv_r hr]
    exact lv_ifnonnull X.1 X.2.1 hd ht (kt hr p e s m args below meth c H locs lz X hR hC (cs_t hs) hl hv hS)
theorem At.ifnull_t {G : GG} {Y : YY} {d pc : Nat} {ls : List (Nat × VV)} {st : List VV} {M : MM} {k sl : Nat} {Φ : Option VV → MM → Prop} {r : Nat} {off : Int} {tgt : Nat} (hd : decode Y.2.1 pc = .ok (.ifnull off, 3)) (ht : (pc : Int) + off = (tgt : Int)) (hc : r = 0) (h : At G Y d (tgt) ls (st) M k sl Φ) : At G Y d (pc) ls (vr r :: st) M k sl Φ := At.ifnull hd ht (fun _ => h) (fun q => absurd hc q)
theorem At.ifnull_f {G : GG} {Y : YY} {d pc : Nat} {ls : List (Nat × VV)} {st : List VV} {M : MM} {k sl : Nat} {Φ : Option VV → MM → Prop} {r : Nat} {off : Int} {tgt : Nat} (hd : decode Y.2.1 pc = .ok (.ifnull off, 3)) (ht : (pc : Int) + off = (tgt : Int)) (hc : ¬ r = 0) (h : At G Y d (pc + 3) ls (st) M k sl Φ) : At G Y d (pc) ls (vr r :: st) M k sl Φ := At.ifnull hd ht (fun q => absurd q hc) (fun _ => h)
theorem At.ifnonnull_t {G : GG} {Y : YY} {d pc : Nat} {ls : List (Nat × VV)} {st : List VV} {M : MM} {k sl : Nat} {Φ : Option VV → MM → Prop} {r : Nat} {off : Int} {tgt : Nat} (hd : decode Y.2.1 pc = .ok (.ifnonnull off, 3)) (ht : (pc : Int) + off = (tgt : Int)) (hc : ¬ r = 0) (h : At G Y d (tgt) ls (st) M k sl Φ) : At G Y d (pc) ls (vr r :: st) M k sl Φ := At.ifnonnull hd ht (fun _ => h) (fun q => absurd q hc)
theorem At.ifnonnull_f {G : GG} {Y : YY} {d pc : Nat} {ls : List (Nat × VV)} {st : List VV} {M : MM} {k sl : Nat} {Φ : Option VV → MM → Prop} {r : Nat} {off : Int} {tgt : Nat} (hd : decode Y.2.1 pc = .ok (.ifnonnull off, 3)) (ht : (pc : Int) + off = (tgt : Int)) (hc : r = 0) (h : At G Y d (pc + 3) ls (st) M k sl Φ) : At G Y d (pc) ls (vr r :: st) M k sl Φ := At.ifnonnull hd ht (fun q => absurd hc q) (fun _ => h)
theorem bI_0 {b : Bool} : bI b = 0 ↔ ¬ b = true := by cases b <;> simp [bI]
theorem At.bifeq_t {G : GG} {Y : YY} {d pc : Nat} {ls : List (Nat × VV)} {st : List VV} {M : MM} {k sl : Nat} {Φ : Option VV → MM → Prop} {b : Bool} {off : Int} {tgt : Nat} (hd : decode Y.2.1 pc = .ok (.ifCond .eq off, 3)) (ht : (pc : Int) + off = (tgt : Int)) (hc : ¬ b = true) (h : At G Y d (tgt) ls (st) M k sl Φ) : At G Y d (pc) ls (vi (bI b) :: st) M k sl Φ := At.if_eq_t hd ht (bI_0.mpr hc) h
theorem At.bifeq_f {G : GG} {Y : YY} {d pc : Nat} {ls : List (Nat × VV)} {st : List VV} {M : MM} {k sl : Nat} {Φ : Option VV → MM → Prop} {b : Bool} {off : Int} {tgt : Nat} (hd : decode Y.2.1 pc = .ok (.ifCond .eq off, 3)) (ht : (pc : Int) + off = (tgt : Int)) (hc : b = true) (h : At G Y d (pc + 3) ls (st) M k sl Φ) : At G Y d (pc) ls (vi (bI b) :: st) M k sl Φ := At.if_eq_f hd ht (fun q => bI_0.mp q hc) h
theorem At.bifne_t {G : GG} {Y : YY} {d pc : Nat} {ls : List (Nat × VV)} {st : List VV} {M : MM} {k sl : Nat} {Φ : Option VV → MM → Prop} {b : Bool} {off : Int} {tgt : Nat} (hd : decode Y.2.1 pc = .ok (.ifCond .ne off, 3)) (ht : (pc : Int) + off = (tgt : Int)) (hc : b = true) (h : At G Y d (tgt) ls (st) M k sl Φ) : At G Y d (pc) ls (vi (bI b) :: st) M k sl Φ := At.if_ne_t hd ht (fun q => bI_0.mp q hc) h
theorem At.bifne_f {G : GG} {Y : YY} {d pc : Nat} {ls : List (Nat × VV)} {st : List VV} {M : MM} {k sl : Nat} {Φ : Option VV → MM → Prop} {b : Bool} {off : Int} {tgt : Nat} (hd : decode Y.2.1 pc = .ok (.ifCond .ne off, 3)) (ht : (pc : Int) + off = (tgt : Int)) (hc : ¬ b = true) (h : At G Y d (pc + 3) ls (st) M k sl Φ) : At G Y d (pc) ls (vi (bI b) :: st) M k sl Φ := At.if_ne_f hd ht (bI_0.mpr hc) h
theorem At.sub {G : GG} {Y : YY} {d pc : Nat} {ls : List (Nat × VV)} {st : List VV} {M : MM} {k sl : Nat} {Φ : Option VV → MM → Prop} {ls' : List (Nat × VV)} (ks : List Nat) (hk : ks.filterMap (fun k => ls[k]?) = ls') (h : At G Y d (pc) ls' (st) M k sl Φ) : At G Y d (pc) ls (st) M k sl Φ := by
  intro p e s m args below meth c H locs lz X hR hC hs hl hv hS
  have hm : ∀ q ∈ ls', q ∈ ls := by
    intro q hq
    rw [← hk] at hq
    obtain ⟨k, -, hk⟩ := List.mem_filterMap.mp hq
    exact List.mem_of_getElem? hk
  refine h p e s m args below meth c H locs lz X hR hC hs (fun q hq => hl q (hm q hq)) ⟨hv.1, hv.2.1, fun q hq => ?_⟩ hS
  obtain ⟨x, hx, rfl⟩ := List.mem_map.mp hq
  exact hv.2.2 _ (List.mem_map.mpr ⟨x, hm x hx, rfl⟩)
theorem At.tsIn {G : GG} {Y : YY} {d pc : Nat} {ls : List (Nat × VV)} {st : List VV} {M : MM} {k sl : Nat} {Φ : Option VV → MM → Prop} {z dflt lo hi off : Int} {offs : Array Int} {len tgt : Nat} (hd : decode Y.2.1 pc = .ok (.tableswitch dflt lo hi offs, len)) (h1 : ¬ z < lo) (h2 : ¬ hi < z) (ho : offs[(z - lo).toNat]? = some off) (ht : (pc : Int) + off = (tgt : Int)) (h : At G Y d (tgt) ls (st) M k sl Φ) : At G Y d (pc) ls (vi z :: st) M k sl Φ := by
  intro p e s m args below meth c H locs lz X hR hC hs hl hv hS
  have e0 := ii_to (cs_h hs)
  refine lv_tableIn (x := Int32.ofInt z) X.1 X.2.1 hd (by rw [e0]; exact h1) (by rw [e0]; exact h2) (by rw [e0]; exact ho) ht ?_
  exact h p e s m args below meth c H locs lz X hR hC (cs_t hs) hl hv hS
theorem At.tsOut {G : GG} {Y : YY} {d pc : Nat} {ls : List (Nat × VV)} {st : List VV} {M : MM} {k sl : Nat} {Φ : Option VV → MM → Prop} {z dflt lo hi : Int} {offs : Array Int} {len tgt : Nat} (hd : decode Y.2.1 pc = .ok (.tableswitch dflt lo hi offs, len)) (h1 : z < lo ∨ hi < z) (ht : (pc : Int) + dflt = (tgt : Int)) (h : At G Y d (tgt) ls (st) M k sl Φ) : At G Y d (pc) ls (vi z :: st) M k sl Φ := by
  intro p e s m args below meth c H locs lz X hR hC hs hl hv hS
  have e0 := ii_to (cs_h hs)
  refine lv_tableOut (x := Int32.ofInt z) X.1 X.2.1 hd (by rw [e0]; exact h1) ht ?_
  exact h p e s m args below meth c H locs lz X hR hC (cs_t hs) hl hv hS
theorem At.lsw {G : GG} {Y : YY} {d pc : Nat} {ls : List (Nat × VV)} {st : List VV} {M : MM} {k sl : Nat} {Φ : Option VV → MM → Prop} {z dflt off : Int} {ps : Array (Int × Int)} {len tgt : Nat} (hd : decode Y.2.1 pc = .ok (.lookupswitch dflt ps, len)) (hp : (ps.toList.zip (ps.toList.drop 1)).all (fun (a, next) => a.1 < next.1) = true) (ho : Op.lookupswitch.offset ps.toList dflt z = off) (ht : (pc : Int) + off = (tgt : Int)) (h : At G Y d (tgt) ls (st) M k sl Φ) : At G Y d (pc) ls (vi z :: st) M k sl Φ := by
  intro p e s m args below meth c H locs lz X hR hC hs hl hv hS
  have e0 := ii_to (cs_h hs)
  refine lv_lookup (x := Int32.ofInt z) X.1 X.2.1 hd hp (by rw [e0]; exact ho) ht ?_
  exact h p e s m args below meth c H locs lz X hR hC (cs_t hs) hl hv hS
