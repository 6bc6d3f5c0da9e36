theorem At.cV1 {G : GG} {Y : YY} {d pc : Nat} {ls : List (Nat × VV)} {st : List VV} {S S' : SS} {Φ : Option VV → MM → Prop} {Y' : YY} {av rest : List VV} {r ci n N idx d' : Nat} {v : VV} (hm : MV Y' ci n) (hlk : LK Y.1.cls idx Y'.1) (hd : decode Y.2.1 pc = .ok (.invokevirtual idx, 3)) (hst : st = av.reverse ++ vr r :: rest) (hn : av.length = n) (hsh : sh r = (ci, N)) (hrm : (rest.map cat).sum ≤ 8) (hdd : d' + 1 ≤ d) (hks : Y'.2.2.2.2.1 = 0 ∧ Y'.2.2.2.2.2 = 0)
    (hM : RD G Y' d' (vr r :: av) S (some v) S') (kk : At G Y d (pc + 3) ls (v :: rest) (mm S') 0 0 Φ) : At G Y d pc ls st (mm S) 0 0 Φ := At.cV hm hlk hd hst hn hsh hrm hdd hks hM kk
theorem At.cV0 {G : GG} {Y : YY} {d pc : Nat} {ls : List (Nat × VV)} {st : List VV} {S S' : SS} {Φ : Option VV → MM → Prop} {Y' : YY} {av rest : List VV} {r ci n N idx d' : Nat} (hm : MV Y' ci n) (hlk : LK Y.1.cls idx Y'.1) (hd : decode Y.2.1 pc = .ok (.invokevirtual idx, 3)) (hst : st = av.reverse ++ vr r :: rest) (hn : av.length = n) (hsh : sh r = (ci, N)) (hrm : (rest.map cat).sum ≤ 8) (hdd : d' + 1 ≤ d) (hks : Y'.2.2.2.2.1 = 0 ∧ Y'.2.2.2.2.2 = 0)
    (hM : RD G Y' d' (vr r :: av) S none S') (kk : At G Y d (pc + 3) ls rest (mm S') 0 0 Φ) : At G Y d pc ls st (mm S) 0 0 Φ := At.cV hm hlk hd hst hn hsh hrm hdd hks hM kk
theorem At.cS1 {G : GG} {Y : YY} {d pc : Nat} {ls : List (Nat × VV)} {st : List VV} {S S' : SS} {Φ : Option VV → MM → Prop} {Y' : YY} {av rest : List VV} {n idx d' : Nat} {v : VV} (hm : MS Y' n) (hlk : LK Y.1.cls idx Y'.1) (hd : decode Y.2.1 pc = .ok (.invokestatic idx, 3)) (hst : st = av.reverse ++ rest) (hn : av.length = n) (hrm : (rest.map cat).sum ≤ 8) (hdd : d' + 1 ≤ d) (hks : Y'.2.2.2.2.1 = 0 ∧ Y'.2.2.2.2.2 = 0)
    (hM : RD G Y' d' av S (some v) S') (kk : At G Y d (pc + 3) ls (v :: rest) (mm S') 0 0 Φ) : At G Y d pc ls st (mm S) 0 0 Φ := At.cS hm hlk hd hst hn hrm hdd hks hM kk
theorem At.cS0 {G : GG} {Y : YY} {d pc : Nat} {ls : List (Nat × VV)} {st : List VV} {S S' : SS} {Φ : Option VV → MM → Prop} {Y' : YY} {av rest : List VV} {n idx d' : Nat} (hm : MS Y' n) (hlk : LK Y.1.cls idx Y'.1) (hd : decode Y.2.1 pc = .ok (.invokestatic idx, 3)) (hst : st = av.reverse ++ rest) (hn : av.length = n) (hrm : (rest.map cat).sum ≤ 8) (hdd : d' + 1 ≤ d) (hks : Y'.2.2.2.2.1 = 0 ∧ Y'.2.2.2.2.2 = 0)
    (hM : RD G Y' d' av S none S') (kk : At G Y d (pc + 3) ls rest (mm S') 0 0 Φ) : At G Y d pc ls st (mm S) 0 0 Φ := At.cS hm hlk hd hst hn hrm hdd hks hM kk
theorem At.zretI {G : GG} {Y : YY} {d pc : Nat} {ls : List (Nat × VV)} {M : MM} {k sl : Nat} {Φ : Option VV → MM → Prop} {z : Int} (hz : z = 0 ∨ z = 1) (hrt : Y.2.2.2.1 = some .boolean) (hk : k ≤ Y.2.2.2.2.1) (hsl : sl ≤ Y.2.2.2.2.2) (hΦ : Φ (some (vi (bI (decide (z = 1))))) M) (hd : decode Y.2.1 pc = .ok (.ireturn, 1)) : At G Y d pc ls [vi z] M k sl Φ := by
  have e : z = bI (decide (z = 1)) := by rcases hz with rfl | rfl <;> rfl
  have h := At.zret (G := G) (Y := Y) (d := d) (pc := pc) (ls := ls) (b := decide (z = 1)) hrt hk hsl hΦ hd
  rw [← e] at h
  exact h
theorem rs_room {rest : List VV} {ad : Nat → Nat} (h : (rest.map cat).sum ≤ 8) : ((rest.map (cv ad)).map fun v => v.category).sum ≤ 8 := by
  rw [List.map_map]
  have : ((fun v => v.category) ∘ cv ad) = cat := by funext v; exact cv_cat ad v
  rw [this]
  exact h
theorem At.mmax {G : GG} {Y : YY} {d pc : Nat} {ls : List (Nat × VV)} {S : SS} {Φ : Option VV → MM → Prop} {rest : List VV} {idx : Nat} {a b : Int} (hl0 : Cond.methodLink Y.1.cls idx ⟨"java/lang/Math", "max", "(II)I"⟩ ∈ lw_good) (hrm : (rest.map cat).sum ≤ 8) (hdd : 1 ≤ d) (hd : decode Y.2.1 pc = .ok (.invokestatic idx, 3)) (h : At G Y d (pc + 3) ls (vi (if a < b then b else a) :: rest) (mm S) 0 0 Φ) : At G Y d pc ls (vi b :: vi a :: rest) (mm S) 0 0 Φ := by
  intro p e s m args below meth c H locs lz X hR hC hs hl hv hS
  have hts := X.2.2.2.2.2.2.2.1
  have ha := cs_h (cs_t hs)
  have hb := cs_h hs
  have h2 := h p e s m args below meth c H locs lz X hR hC (cs_c (show cI (if a < b then b else a) by split <;> assumption) (cs_t (cs_t hs))) hl hv hS
  refine va_mmax (x := Int32.ofInt a) (y := Int32.ofInt b) X.1 X.2.1 (X.2.2.1.trans hv.1.symm) X.2.2.2.2.2.1 (hts _ hl0) (hts _ ms_J9_max_7cf53.2) (hts _ mb_J9_max_7cf53.2.1) (hts _ (by have := mb_J9_max_7cf53.1; rw [show (mJ9_max_7cf53).2.1 = Lib.Math.max.code from kb_b_eq (by decide +kernel)] at this; exact this)) hdd (by have := rs_room (ad := G.ad) hrm; show _ + 13 ≤ 40 * d; omega) (Nat.zero_le _) (Nat.zero_le _) hd ?_
  have e0 : (if Int32.ofInt a < Int32.ofInt b then Int32.ofInt b else Int32.ofInt a) = Int32.ofInt (if a < b then b else a) := by
    by_cases hab : a < b
    · rw [if_pos hab, if_pos ((ii_lt ha hb).mpr hab)]
    · rw [if_neg hab, if_neg (fun q => hab ((ii_lt ha hb).mp q))]
  rw [e0]
  exact h2
theorem At.mmin {G : GG} {Y : YY} {d pc : Nat} {ls : List (Nat × VV)} {S : SS} {Φ : Option VV → MM → Prop} {rest : List VV} {idx : Nat} {a b : Int} (hl0 : Cond.methodLink Y.1.cls idx ⟨"java/lang/Math", "min", "(II)I"⟩ ∈ lw_good) (hrm : (rest.map cat).sum ≤ 8) (hdd : 1 ≤ d) (hd : decode Y.2.1 pc = .ok (.invokestatic idx, 3)) (h : At G Y d (pc + 3) ls (vi (if b < a then b else a) :: rest) (mm S) 0 0 Φ) : At G Y d pc ls (vi b :: vi a :: rest) (mm S) 0 0 Φ := by
  intro p e s m args below meth c H locs lz X hR hC hs hl hv hS
  have hts := X.2.2.2.2.2.2.2.1
  have ha := cs_h (cs_t hs)
  have hb := cs_h hs
  have h2 := h p e s m args below meth c H locs lz X hR hC (cs_c (show cI (if b < a then b else a) by split <;> assumption) (cs_t (cs_t hs))) hl hv hS
  refine va_mmin (x := Int32.ofInt a) (y := Int32.ofInt b) X.1 X.2.1 (X.2.2.1.trans hv.1.symm) X.2.2.2.2.2.1 (hts _ hl0) (hts _ ms_J9_min_7cf53.2) (hts _ mb_J9_min_7cf53.2.1) (hts _ (by have := mb_J9_min_7cf53.1; rw [show (mJ9_min_7cf53).2.1 = Lib.Math.min.code from kb_b_eq (by decide +kernel)] at this; exact this)) hdd (by have := rs_room (ad := G.ad) hrm; show _ + 13 ≤ 40 * d; omega) (Nat.zero_le _) (Nat.zero_le _) hd ?_
  have e0 : (if Int32.ofInt b < Int32.ofInt a then Int32.ofInt b else Int32.ofInt a) = Int32.ofInt (if b < a then b else a) := by
    by_cases hab : b < a
    · rw [if_pos hab, if_pos ((ii_lt hb ha).mpr hab)]
    · rw [if_neg hab, if_neg (fun q => hab ((ii_lt hb ha).mp q))]
  rw [e0]
  exact h2
theorem At.acpI {G : GG} {Y : YY} {d pc : Nat} {ls : List (Nat × VV)} {S : SS} {Φ : Option VV → MM → Prop} {rest : List VV} {idx A r A' r' : Nat} {i j z : Int} (hl0 : Cond.methodLink Y.1.cls idx ⟨"java/lang/System", "arraycopy", "(Ljava/lang/Object;ILjava/lang/Object;II)V"⟩ ∈ lw_good) (hs1 : sh r = (20, A)) (hs2 : sh r' = (20, A')) (hg : r ≠ r' ∧ (0 ≤ i ∧ 0 ≤ j ∧ 0 ≤ z ∧ i + z ≤ A ∧ j + z ≤ A')) (hrm : (rest.map cat).sum ≤ 8) (hdd : 2 ≤ d) (hd : decode Y.2.1 pc = .ok (.invokestatic idx, 3)) (h : At G Y d (pc + 3) ls rest (mm (cpy S r i r' j z)) 0 0 Φ) : At G Y d pc ls (vi z :: vi j :: vr r' :: vi i :: vr r :: rest) (mm S) 0 0 Φ := by
  intro p e s m args below meth c H locs lz X hR hC hs hl hv hS
  have hts := X.2.2.2.2.2.2.2.1
  have hG := X.2.2.2.2.2.2.2.2.1
  have hK := X.2.2.2.2.2.2.2.2.2.1
  have hp1 := sh_pos hs1 (by decide)
  have hp2 := sh_pos hs2 (by decide)
  have hq1 := le149 hs1
  have hq2 := le149 hs2
  obtain ⟨hne, hi0, hj0, hz0, hiz, hjz⟩ := hg
  have hcz := cs_h hs
  have hcj := cs_h (cs_t hs)
  have hci := cs_h (cs_t (cs_t (cs_t hs)))
  have hc0 := hR.2.2.2 r hp1 hq1
  have hc1 := hR.2.2.2 r' hp2 hq2
  rw [ec_int hs1 (by decide)] at hc0
  rw [ec_int hs2 (by decide)] at hc1
  have hc0 : H[G.ad r]? = some (vp_cell (G.cy 20) (A, .inl (fun j => Int32.ofInt (S r j)))) := hc0
  have hc1 : H[G.ad r']? = some (vp_cell (G.cy 20) (A', .inl (fun j => Int32.ofInt (S r' j)))) := hc1
  obtain ⟨-, k0, hk0, cm0, hkk0⟩ := (hK.2 0 _ rfl).1 A (fun j => .int (Int32.ofInt (S r j)))
  obtain ⟨-, k1, hk1, cm1, hkk1⟩ := (hK.2 0 _ rfl).1 A' (fun j => .int (Int32.ofInt (S r' j)))
  have n0 : ∀ x : Int, cI x → 0 ≤ x → ¬ Int32.ofInt x < 0 := fun x hx h0 q => by rw [← ii_0, ii_lt hx cI_0] at q; omega
  rw [List.map_cons, List.map_cons, List.map_cons, List.map_cons, List.map_cons, cv_r (r := r) (by omega), cv_r (r := r') (by omega)]
  have e5 : nativeFrameWords "java/lang/System" "arraycopy" 5 ≤ 40 := by decide +kernel
  intro T hT X9
  obtain ⟨vm', X', step⟩ := X9.arraycopy X.1 X.2.2.2.2.2.1 (hts _ hl0) (hts _ nat_ac) (hts _ sta_ac) (hts _ ini_sys) (src := G.ad r) (dst := G.ad r') (cs := vp_cell (G.cy 20) (A, .inl (fun j => Int32.ofInt (S r j)))) (cd := vp_cell (G.cy 20) (A', .inl (fun j => Int32.ofInt (S r' j)))) (srcPos := Int32.ofInt i) (destPos := Int32.ofInt j) (n := Int32.ofInt z) (by rw [hT]; exact hc0) (by rw [hT]; exact hc1)
    (fun _ h => by cases h) (fun _ h => by cases h) (fun h => by cases h) (fun h => by cases h) hk0 hk1 hkk0 hkk1 (by simp [refKind]) (n0 i hci hi0) (n0 j hcj hj0) (n0 z hcz hz0)
    (by rw [ii_to hci, ii_to hcz]; show ¬ _ > ((arrV _ A (fun j => .int (Int32.ofInt (S r j)))).slots.size : Int); rw [arrV_size]; omega)
    (by rw [ii_to hcj, ii_to hcz]; show ¬ _ > ((arrV _ A' (fun j => .int (Int32.ofInt (S r' j)))).slots.size : Int); rw [arrV_size]; omega)
    (fun vm₁ _ q hq => by
      rw [ix_nat hcz] at hq
      have e : (vp_cell (G.cy 20) (A, .inl (fun j => Int32.ofInt (S r j)))).slots.getD ((Int32.ofInt i).toNatClampNeg + q) .null = .int (Int32.ofInt (S r ((Int32.ofInt i).toNatClampNeg + q))) := by
        show (arrV _ A (fun j => .int (Int32.ofInt (S r j)))).slots.getD _ _ = _
        rw [Array.getD_eq_getD_getElem?, arrV_read _ _ (by rw [ix_nat hci]; omega)]
        rfl
      rw [e]
      exact ⟨rfl, trivial⟩)
    (g := F0 m pc lz (.int (Int32.ofInt z) :: .int (Int32.ofInt j) :: .ref (G.ad r') :: .int (Int32.ofInt i) :: .ref (G.ad r) :: rest.map (cv G.ad))) rfl (hv.1.trans X.2.2.1.symm) (rest := rest.map (cv G.ad)) rfl (by rw [X.2.1]; exact hd) (by show 1 ≤ d; omega) (by have := rs_room (ad := G.ad) hrm; show 2 * 0 + _ + (_ + 11) ≤ 40 * d; omega)
  have e1 : copied (vp_cell (G.cy 20) (A, .inl (fun j => Int32.ofInt (S r j)))) (vp_cell (G.cy 20) (A', .inl (fun j => Int32.ofInt (S r' j)))) (Int32.ofInt i) (Int32.ofInt j) (Int32.ofInt z) = vp_cell (G.cy 20) (A', .inl (va_cpy (fun j => Int32.ofInt (S r j)) (fun j => Int32.ofInt (S r' j)) (Int32.ofInt i).toNatClampNeg (Int32.ofInt j).toNatClampNeg (Int32.ofInt z).toNatClampNeg)) := va_copied (fun z => .int z) (G.cy 20) (G.cy 20) (fun j => Int32.ofInt (S r j)) (fun j => Int32.ofInt (S r' j)) (by rw [ix_nat hci, ix_nat hcz]; omega)
  rw [e1, ix_nat hci, ix_nat hcj, ix_nat hcz] at X' step
  have hlt : G.ad r' < H.size := (Array.getElem?_eq_some_iff.mp hc1).1
  have e2 : ec G.ad G.cy (mm (cpy S r i r' j z)) r' = .inl (G.cy 20, A', .inl (va_cpy (fun j => Int32.ofInt (S r j)) (fun j => Int32.ofInt (S r' j)) i.toNat j.toNat z.toNat)) := by
    rw [ec_int hs2 (by decide)]
    refine congrArg (fun f => (Sum.inl (G.cy 20, A', .inl f) : va_E)) ?_
    funext x
    show Int32.ofInt (cpy S r i r' j z r' x) = _
    unfold cpy va_cpy
    simp only [true_and]
    split <;> rfl
  have hS2 : va_S (ALo G) s.heap (H.setIfInBounds (G.ad r') (vp_cell (G.cy 20) (A', .inl (va_cpy (fun j => Int32.ofInt (S r j)) (fun j => Int32.ofInt (S r' j)) i.toNat j.toNat z.toNat)))) (locs ++ List.map (fun (q : Value × Nat) => (⟨G.ad r', j.toNat + q.2⟩ : Loc)) ((vp_cell (G.cy 20) (A, .inl (fun j => Int32.ofInt (S r j)))).stretch i.toNat z.toNat).zipIdx) := by
    refine ⟨by simp; exact hS.1, fun q g1 g2 => ?_, fun q hq => ?_⟩
    · have : q ≠ G.ad r' := fun e => g2 (by rw [e]; exact ALo_ad hG hp2 (by omega))
      rw [show (H.setIfInBounds (G.ad r') _)[q]? = H[q]? by simp [Array.getElem?_setIfInBounds, Ne.symm this]]
      exact hS.2.1 q g1 g2
    · rcases List.mem_append.mp hq with h | h
      · exact hS.2.2 q h
      · obtain ⟨z, -, hz⟩ := List.mem_map.mp h
        rw [← hz]
        exact ALo_ad hG hp2 (by omega)
  obtain ⟨t, a1, b1⟩ := h p e s m args below meth c _ _ lz X (hR.put hG hp2 hq2 rfl (by simp) (fun q hq => by simp [Array.getElem?_setIfInBounds, Ne.symm hq]) (fun x hx => ec_row (fun _ => rfl) (fun y => by show cpy S r i r' j z x y = S x y; unfold cpy; rw [if_neg (fun q => hx q.1)])) (by rw [e2]; show (H.setIfInBounds (G.ad r') _)[G.ad r']? = some _; simp [Array.getElem?_setIfInBounds, hlt])) (by
      intro x y
      show (_ → cL (cpy S r i r' j z x y)) ∧ (_ → cI (cpy S r i r' j z x y))
      unfold cpy
      split
      · rename_i hx
        have q1 := hC r (i.toNat + (y - j.toNat))
        rw [sty_arr hs1 (by decide)] at q1
        rw [hx.1, sty_arr hs2 (by decide)]
        exact q1
      · exact hC x y) (cs_t (cs_t (cs_t (cs_t (cs_t hs))))) hl hv hS2 ((T.setVm vm').setCell (G.ad r') (vp_cell (G.cy 20) (A', .inl (va_cpy (fun j => Int32.ofInt (S r j)) (fun j => Int32.ofInt (S r' j)) i.toNat j.toNat z.toNat)))) (by rw [← hT]; rfl) X'
  exact ⟨t, step t a1, b1⟩
theorem At.acpL {G : GG} {Y : YY} {d pc : Nat} {ls : List (Nat × VV)} {S : SS} {Φ : Option VV → MM → Prop} {rest : List VV} {idx A r A' r' : Nat} {i j z : Int} (hl0 : Cond.methodLink Y.1.cls idx ⟨"java/lang/System", "arraycopy", "(Ljava/lang/Object;ILjava/lang/Object;II)V"⟩ ∈ lw_good) (hs1 : sh r = (21, A)) (hs2 : sh r' = (21, A')) (hg : r ≠ r' ∧ (0 ≤ i ∧ 0 ≤ j ∧ 0 ≤ z ∧ i + z ≤ A ∧ j + z ≤ A')) (hrm : (rest.map cat).sum ≤ 8) (hdd : 2 ≤ d) (hd : decode Y.2.1 pc = .ok (.invokestatic idx, 3)) (h : At G Y d (pc + 3) ls rest (mm (cpy S r i r' j z)) 0 0 Φ) : At G Y d pc ls (vi z :: vi j :: vr r' :: vi i :: vr r :: rest) (mm S) 0 0 Φ := by
  intro p e s m args below meth c H locs lz X hR hC hs hl hv hS
  have hts := X.2.2.2.2.2.2.2.1
  have hG := X.2.2.2.2.2.2.2.2.1
  have hK := X.2.2.2.2.2.2.2.2.2.1
  have hp1 := sh_pos hs1 (by decide)
  have hp2 := sh_pos hs2 (by decide)
  have hq1 := le149 hs1
  have hq2 := le149 hs2
  obtain ⟨hne, hi0, hj0, hz0, hiz, hjz⟩ := hg
  have hcz := cs_h hs
  have hcj := cs_h (cs_t hs)
  have hci := cs_h (cs_t (cs_t (cs_t hs)))
  have hc0 := hR.2.2.2 r hp1 hq1
  have hc1 := hR.2.2.2 r' hp2 hq2
  rw [ec_long hs1] at hc0
  rw [ec_long hs2] at hc1
  have hc0 : H[G.ad r]? = some (vp_cell (G.cy 21) (A, .inr <| .inl (fun j => Int64.ofInt (S r j)))) := hc0
  have hc1 : H[G.ad r']? = some (vp_cell (G.cy 21) (A', .inr <| .inl (fun j => Int64.ofInt (S r' j)))) := hc1
  obtain ⟨-, k0, hk0, cm0, hkk0⟩ := (hK.2 1 _ rfl).1 A (fun j => .long (Int64.ofInt (S r j)))
  obtain ⟨-, k1, hk1, cm1, hkk1⟩ := (hK.2 1 _ rfl).1 A' (fun j => .long (Int64.ofInt (S r' j)))
  have n0 : ∀ x : Int, cI x → 0 ≤ x → ¬ Int32.ofInt x < 0 := fun x hx h0 q => by rw [← ii_0, ii_lt hx cI_0] at q; omega
  rw [List.map_cons, List.map_cons, List.map_cons, List.map_cons, List.map_cons, cv_r (r := r) (by omega), cv_r (r := r') (by omega)]
  have e5 : nativeFrameWords "java/lang/System" "arraycopy" 5 ≤ 40 := by decide +kernel
  intro T hT X9
  obtain ⟨vm', X', step⟩ := X9.arraycopy X.1 X.2.2.2.2.2.1 (hts _ hl0) (hts _ nat_ac) (hts _ sta_ac) (hts _ ini_sys) (src := G.ad r) (dst := G.ad r') (cs := vp_cell (G.cy 21) (A, .inr <| .inl (fun j => Int64.ofInt (S r j)))) (cd := vp_cell (G.cy 21) (A', .inr <| .inl (fun j => Int64.ofInt (S r' j)))) (srcPos := Int32.ofInt i) (destPos := Int32.ofInt j) (n := Int32.ofInt z) (by rw [hT]; exact hc0) (by rw [hT]; exact hc1)
    (fun _ h => by cases h) (fun _ h => by cases h) (fun h => by cases h) (fun h => by cases h) hk0 hk1 hkk0 hkk1 (by simp [refKind]) (n0 i hci hi0) (n0 j hcj hj0) (n0 z hcz hz0)
    (by rw [ii_to hci, ii_to hcz]; show ¬ _ > ((arrV _ A (fun j => .long (Int64.ofInt (S r j)))).slots.size : Int); rw [arrV_size]; omega)
    (by rw [ii_to hcj, ii_to hcz]; show ¬ _ > ((arrV _ A' (fun j => .long (Int64.ofInt (S r' j)))).slots.size : Int); rw [arrV_size]; omega)
    (fun vm₁ _ q hq => by
      rw [ix_nat hcz] at hq
      have e : (vp_cell (G.cy 21) (A, .inr <| .inl (fun j => Int64.ofInt (S r j)))).slots.getD ((Int32.ofInt i).toNatClampNeg + q) .null = .long (Int64.ofInt (S r ((Int32.ofInt i).toNatClampNeg + q))) := by
        show (arrV _ A (fun j => .long (Int64.ofInt (S r j)))).slots.getD _ _ = _
        rw [Array.getD_eq_getD_getElem?, arrV_read _ _ (by rw [ix_nat hci]; omega)]
        rfl
      rw [e]
      exact ⟨rfl, trivial⟩)
    (g := F0 m pc lz (.int (Int32.ofInt z) :: .int (Int32.ofInt j) :: .ref (G.ad r') :: .int (Int32.ofInt i) :: .ref (G.ad r) :: rest.map (cv G.ad))) rfl (hv.1.trans X.2.2.1.symm) (rest := rest.map (cv G.ad)) rfl (by rw [X.2.1]; exact hd) (by show 1 ≤ d; omega) (by have := rs_room (ad := G.ad) hrm; show 2 * 0 + _ + (_ + 11) ≤ 40 * d; omega)
  have e1 : copied (vp_cell (G.cy 21) (A, .inr <| .inl (fun j => Int64.ofInt (S r j)))) (vp_cell (G.cy 21) (A', .inr <| .inl (fun j => Int64.ofInt (S r' j)))) (Int32.ofInt i) (Int32.ofInt j) (Int32.ofInt z) = vp_cell (G.cy 21) (A', .inr <| .inl (va_cpy (fun j => Int64.ofInt (S r j)) (fun j => Int64.ofInt (S r' j)) (Int32.ofInt i).toNatClampNeg (Int32.ofInt j).toNatClampNeg (Int32.ofInt z).toNatClampNeg)) := va_copied (fun z => .long z) (G.cy 21) (G.cy 21) (fun j => Int64.ofInt (S r j)) (fun j => Int64.ofInt (S r' j)) (by rw [ix_nat hci, ix_nat hcz]; omega)
  rw [e1, ix_nat hci, ix_nat hcj, ix_nat hcz] at X' step
  have hlt : G.ad r' < H.size := (Array.getElem?_eq_some_iff.mp hc1).1
  have e2 : ec G.ad G.cy (mm (cpy S r i r' j z)) r' = .inl (G.cy 21, A', .inr <| .inl (va_cpy (fun j => Int64.ofInt (S r j)) (fun j => Int64.ofInt (S r' j)) i.toNat j.toNat z.toNat)) := by
    rw [ec_long hs2]
    refine congrArg (fun f => (Sum.inl (G.cy 21, A', .inr <| .inl f) : va_E)) ?_
    funext x
    show Int64.ofInt (cpy S r i r' j z r' x) = _
    unfold cpy va_cpy
    simp only [true_and]
    split <;> rfl
  have hS2 : va_S (ALo G) s.heap (H.setIfInBounds (G.ad r') (vp_cell (G.cy 21) (A', .inr <| .inl (va_cpy (fun j => Int64.ofInt (S r j)) (fun j => Int64.ofInt (S r' j)) i.toNat j.toNat z.toNat)))) (locs ++ List.map (fun (q : Value × Nat) => (⟨G.ad r', j.toNat + q.2⟩ : Loc)) ((vp_cell (G.cy 21) (A, .inr <| .inl (fun j => Int64.ofInt (S r j)))).stretch i.toNat z.toNat).zipIdx) := by
    refine ⟨by simp; exact hS.1, fun q g1 g2 => ?_, fun q hq => ?_⟩
    · have : q ≠ G.ad r' := fun e => g2 (by rw [e]; exact ALo_ad hG hp2 (by omega))
      rw [show (H.setIfInBounds (G.ad r') _)[q]? = H[q]? by simp [Array.getElem?_setIfInBounds, Ne.symm this]]
      exact hS.2.1 q g1 g2
    · rcases List.mem_append.mp hq with h | h
      · exact hS.2.2 q h
      · obtain ⟨z, -, hz⟩ := List.mem_map.mp h
        rw [← hz]
        exact ALo_ad hG hp2 (by omega)
  obtain ⟨t, a1, b1⟩ := h p e s m args below meth c _ _ lz X (hR.put hG hp2 hq2 rfl (by simp) (fun q hq => by simp [Array.getElem?_setIfInBounds, Ne.symm hq]) (fun x hx => ec_row (fun _ => rfl) (fun y => by show cpy S r i r' j z x y = S x y; unfold cpy; rw [if_neg (fun q => hx q.1)])) (by rw [e2]; show (H.setIfInBounds (G.ad r') _)[G.ad r']? = some _; simp [Array.getElem?_setIfInBounds, hlt])) (by
      intro x y
      show (_ → cL (cpy S r i r' j z x y)) ∧ (_ → cI (cpy S r i r' j z x y))
      unfold cpy
      split
      · rename_i hx
        have q1 := hC r (i.toNat + (y - j.toNat))
        rw [sty_long hs1] at q1
        rw [hx.1, sty_long hs2]
        exact q1
      · exact hC x y) (cs_t (cs_t (cs_t (cs_t (cs_t hs))))) hl hv hS2 ((T.setVm vm').setCell (G.ad r') (vp_cell (G.cy 21) (A', .inr <| .inl (va_cpy (fun j => Int64.ofInt (S r j)) (fun j => Int64.ofInt (S r' j)) i.toNat j.toNat z.toNat)))) (by rw [← hT]; rfl) X'
  exact ⟨t, step t a1, b1⟩
