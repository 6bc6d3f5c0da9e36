def ZB (R : Nat → Nat → Nat) (S : SS) (n : Nat) : Prop := ∀ a, n < a → ∀ j, R a j = 0 ∧ S a j = 0
theorem ZB.mo {R : Nat → Nat → Nat} {S : SS} {n : Nat} (h : ZB R S n) : ZB R S (n + 1) := fun a ha => h a (by omega)
theorem ZB.mono {R : Nat → Nat → Nat} {S : SS} {n n' : Nat} (h : ZB R S n) (hn : n ≤ n') : ZB R S n' := fun a ha => h a (by omega)
theorem ZB.pr {R : Nat → Nat → Nat} {S : SS} {n r j q : Nat} (h : ZB R S n) (hr : r ≤ n) : ZB (up R r j q) S n := fun a ha i => ⟨by rw [up_ne (by omega)]; exact (h a ha i).1, (h a ha i).2⟩
theorem ZB.ps {R : Nat → Nat → Nat} {S : SS} {n r j : Nat} {z : Int} (h : ZB R S n) (hr : r ≤ n) : ZB R (up S r j z) n := fun a ha i => ⟨(h a ha i).1, by rw [up_ne (by omega)]; exact (h a ha i).2⟩
def fdef (ci j : Nat) : Value := if fty ci j = 1 then .long 0 else if fty ci j = 2 then .null else .int 0
theorem fval_0 {ad : Nat → Nat} {M : MM} {ci r j : Nat} (h1 : M.2.1 r j = 0) (h2 : M.2.2 r j = 0) : fval ad M ci r j = fdef ci j := by
  unfold fval fdef
  rw [h1, h2]
  split
  · rfl
  · split
    · rfl
    · rfl
theorem Rep.push {G : GG} {n : Nat} {R : Nat → Nat → Nat} {S : SS} {H H' : Heap} (h : Rep G (n, R, S) H) (hG : okG G) (hn : n + 1 ≤ 100000) (z : H'.size = H.size + 1) (oq : ∀ q, q < H.size → H'[q]? = H[q]?) (hc : va_at G.D vwCl (G.ad (n + 1), ec G.ad G.cy (n + 1, R, S) (n + 1)) H') : Rep G (n + 1, R, S) H' := by
  obtain ⟨h1, h2, h3, h4⟩ := h
  have h1 : H.size = G.h0.size + n := h1
  refine ⟨by show H'.size = G.h0.size + (n + 1); omega, hn, fun q hq => by rw [oq q (by omega)]; exact h3 q hq, fun r a b => ?_⟩
  by_cases he : r = n + 1
  · subst he; exact hc
  · have hb : r ≤ n + 1 := b
    have hr := hG r a (by omega)
    have := h4 r a (show r ≤ n by omega)
    rw [show ec G.ad G.cy (n + 1, R, S) r = ec G.ad G.cy (n, R, S) r from rfl]
    exact this.kept (oq _ (by show G.ad r < _; omega))
theorem vaS_push {G : GG} {s : State} {H H' : Heap} {locs : List Loc} (hS : va_S (ALo G) s.heap H locs) (z : H'.size = H.size + 1) (oq : ∀ q, q < H.size → H'[q]? = H[q]?) : va_S (ALo G) s.heap H' locs :=
  ⟨by have := hS.1; omega, fun q h1 h2 => by rw [oq q (by have := hS.1; omega)]; exact hS.2.1 q h1 h2, hS.2.2⟩
theorem At.newO {G : GG} {Y : YY} {d pc : Nat} {ls : List (Nat × VV)} {st : List VV} {n : Nat} {R : Nat → Nat → Nat} {S : Nat → Nat → Int} {k sl : Nat} {Φ : Option VV → MM → Prop} {ci N idx : Nat} {C : String} {T : u_T} {ty : Nat → FieldType} (hd : decode Y.2.1 pc = .ok (.new idx, 3)) (hcl : CLS ci N C T) (hty : ∀ k, k < N → parseFieldDescriptor (T k).2.2.1 = some (ty k)) (hdf : ∀ j, j < N → defaultValue (ty j) = fdef ci j) (hw1 : Cond.classLink Y.1.cls idx C ∈ lw_good) (hw2 : Cond.instantiable C N ∈ lw_good) (hw3 : Cond.initialized C ∈ lw_good) (hsh : sh (n + 1) = (ci, N)) (hz : ZB R S n) (hn : n + 1 ≤ 100000) (hks : k + 1 ≤ Y.2.2.2.2.1 ∧ sl + N ≤ Y.2.2.2.2.2) (h : At G Y d (pc + 3) ls (vr (n + 1) :: st) (n + 1, R, S) (k + 1) (sl + N) Φ) : At G Y d (pc) ls (st) (n, R, S) (k) (sl) Φ := by
  intro p e s m args below meth c H locs lz X hR hC hs hl hv hS
  have hts := X.2.2.2.2.2.2.2.1
  have hG := X.2.2.2.2.2.2.2.2.1
  have hK := X.2.2.2.2.2.2.2.2.2.1
  obtain ⟨hc1, hc2, hc3, -, -⟩ := hcl
  have hsz : H.size = G.h0.size + n := hR.1
  have had := hG (n + 1) (by omega) hn
  have hKn := hK.1 ci _ hc1
  refine W.newcK X.1 X.2.1 X.2.2.2.2.2.1 (hts _ hw1) (hts _ hw2) (hts _ hw3) rfl hd hks.1 hks.2 hKn.2.1 rfl fun H1 kC hkC e1 z1 o1 => ?_
  have hR2 : Rep G (n + 1, R, S) H1 := by
    refine hR.push hG hn z1 o1 ?_
    rw [ec_obj hsh hc2]
    refine ⟨_, hc1, ?_⟩
    have e2 : G.ad (n + 1) = H.size := by omega
    show t_OB (G.ad (n + 1)) _ _ _ _ _
    rw [e2]
    refine (u_born ty hts hc3 hKn hkC e1 hty).to (fun j hj => ?_)
    unfold vp_V
    rw [List.getD_eq_getElem?_getD, ec_obj_at hj, Option.getD_some, fval_0 ((hz (n + 1) (by omega) j).1) ((hz (n + 1) (by omega) j).2)]
    exact hdf j hj
  have h2 := h p e s m args below meth c H1 locs lz X hR2 hC (cs_c trivial hs) hl hv (vaS_push hS z1 o1)
  rw [List.map_cons, cv_r (by omega), show G.ad (n + 1) = H.size by omega] at h2
  exact h2
theorem wac_int : Cond.arrayClass .int ∈ lw_good := gd_mem (u7_in _ (List.mem_of_getElem? (i := 7) rfl)) rfl
theorem wac_long : Cond.arrayClass .long ∈ lw_good := gd_mem (u39_in _ (List.mem_of_getElem? (i := 1) rfl)) rfl
theorem wac_byte : Cond.arrayClass .byte ∈ lw_good := gd_mem (u23_in _ (List.mem_of_getElem? (i := 0) rfl)) rfl
theorem wac_boolean : Cond.arrayClass .boolean ∈ lw_good := gd_mem (u168_in _ (List.mem_of_getElem? (i := 2) rfl)) rfl
theorem At.newI {G : GG} {Y : YY} {d pc : Nat} {ls : List (Nat × VV)} {st : List VV} {n : Nat} {R : Nat → Nat → Nat} {S : Nat → Nat → Int} {k sl : Nat} {Φ : Option VV → MM → Prop} {N : Nat} {z : Int} (hd : decode Y.2.1 pc = .ok (.newarray .int, 2)) (hN : (N : Int) = z) (hN2 : N ≤ 10000) (hsh : sh (n + 1) = (20, N)) (hz : ZB R S n) (hn : n + 1 ≤ 100000) (hks : k + 1 ≤ Y.2.2.2.2.1 ∧ sl + N ≤ Y.2.2.2.2.2) (h : At G Y d (pc + 2) ls (vr (n + 1) :: st) (n + 1, R, S) (k + 1) (sl + N) Φ) : At G Y d (pc) ls (vi z :: st) (n, R, S) (k) (sl) Φ := by
  intro p e s m args below meth c H locs lz X hR hC hs hl hv hS
  subst hN
  have hts := X.2.2.2.2.2.2.2.1
  have hG := X.2.2.2.2.2.2.2.2.1
  have hK := X.2.2.2.2.2.2.2.2.2.1
  have hsz : H.size = G.h0.size + n := hR.1
  have had := hG (n + 1) (by omega) hn
  have hci := cs_h hs
  refine va_newaK (atype := .int) (N := N) X.1 X.2.1 (hts _ wac_int) rfl hd rfl (by rw [← ii_0, ii_lt hci cI_0]; omega) (by rw [ix_nat hci]; omega) (Nat.le_trans (Nat.mul_le_mul hN2 (show componentBytes .int ≤ 8 by decide)) (by decide)) hks.1 hks.2 rfl fun H1 cA e1 z1 o1 hAr hNm => ?_
  have ecA : cA = G.cy 20 := by
    have q := (hK.2 0 _ rfl).2
    have q2 : s.vm.findClass ("[" ++ (FieldType.int).toString) = some (G.cy 20) := q
    exact Option.some.inj (hNm.symm.trans q2)
  subst ecA
  have hR2 : Rep G (n + 1, R, S) H1 := by
    refine hR.push hG hn z1 o1 ?_
    rw [ec_int hsh (by decide)]
    show H1[G.ad (n + 1)]? = some (vp_cell _ _)
    rw [show G.ad (n + 1) = H.size by omega, e1, vp_cell_i]
    congr 2
    funext j
    show _ = Value.int (Int32.ofInt (S (n + 1) j))
    rw [(hz (n + 1) (by omega) j).2]
    rfl
  have h2 := h p e s m args below meth c H1 locs lz X hR2 hC (cs_c trivial (cs_t hs)) hl hv (vaS_push hS z1 o1)
  rw [List.map_cons, cv_r (by omega), show G.ad (n + 1) = H.size by omega] at h2
  exact h2
theorem At.newJ {G : GG} {Y : YY} {d pc : Nat} {ls : List (Nat × VV)} {st : List VV} {n : Nat} {R : Nat → Nat → Nat} {S : Nat → Nat → Int} {k sl : Nat} {Φ : Option VV → MM → Prop} {N : Nat} {z : Int} (hd : decode Y.2.1 pc = .ok (.newarray .long, 2)) (hN : (N : Int) = z) (hN2 : N ≤ 10000) (hsh : sh (n + 1) = (21, N)) (hz : ZB R S n) (hn : n + 1 ≤ 100000) (hks : k + 1 ≤ Y.2.2.2.2.1 ∧ sl + N ≤ Y.2.2.2.2.2) (h : At G Y d (pc + 2) ls (vr (n + 1) :: st) (n + 1, R, S) (k + 1) (sl + N) Φ) : At G Y d (pc) ls (vi z :: st) (n, R, S) (k) (sl) Φ := by
  intro p e s m args below meth c H locs lz X hR hC hs hl hv hS
  subst hN
  have hts := X.2.2.2.2.2.2.2.1
  have hG := X.2.2.2.2.2.2.2.2.1
  have hK := X.2.2.2.2.2.2.2.2.2.1
  have hsz : H.size = G.h0.size + n := hR.1
  have had := hG (n + 1) (by omega) hn
  have hci := cs_h hs
  refine va_newaK (atype := .long) (N := N) X.1 X.2.1 (hts _ wac_long) rfl hd rfl (by rw [← ii_0, ii_lt hci cI_0]; omega) (by rw [ix_nat hci]; omega) (Nat.le_trans (Nat.mul_le_mul hN2 (show componentBytes .long ≤ 8 by decide)) (by decide)) hks.1 hks.2 rfl fun H1 cA e1 z1 o1 hAr hNm => ?_
  have ecA : cA = G.cy 21 := by
    have q := (hK.2 1 _ rfl).2
    have q2 : s.vm.findClass ("[" ++ (FieldType.long).toString) = some (G.cy 21) := q
    exact Option.some.inj (hNm.symm.trans q2)
  subst ecA
  have hR2 : Rep G (n + 1, R, S) H1 := by
    refine hR.push hG hn z1 o1 ?_
    rw [ec_long hsh]
    show H1[G.ad (n + 1)]? = some (vp_cell _ _)
    rw [show G.ad (n + 1) = H.size by omega, e1, vp_cell_l]
    congr 2
    funext j
    show _ = Value.long (Int64.ofInt (S (n + 1) j))
    rw [(hz (n + 1) (by omega) j).2]
    rfl
  have h2 := h p e s m args below meth c H1 locs lz X hR2 hC (cs_c trivial (cs_t hs)) hl hv (vaS_push hS z1 o1)
  rw [List.map_cons, cv_r (by omega), show G.ad (n + 1) = H.size by omega] at h2
  exact h2
theorem At.newB {G : GG} {Y : YY} {d pc : Nat} {ls : List (Nat × VV)} {st : List VV} {n : Nat} {R : Nat → Nat → Nat} {S : Nat → Nat → Int} {k sl : Nat} {Φ : Option VV → MM → Prop} {N : Nat} {z : Int} (hd : decode Y.2.1 pc = .ok (.newarray .byte, 2)) (hN : (N : Int) = z) (hN2 : N ≤ 10000) (hsh : sh (n + 1) = (22, N)) (hz : ZB R S n) (hn : n + 1 ≤ 100000) (hks : k + 1 ≤ Y.2.2.2.2.1 ∧ sl + N ≤ Y.2.2.2.2.2) (h : At G Y d (pc + 2) ls (vr (n + 1) :: st) (n + 1, R, S) (k + 1) (sl + N) Φ) : At G Y d (pc) ls (vi z :: st) (n, R, S) (k) (sl) Φ := by
  intro p e s m args below meth c H locs lz X hR hC hs hl hv hS
  subst hN
  have hts := X.2.2.2.2.2.2.2.1
  have hG := X.2.2.2.2.2.2.2.2.1
  have hK := X.2.2.2.2.2.2.2.2.2.1
  have hsz : H.size = G.h0.size + n := hR.1
  have had := hG (n + 1) (by omega) hn
  have hci := cs_h hs
  refine va_newaK (atype := .byte) (N := N) X.1 X.2.1 (hts _ wac_byte) rfl hd rfl (by rw [← ii_0, ii_lt hci cI_0]; omega) (by rw [ix_nat hci]; omega) (Nat.le_trans (Nat.mul_le_mul hN2 (show componentBytes .byte ≤ 8 by decide)) (by decide)) hks.1 hks.2 rfl fun H1 cA e1 z1 o1 hAr hNm => ?_
  have ecA : cA = G.cy 22 := by
    have q := (hK.2 2 _ rfl).2
    have q2 : s.vm.findClass ("[" ++ (FieldType.byte).toString) = some (G.cy 22) := q
    exact Option.some.inj (hNm.symm.trans q2)
  subst ecA
  have hR2 : Rep G (n + 1, R, S) H1 := by
    refine hR.push hG hn z1 o1 ?_
    rw [ec_int hsh (by decide)]
    show H1[G.ad (n + 1)]? = some (vp_cell _ _)
    rw [show G.ad (n + 1) = H.size by omega, e1, vp_cell_i]
    congr 2
    funext j
    show _ = Value.int (Int32.ofInt (S (n + 1) j))
    rw [(hz (n + 1) (by omega) j).2]
    rfl
  have h2 := h p e s m args below meth c H1 locs lz X hR2 hC (cs_c trivial (cs_t hs)) hl hv (vaS_push hS z1 o1)
  rw [List.map_cons, cv_r (by omega), show G.ad (n + 1) = H.size by omega] at h2
  exact h2
theorem At.newZ {G : GG} {Y : YY} {d pc : Nat} {ls : List (Nat × VV)} {st : List VV} {n : Nat} {R : Nat → Nat → Nat} {S : Nat → Nat → Int} {k sl : Nat} {Φ : Option VV → MM → Prop} {N : Nat} {z : Int} (hd : decode Y.2.1 pc = .ok (.newarray .boolean, 2)) (hN : (N : Int) = z) (hN2 : N ≤ 10000) (hsh : sh (n + 1) = (23, N)) (hz : ZB R S n) (hn : n + 1 ≤ 100000) (hks : k + 1 ≤ Y.2.2.2.2.1 ∧ sl + N ≤ Y.2.2.2.2.2) (h : At G Y d (pc + 2) ls (vr (n + 1) :: st) (n + 1, R, S) (k + 1) (sl + N) Φ) : At G Y d (pc) ls (vi z :: st) (n, R, S) (k) (sl) Φ := by
  intro p e s m args below meth c H locs lz X hR hC hs hl hv hS
  subst hN
  have hts := X.2.2.2.2.2.2.2.1
  have hG := X.2.2.2.2.2.2.2.2.1
  have hK := X.2.2.2.2.2.2.2.2.2.1
  have hsz : H.size = G.h0.size + n := hR.1
  have had := hG (n + 1) (by omega) hn
  have hci := cs_h hs
  refine va_newaK (atype := .boolean) (N := N) X.1 X.2.1 (hts _ wac_boolean) rfl hd rfl (by rw [← ii_0, ii_lt hci cI_0]; omega) (by rw [ix_nat hci]; omega) (Nat.le_trans (Nat.mul_le_mul hN2 (show componentBytes .boolean ≤ 8 by decide)) (by decide)) hks.1 hks.2 rfl fun H1 cA e1 z1 o1 hAr hNm => ?_
  have ecA : cA = G.cy 23 := by
    have q := (hK.2 3 _ rfl).2
    have q2 : s.vm.findClass ("[" ++ (FieldType.boolean).toString) = some (G.cy 23) := q
    exact Option.some.inj (hNm.symm.trans q2)
  subst ecA
  have hR2 : Rep G (n + 1, R, S) H1 := by
    refine hR.push hG hn z1 o1 ?_
    rw [ec_int hsh (by decide)]
    show H1[G.ad (n + 1)]? = some (vp_cell _ _)
    rw [show G.ad (n + 1) = H.size by omega, e1, vp_cell_i]
    congr 2
    funext j
    show _ = Value.int (Int32.ofInt (S (n + 1) j))
    rw [(hz (n + 1) (by omega) j).2]
    rfl
  have h2 := h p e s m args below meth c H1 locs lz X hR2 hC (cs_c trivial (cs_t hs)) hl hv (vaS_push hS z1 o1)
  rw [List.map_cons, cv_r (by omega), show G.ad (n + 1) = H.size by omega] at h2
  exact h2
theorem wov_S : Cond.arrayOver (.object RX6) ∈ lw_nest := ns_mem (u42_in _ (List.mem_of_getElem? (i := 6) rfl)) rfl
theorem At.anewS {G : GG} {Y : YY} {d pc : Nat} {ls : List (Nat × VV)} {st : List VV} {n : Nat} {R : Nat → Nat → Nat} {S : Nat → Nat → Int} {k sl : Nat} {Φ : Option VV → MM → Prop} {N idx : Nat} {z : Int} (hd : decode Y.2.1 pc = .ok (.anewarray idx, 3)) (hw1 : Cond.classLink Y.1.cls idx RX6 ∈ lw_good) (hN : (N : Int) = z) (hN2 : N ≤ 10000) (hsh : sh (n + 1) = (24, N)) (hz : ZB R S n) (hn : n + 1 ≤ 100000) (hks : k + 1 ≤ Y.2.2.2.2.1 ∧ sl + N ≤ Y.2.2.2.2.2) (h : At G Y d (pc + 3) ls (vr (n + 1) :: st) (n + 1, R, S) (k + 1) (sl + N) Φ) : At G Y d (pc) ls (vi z :: st) (n, R, S) (k) (sl) Φ := by
  intro p e s m args below meth c H locs lz X hR hC hs hl hv hS
  subst hN
  have hts := X.2.2.2.2.2.2.2.1
  have hG := X.2.2.2.2.2.2.2.2.1
  have hK := X.2.2.2.2.2.2.2.2.2.1
  have hsz : H.size = G.h0.size + n := hR.1
  have had := hG (n + 1) (by omega) hn
  have hci := cs_h hs
  have en : (Int32.ofInt (N : Int)).toNatClampNeg = N := by rw [ix_nat hci]; omega
  refine W.anew X.1 X.2.1 X.2.2.2.2.2.1 (hts _ hw1) (va_AO.use (X.2.2.2.2.2.2.2.2.2.2.1 _ wov_S)) rfl hd rfl (by rw [← ii_0, ii_lt hci cI_0]; omega) (by rw [en]; exact Nat.le_trans (Nat.mul_le_mul_right 4 hN2) (by decide)) hks.1 (by rw [en]; exact hks.2) fun cA kA comp e1 e2 e3 e4 => ?_
  rw [en]
  have ecA : cA = G.cy 24 := by
    obtain ⟨kA', comp', q1, q2, q3, q4⟩ := (hK.2 4 _ rfl).2
    exact Option.some.inj (e1.symm.trans q4)
  subst ecA
  generalize hH1 : H.push { cls := G.cy 24, slots := Array.replicate N .null, vm := .none } = H1
  have z1 : H1.size = H.size + 1 := by rw [← hH1]; simp
  have o1 : ∀ q, q < H.size → H1[q]? = H[q]? := fun q hq => by rw [← hH1, Array.getElem?_push, if_neg (Nat.ne_of_lt hq)]
  have hR2 : Rep G (n + 1, R, S) H1 := by
    refine hR.push hG hn z1 o1 ?_
    rw [ec_ref hsh (by decide)]
    show H1[G.ad (n + 1)]? = some (vp_cell _ _)
    rw [show G.ad (n + 1) = H.size by omega, ← hH1, vp_cell_q]
    simp only [Array.getElem?_push_size]
    congr 1
    unfold arrV
    congr 1
    apply Array.ext
    · simp
    · intro i h1 h2
      simp only [Array.getElem_replicate, Array.getElem_ofFn]
      show Value.null = va_rf (rfo G.ad (R (n + 1) i))
      rw [(hz (n + 1) (by omega) i).1]
      rfl
  have h2 := h p e s m args below meth c H1 locs lz X hR2 hC (cs_c trivial (cs_t hs)) hl hv (vaS_push hS z1 o1)
  rw [List.map_cons, cv_r (by omega), show G.ad (n + 1) = H.size by omega] at h2
  exact h2
theorem At.aastS {G : GG} {Y : YY} {d pc : Nat} {ls : List (Nat × VV)} {st : List VV} {n : Nat} {R : Nat → Nat → Nat} {S : Nat → Nat → Int} {k sl : Nat} {Φ : Option VV → MM → Prop} {r N q N2 : Nat} {i : Int} (hd : decode Y.2.1 pc = .ok (.aastore, 1)) (hsh : sh r = (24, N)) (hr : r ≤ n) (hq : sh q = (6, N2)) (hqn : q ≤ n) (h0 : 0 ≤ i) (h1 : i < N) (h : At G Y d (pc + 1) ls (st) (n, up R r i.toNat q, S) (k) (sl) Φ) : At G Y d (pc) ls (vr q :: vi i :: vr r :: st) (n, R, S) (k) (sl) Φ := by
  intro p e s m args below meth c H locs lz X hR hC hs hl hv hS
  have hr1 := sh_pos hsh (by decide)
  have hq1 := sh_pos hq (by decide)
  have hG := X.2.2.2.2.2.2.2.2.1
  have hK := X.2.2.2.2.2.2.2.2.2.1
  have hat := hR.2.2.2 r hr1 hr
  rw [ec_ref hsh (by decide)] at hat
  have hatq := hR.2.2.2 q hq1 hqn
  rw [ec_obj hq (by decide)] at hatq
  have hci := cs_h (cs_t hs)
  obtain ⟨r', hr', cellV, g1, g2, g3, -⟩ := hatq
  obtain ⟨hcC, -⟩ := cl_6
  have hcls := (hK.1 6 _ hcC).2
  obtain ⟨kA, comp, k1, k2, k3, -⟩ := (hK.2 4 _ rfl).2
  have hcomp : comp = G.D.1 6 := Option.some.inj (k3.symm.trans hcls.1)
  subst hcomp
  obtain ⟨kC, hkC, -⟩ := id hcls.2
  have hin := ix_in hci h0 h1
  have hlt : (Int32.ofInt i).toNatClampNeg < N := by rw [ix_nat hci]; omega
  rw [List.map_cons, List.map_cons, List.map_cons, cv_r (r := r) (by omega), cv_r (r := q) (by omega)]
  refine W.aast X.1 X.2.1 hat (fun q h => by cases h) (fun h => by cases h) k1 k2 rfl hkC ⟨fun e => hin (Or.inl e), by show _ < (arrV _ _ _).slots.size; rw [arrV_size]; exact hlt⟩ g1 (fun q h => by rw [g3] at h; cases h) (by rw [g2]; exact hkC) (by rw [g2]; exact va_assign hcls) rfl rfl hd fun H1 e1 z1 oq => ?_
  refine h p e s m args below meth c H1 _ lz X (hR.put hG hr1 hr rfl z1 oq (fun r' hne => ec_row (fun i => up_ne hne) (fun _ => rfl)) ?_) hC (cs_t (cs_t (cs_t hs))) hl hv (hS.put z1 oq (ALo_ad hG hr1 (by have := hR.2.1; omega)))
  rw [ec_ref hsh (by decide)]
  show H1[G.ad r]? = some (vp_cell _ _)
  rw [e1, vp_cell_q, vp_cell_q, arrV_store, ix_nat hci]
  congr 2
  funext x
  by_cases hx : x = i.toNat
  · subst hx
    simp [updV, up, rfo, va_rf, show q ≠ 0 by omega]
  · simp [updV, up, hx]
theorem wov_Q : Cond.arrayOver (.object RX9) ∈ lw_nest := ns_mem (u44_in _ (List.mem_of_getElem? (i := 4) rfl)) rfl
theorem At.anewQ {G : GG} {Y : YY} {d pc : Nat} {ls : List (Nat × VV)} {st : List VV} {n : Nat} {R : Nat → Nat → Nat} {S : Nat → Nat → Int} {k sl : Nat} {Φ : Option VV → MM → Prop} {N idx : Nat} {z : Int} (hd : decode Y.2.1 pc = .ok (.anewarray idx, 3)) (hw1 : Cond.classLink Y.1.cls idx RX9 ∈ lw_good) (hN : (N : Int) = z) (hN2 : N ≤ 10000) (hsh : sh (n + 1) = (25, N)) (hz : ZB R S n) (hn : n + 1 ≤ 100000) (hks : k + 1 ≤ Y.2.2.2.2.1 ∧ sl + N ≤ Y.2.2.2.2.2) (h : At G Y d (pc + 3) ls (vr (n + 1) :: st) (n + 1, R, S) (k + 1) (sl + N) Φ) : At G Y d (pc) ls (vi z :: st) (n, R, S) (k) (sl) Φ := by
  intro p e s m args below meth c H locs lz X hR hC hs hl hv hS
  subst hN
  have hts := X.2.2.2.2.2.2.2.1
  have hG := X.2.2.2.2.2.2.2.2.1
  have hK := X.2.2.2.2.2.2.2.2.2.1
  have hsz : H.size = G.h0.size + n := hR.1
  have had := hG (n + 1) (by omega) hn
  have hci := cs_h hs
  have en : (Int32.ofInt (N : Int)).toNatClampNeg = N := by rw [ix_nat hci]; omega
  refine W.anew X.1 X.2.1 X.2.2.2.2.2.1 (hts _ hw1) (va_AO.use (X.2.2.2.2.2.2.2.2.2.2.1 _ wov_Q)) rfl hd rfl (by rw [← ii_0, ii_lt hci cI_0]; omega) (by rw [en]; exact Nat.le_trans (Nat.mul_le_mul_right 4 hN2) (by decide)) hks.1 (by rw [en]; exact hks.2) fun cA kA comp e1 e2 e3 e4 => ?_
  rw [en]
  have ecA : cA = G.cy 25 := by
    obtain ⟨kA', comp', q1, q2, q3, q4⟩ := (hK.2 5 _ rfl).2
    exact Option.some.inj (e1.symm.trans q4)
  subst ecA
  generalize hH1 : H.push { cls := G.cy 25, slots := Array.replicate N .null, vm := .none } = H1
  have z1 : H1.size = H.size + 1 := by rw [← hH1]; simp
  have o1 : ∀ q, q < H.size → H1[q]? = H[q]? := fun q hq => by rw [← hH1, Array.getElem?_push, if_neg (Nat.ne_of_lt hq)]
  have hR2 : Rep G (n + 1, R, S) H1 := by
    refine hR.push hG hn z1 o1 ?_
    rw [ec_ref hsh (by decide)]
    show H1[G.ad (n + 1)]? = some (vp_cell _ _)
    rw [show G.ad (n + 1) = H.size by omega, ← hH1, vp_cell_q]
    simp only [Array.getElem?_push_size]
    congr 1
    unfold arrV
    congr 1
    apply Array.ext
    · simp
    · intro i h1 h2
      simp only [Array.getElem_replicate, Array.getElem_ofFn]
      show Value.null = va_rf (rfo G.ad (R (n + 1) i))
      rw [(hz (n + 1) (by omega) i).1]
      rfl
  have h2 := h p e s m args below meth c H1 locs lz X hR2 hC (cs_c trivial (cs_t hs)) hl hv (vaS_push hS z1 o1)
  rw [List.map_cons, cv_r (by omega), show G.ad (n + 1) = H.size by omega] at h2
  exact h2
theorem At.aastQ {G : GG} {Y : YY} {d pc : Nat} {ls : List (Nat × VV)} {st : List VV} {n : Nat} {R : Nat → Nat → Nat} {S : Nat → Nat → Int} {k sl : Nat} {Φ : Option VV → MM → Prop} {r N q N2 : Nat} {i : Int} (hd : decode Y.2.1 pc = .ok (.aastore, 1)) (hsh : sh r = (25, N)) (hr : r ≤ n) (hq : sh q = (9, N2)) (hqn : q ≤ n) (h0 : 0 ≤ i) (h1 : i < N) (h : At G Y d (pc + 1) ls (st) (n, up R r i.toNat q, S) (k) (sl) Φ) : At G Y d (pc) ls (vr q :: vi i :: vr r :: st) (n, R, S) (k) (sl) Φ := by
  intro p e s m args below meth c H locs lz X hR hC hs hl hv hS
  have hr1 := sh_pos hsh (by decide)
  have hq1 := sh_pos hq (by decide)
  have hG := X.2.2.2.2.2.2.2.2.1
  have hK := X.2.2.2.2.2.2.2.2.2.1
  have hat := hR.2.2.2 r hr1 hr
  rw [ec_ref hsh (by decide)] at hat
  have hatq := hR.2.2.2 q hq1 hqn
  rw [ec_obj hq (by decide)] at hatq
  have hci := cs_h (cs_t hs)
  obtain ⟨r', hr', cellV, g1, g2, g3, -⟩ := hatq
  obtain ⟨hcC, -⟩ := cl_9
  have hcls := (hK.1 9 _ hcC).2
  obtain ⟨kA, comp, k1, k2, k3, -⟩ := (hK.2 5 _ rfl).2
  have hcomp : comp = G.D.1 9 := Option.some.inj (k3.symm.trans hcls.1)
  subst hcomp
  obtain ⟨kC, hkC, -⟩ := id hcls.2
  have hin := ix_in hci h0 h1
  have hlt : (Int32.ofInt i).toNatClampNeg < N := by rw [ix_nat hci]; omega
  rw [List.map_cons, List.map_cons, List.map_cons, cv_r (r := r) (by omega), cv_r (r := q) (by omega)]
  refine W.aast X.1 X.2.1 hat (fun q h => by cases h) (fun h => by cases h) k1 k2 rfl hkC ⟨fun e => hin (Or.inl e), by show _ < (arrV _ _ _).slots.size; rw [arrV_size]; exact hlt⟩ g1 (fun q h => by rw [g3] at h; cases h) (by rw [g2]; exact hkC) (by rw [g2]; exact va_assign hcls) rfl rfl hd fun H1 e1 z1 oq => ?_
  refine h p e s m args below meth c H1 _ lz X (hR.put hG hr1 hr rfl z1 oq (fun r' hne => ec_row (fun i => up_ne hne) (fun _ => rfl)) ?_) hC (cs_t (cs_t (cs_t hs))) hl hv (hS.put z1 oq (ALo_ad hG hr1 (by have := hR.2.1; omega)))
  rw [ec_ref hsh (by decide)]
  show H1[G.ad r]? = some (vp_cell _ _)
  rw [e1, vp_cell_q, vp_cell_q, arrV_store, ix_nat hci]
  congr 2
  funext x
  by_cases hx : x = i.toNat
  · subst hx
    simp [updV, up, rfo, va_rf, show q ≠ 0 by omega]
  · simp [updV, up, hx]
theorem wov_T : Cond.arrayOver (.object RX8) ∈ lw_nest := ns_mem (u44_in _ (List.mem_of_getElem? (i := 5) rfl)) rfl
theorem At.anewT {G : GG} {Y : YY} {d pc : Nat} {ls : List (Nat × VV)} {st : List VV} {n : Nat} {R : Nat → Nat → Nat} {S : Nat → Nat → Int} {k sl : Nat} {Φ : Option VV → MM → Prop} {N idx : Nat} {z : Int} (hd : decode Y.2.1 pc = .ok (.anewarray idx, 3)) (hw1 : Cond.classLink Y.1.cls idx RX8 ∈ lw_good) (hN : (N : Int) = z) (hN2 : N ≤ 10000) (hsh : sh (n + 1) = (26, N)) (hz : ZB R S n) (hn : n + 1 ≤ 100000) (hks : k + 1 ≤ Y.2.2.2.2.1 ∧ sl + N ≤ Y.2.2.2.2.2) (h : At G Y d (pc + 3) ls (vr (n + 1) :: st) (n + 1, R, S) (k + 1) (sl + N) Φ) : At G Y d (pc) ls (vi z :: st) (n, R, S) (k) (sl) Φ := by
  intro p e s m args below meth c H locs lz X hR hC hs hl hv hS
  subst hN
  have hts := X.2.2.2.2.2.2.2.1
  have hG := X.2.2.2.2.2.2.2.2.1
  have hK := X.2.2.2.2.2.2.2.2.2.1
  have hsz : H.size = G.h0.size + n := hR.1
  have had := hG (n + 1) (by omega) hn
  have hci := cs_h hs
  have en : (Int32.ofInt (N : Int)).toNatClampNeg = N := by rw [ix_nat hci]; omega
  refine W.anew X.1 X.2.1 X.2.2.2.2.2.1 (hts _ hw1) (va_AO.use (X.2.2.2.2.2.2.2.2.2.2.1 _ wov_T)) rfl hd rfl (by rw [← ii_0, ii_lt hci cI_0]; omega) (by rw [en]; exact Nat.le_trans (Nat.mul_le_mul_right 4 hN2) (by decide)) hks.1 (by rw [en]; exact hks.2) fun cA kA comp e1 e2 e3 e4 => ?_
  rw [en]
  have ecA : cA = G.cy 26 := by
    obtain ⟨kA', comp', q1, q2, q3, q4⟩ := (hK.2 6 _ rfl).2
    exact Option.some.inj (e1.symm.trans q4)
  subst ecA
  generalize hH1 : H.push { cls := G.cy 26, slots := Array.replicate N .null, vm := .none } = H1
  have z1 : H1.size = H.size + 1 := by rw [← hH1]; simp
  have o1 : ∀ q, q < H.size → H1[q]? = H[q]? := fun q hq => by rw [← hH1, Array.getElem?_push, if_neg (Nat.ne_of_lt hq)]
  have hR2 : Rep G (n + 1, R, S) H1 := by
    refine hR.push hG hn z1 o1 ?_
    rw [ec_ref hsh (by decide)]
    show H1[G.ad (n + 1)]? = some (vp_cell _ _)
    rw [show G.ad (n + 1) = H.size by omega, ← hH1, vp_cell_q]
    simp only [Array.getElem?_push_size]
    congr 1
    unfold arrV
    congr 1
    apply Array.ext
    · simp
    · intro i h1 h2
      simp only [Array.getElem_replicate, Array.getElem_ofFn]
      show Value.null = va_rf (rfo G.ad (R (n + 1) i))
      rw [(hz (n + 1) (by omega) i).1]
      rfl
  have h2 := h p e s m args below meth c H1 locs lz X hR2 hC (cs_c trivial (cs_t hs)) hl hv (vaS_push hS z1 o1)
  rw [List.map_cons, cv_r (by omega), show G.ad (n + 1) = H.size by omega] at h2
  exact h2
theorem At.aastT {G : GG} {Y : YY} {d pc : Nat} {ls : List (Nat × VV)} {st : List VV} {n : Nat} {R : Nat → Nat → Nat} {S : Nat → Nat → Int} {k sl : Nat} {Φ : Option VV → MM → Prop} {r N q N2 : Nat} {i : Int} (hd : decode Y.2.1 pc = .ok (.aastore, 1)) (hsh : sh r = (26, N)) (hr : r ≤ n) (hq : sh q = (8, N2)) (hqn : q ≤ n) (h0 : 0 ≤ i) (h1 : i < N) (h : At G Y d (pc + 1) ls (st) (n, up R r i.toNat q, S) (k) (sl) Φ) : At G Y d (pc) ls (vr q :: vi i :: vr r :: st) (n, R, S) (k) (sl) Φ := by
  intro p e s m args below meth c H locs lz X hR hC hs hl hv hS
  have hr1 := sh_pos hsh (by decide)
  have hq1 := sh_pos hq (by decide)
  have hG := X.2.2.2.2.2.2.2.2.1
  have hK := X.2.2.2.2.2.2.2.2.2.1
  have hat := hR.2.2.2 r hr1 hr
  rw [ec_ref hsh (by decide)] at hat
  have hatq := hR.2.2.2 q hq1 hqn
  rw [ec_obj hq (by decide)] at hatq
  have hci := cs_h (cs_t hs)
  obtain ⟨r', hr', cellV, g1, g2, g3, -⟩ := hatq
  obtain ⟨hcC, -⟩ := cl_8
  have hcls := (hK.1 8 _ hcC).2
  obtain ⟨kA, comp, k1, k2, k3, -⟩ := (hK.2 6 _ rfl).2
  have hcomp : comp = G.D.1 8 := Option.some.inj (k3.symm.trans hcls.1)
  subst hcomp
  obtain ⟨kC, hkC, -⟩ := id hcls.2
  have hin := ix_in hci h0 h1
  have hlt : (Int32.ofInt i).toNatClampNeg < N := by rw [ix_nat hci]; omega
  rw [List.map_cons, List.map_cons, List.map_cons, cv_r (r := r) (by omega), cv_r (r := q) (by omega)]
  refine W.aast X.1 X.2.1 hat (fun q h => by cases h) (fun h => by cases h) k1 k2 rfl hkC ⟨fun e => hin (Or.inl e), by show _ < (arrV _ _ _).slots.size; rw [arrV_size]; exact hlt⟩ g1 (fun q h => by rw [g3] at h; cases h) (by rw [g2]; exact hkC) (by rw [g2]; exact va_assign hcls) rfl rfl hd fun H1 e1 z1 oq => ?_
  refine h p e s m args below meth c H1 _ lz X (hR.put hG hr1 hr rfl z1 oq (fun r' hne => ec_row (fun i => up_ne hne) (fun _ => rfl)) ?_) hC (cs_t (cs_t (cs_t hs))) hl hv (hS.put z1 oq (ALo_ad hG hr1 (by have := hR.2.1; omega)))
  rw [ec_ref hsh (by decide)]
  show H1[G.ad r]? = some (vp_cell _ _)
  rw [e1, vp_cell_q, vp_cell_q, arrV_store, ix_nat hci]
  congr 2
  funext x
  by_cases hx : x = i.toNat
  · subst hx
    simp [updV, up, rfo, va_rf, show q ≠ 0 by omega]
  · simp [updV, up, hx]
theorem w_oim : Cond.instanceMethod Lib.objectInit ∈ lw_good := gd_mem (u3_in _ (List.mem_of_getElem? (i := 5) rfl)) rfl
theorem w_oco : Cond.code Lib.objectInit ⟨#[0xb1]⟩ 1 none ∈ lw_good := gd_mem (u3_in _ (List.mem_of_getElem? (i := 6) rfl)) rfl
theorem At.putR {G : GG} {Y : YY} {d pc : Nat} {ls : List (Nat × VV)} {st : List VV} {n : Nat} {R : Nat → Nat → Nat} {S : Nat → Nat → Int} {k sl : Nat} {Φ : Option VV → MM → Prop} {r ci N j idx q : Nat} {C : String} {T : u_T} (hd : decode Y.2.1 pc = .ok (.putfield idx, 3)) (hcl : CLS ci N C T) (hj : j < N) (hlink : Cond.fieldLink Y.1.cls idx (T j).1 (T j).2.1 (T j).2.2.1 ∈ lw_good) (hfin : (T j).2.2.2 = true) (hin2 : Y.1.name = "<init>") (hdecl : (T j).1 = Y.1.cls) (hsh : sh r = (ci, N)) (hr : r ≤ n) (hy : fty ci j = 2) (hty : ∀ t : FieldType, parseFieldDescriptor (T j).2.2.1 = some t → (∃ x, t = .object x) ∨ ∃ x, t = .array x) (h : At G Y d (pc + 3) ls (st) (n, up R r j q, S) (k) (sl) Φ) : At G Y d (pc) ls (vr q :: vr r :: st) (n, R, S) (k) (sl) Φ := by
  intro p e s m args below meth c H locs lz X hR hC hs hl hv hS
  obtain ⟨hcC, hci, hin, ⟨ty0, ht1, ht2⟩, hnm⟩ := hcl
  have hr1 := sh_pos hsh (by omega)
  have hG := X.2.2.2.2.2.2.2.2.1
  have hK := X.2.2.2.2.2.2.2.2.2.1
  have hts := X.2.2.2.2.2.2.2.1
  have hat := hR.2.2.2 r hr1 hr
  have hP := va_P1 hat
  rw [ec_obj hsh hci] at hP
  have hap := va_apart (own := Y.1.cls) hts hin ty0 ht1 hnm hK hcC
  obtain ⟨r0, h1, cell, q1, q2, q3, q4⟩ := hP 0 _ rfl
  have hr0 : r0 = (C, T, N) := Option.some.inj (h1.symm.trans hcC)
  subst hr0
  obtain ⟨hS9, hfc, kC, hkC, hkind⟩ := hK.1 ci _ hcC
  obtain ⟨cf, kf, fi, f, hi, hsl⟩ := hS9 j hj
  have hlay := hts _ (hin _ (u_in_lay hj))
  unfold u_lay at hlay
  rw [if_pos hfin] at hlay
  have hst := (u_facts hfc hkC (u_lays hts hin hj) hi).1
  have hcf : m.cls = cf := by
    obtain ⟨_, _, c', _, _, _, -, -, hf', -, -, -, hown2, -⟩ := Cond.laysFinal_spec hlay
    have e1 : c' = cf := by have := hi.symm.trans hf'; simp at this; exact this.1.symm
    rw [hdecl] at hown2
    rw [← e1]; exact Option.some.inj (X.2.2.2.2.2.1.symm.trans hown2)
  have hvv : cv G.ad (vr q) = .null ∨ ∃ a, cv G.ad (vr q) = .ref a := if h : q = 0 then Or.inl (by rw [h]; exact cv_0) else Or.inr ⟨_, cv_r h⟩
  have h6 := u_fits (v := cv G.ad (vr q)) hfc hkC hkind (Or.inr hlay) hi (ht1 j hj) (by rcases hty _ (ht1 j hj) with ⟨x, hx⟩ | ⟨x, hx⟩ <;> rw [hx] <;> rcases hvv with hv | ⟨a, hv⟩ <;> rw [hv] <;> rfl) (by rcases hty _ (ht1 j hj) with ⟨x, hx⟩ | ⟨x, hx⟩ <;> rw [hx] <;> rcases hvv with hv | ⟨a, hv⟩ <;> rw [hv] <;> rfl)
  rw [List.map_cons, List.map_cons, cv_r (r := r) (by omega)]
  refine W.putFinK X.1 X.2.1 X.2.2.2.2.2.1 (hts _ hlink) hi hst hcf (X.2.2.2.2.2.2.1.trans hin2) (by rw [q2]; exact h6) q1 q3 (by rw [hsl]; exact k2_hasslot (q4 j hj)) rfl rfl hd fun H' e1 e2 e3 => ?_
  rw [hsl] at e1
  refine h p e s m args below meth c H' _ lz X (hR.put hG hr1 hr rfl e2 e3 (fun r' hne => ec_row (fun i => up_ne hne) (fun _ => rfl)) ?_) hC (cs_t (cs_t hs)) hl hv (hS.put e2 e3 (ALo_ad hG hr1 (by have := hR.2.1; omega)))
  rw [ec_obj hsh hci]
  refine ⟨_, hcC, t_OB.to (V := updV (vp_V ((List.range N).map (fun j => fval G.ad (n, R, S) ci r j))) j (cv G.ad (vr q))) ⟨_, e1, q2, q3, t_set q4 hap hj _⟩ (fun i hi => ?_)⟩
  unfold updV vp_V
  rw [List.getD_eq_getElem?_getD, List.getD_eq_getElem?_getD, ec_obj_at hi, ec_obj_at hi]
  by_cases hij : i = j
  · subst hij; rw [if_pos rfl]
    show _ = fval _ _ _ _ _
    unfold fval
    rw [if_neg (by omega), if_pos hy]
    show _ = va_rf (rfo G.ad (up R r i q r i))
    rw [up_self]
    rfl
  · rw [if_neg hij]
    show fval _ _ _ _ _ = fval _ _ _ _ _
    unfold fval up
    simp [hij]
theorem At.objI {G : GG} {Y : YY} {d pc : Nat} {ls : List (Nat × VV)} {st : List VV} {n : Nat} {R : Nat → Nat → Nat} {S : Nat → Nat → Int} {k sl : Nat} {Φ : Option VV → MM → Prop} {r idx : Nat} (hd : decode Y.2.1 pc = .ok (.invokespecial idx, 3)) (hw : Cond.methodLink Y.1.cls idx Lib.objectInit ∈ lw_good) (hr : r ≠ 0) (hrm : (st.map cat).sum ≤ 8) (hdd : 1 ≤ d) (h : At G Y d (pc + 3) ls (st) (n, R, S) (k) (sl) Φ) : At G Y d (pc) ls (vr r :: st) (n, R, S) (k) (sl) Φ := by
  intro p e s m args below meth c H locs lz X hR hC hs hl hv hS
  have hts := X.2.2.2.2.2.2.2.1
  rw [List.map_cons, cv_r hr]
  exact W.objInit X.1 X.2.1 X.2.2.2.2.2.1 (hts _ hw) (hts _ w_oim) (hts _ w_oco) rfl (hv.1.trans X.2.2.1.symm) rfl hd (by show 1 ≤ d; omega) (by have := rs_room (ad := G.ad) hrm; show 2 * 0 + _ + 12 ≤ 40 * d; omega) (h p e s m args below meth c H locs lz X hR hC (cs_t hs) hl hv hS)
theorem df_0 : ∀ j, j < 4 → defaultValue (tyX0 j) = fdef 0 j := by decide
theorem wi_0 : Cond.instantiable RX0 4 ∈ lw_good := gd_mem (u29_in _ (List.mem_of_getElem? (i := 3) rfl)) rfl
theorem wn_0 : Cond.initialized RX0 ∈ lw_good := gd_mem (u0_in _ (List.mem_of_getElem? (i := 7) rfl)) rfl
theorem df_1 : ∀ j, j < 4 → defaultValue (tyX1 j) = fdef 1 j := by decide
theorem wi_1 : Cond.instantiable RX1 4 ∈ lw_good := gd_mem (u39_in _ (List.mem_of_getElem? (i := 3) rfl)) rfl
theorem wn_1 : Cond.initialized RX1 ∈ lw_good := gd_mem (u1_in _ (List.mem_of_getElem? (i := 2) rfl)) rfl
theorem df_2 : ∀ j, j < 3 → defaultValue (tyX2 j) = fdef 2 j := by decide
theorem wi_2 : Cond.instantiable RX2 3 ∈ lw_good := gd_mem (u42_in _ (List.mem_of_getElem? (i := 0) rfl)) rfl
theorem wn_2 : Cond.initialized RX2 ∈ lw_good := gd_mem (u1_in _ (List.mem_of_getElem? (i := 3) rfl)) rfl
theorem df_3 : ∀ j, j < 11 → defaultValue (tyX3 j) = fdef 3 j := by decide
theorem wi_3 : Cond.instantiable RX3 11 ∈ lw_good := gd_mem (u17_in _ (List.mem_of_getElem? (i := 3) rfl)) rfl
theorem wn_3 : Cond.initialized RX3 ∈ lw_good := gd_mem (u0_in _ (List.mem_of_getElem? (i := 4) rfl)) rfl
theorem df_4 : ∀ j, j < 7 → defaultValue (tyX4 j) = fdef 4 j := by decide
theorem wi_4 : Cond.instantiable RX4 7 ∈ lw_good := gd_mem (u24_in _ (List.mem_of_getElem? (i := 0) rfl)) rfl
theorem wn_4 : Cond.initialized RX4 ∈ lw_good := gd_mem (u0_in _ (List.mem_of_getElem? (i := 6) rfl)) rfl
theorem df_5 : ∀ j, j < 4 → defaultValue (tyX5 j) = fdef 5 j := by decide
theorem wi_5 : Cond.instantiable RX5 4 ∈ lw_good := gd_mem (u23_in _ (List.mem_of_getElem? (i := 2) rfl)) rfl
theorem wn_5 : Cond.initialized RX5 ∈ lw_good := gd_mem (u0_in _ (List.mem_of_getElem? (i := 5) rfl)) rfl
theorem df_6 : ∀ j, j < 4 → defaultValue (tyX6 j) = fdef 6 j := by decide
theorem wi_6 : Cond.instantiable RX6 4 ∈ lw_good := gd_mem (u4_in _ (List.mem_of_getElem? (i := 6) rfl)) rfl
theorem wn_6 : Cond.initialized RX6 ∈ lw_good := gd_mem (u0_in _ (List.mem_of_getElem? (i := 3) rfl)) rfl
theorem df_7 : ∀ j, j < 4 → defaultValue (tyX7 j) = fdef 7 j := by decide
theorem wi_7 : Cond.instantiable RX7 4 ∈ lw_good := gd_mem (u36_in _ (List.mem_of_getElem? (i := 6) rfl)) rfl
theorem wn_7 : Cond.initialized RX7 ∈ lw_good := gd_mem (u1_in _ (List.mem_of_getElem? (i := 1) rfl)) rfl
theorem df_8 : ∀ j, j < 14 → defaultValue (tyX8 j) = fdef 8 j := by decide
theorem wi_8 : Cond.instantiable RX8 14 ∈ lw_good := gd_mem (u4_in _ (List.mem_of_getElem? (i := 0) rfl)) rfl
theorem wn_8 : Cond.initialized RX8 ∈ lw_good := gd_mem (u0_in _ (List.mem_of_getElem? (i := 2) rfl)) rfl
theorem df_9 : ∀ j, j < 3 → defaultValue (tyX9 j) = fdef 9 j := by decide
theorem wi_9 : Cond.instantiable RX9 3 ∈ lw_good := gd_mem (u44_in _ (List.mem_of_getElem? (i := 6) rfl)) rfl
theorem wn_9 : Cond.initialized RX9 ∈ lw_good := gd_mem (u1_in _ (List.mem_of_getElem? (i := 4) rfl)) rfl
theorem df_10 : ∀ j, j < 10 → defaultValue (tyX10 j) = fdef 10 j := by decide
theorem wi_10 : Cond.instantiable RX10 10 ∈ lw_good := gd_mem (u31_in _ (List.mem_of_getElem? (i := 7) rfl)) rfl
theorem wn_10 : Cond.initialized RX10 ∈ lw_good := gd_mem (u1_in _ (List.mem_of_getElem? (i := 0) rfl)) rfl
theorem df_11 : ∀ j, j < 16 → defaultValue (tyX11 j) = fdef 11 j := by decide
theorem wi_11 : Cond.instantiable RX11 16 ∈ lw_good := gd_mem (u3_in _ (List.mem_of_getElem? (i := 0) rfl)) rfl
theorem wn_11 : Cond.initialized RX11 ∈ lw_good := gd_mem (u0_in _ (List.mem_of_getElem? (i := 1) rfl)) rfl
theorem df_12 : ∀ j, j < 33 → defaultValue (tyX12 j) = fdef 12 j := by decide
theorem wi_12 : Cond.instantiable RX12 33 ∈ lw_good := gd_mem (u154_in _ (List.mem_of_getElem? (i := 6) rfl)) rfl
theorem wn_12 : Cond.initialized RX12 ∈ lw_good := gd_mem (u1_in _ (List.mem_of_getElem? (i := 5) rfl)) rfl
theorem wc_L_7 : Cond.classLink RL 7 RX11 ∈ lw_good := gd_mem (u2_in _ (List.mem_of_getElem? (i := 7) rfl)) rfl
theorem wo_X11_3 : Cond.methodLink RX11 3 Lib.objectInit ∈ lw_good := gd_mem (u3_in _ (List.mem_of_getElem? (i := 4) rfl)) rfl
theorem wc_X11_9 : Cond.classLink RX11 9 RX8 ∈ lw_good := gd_mem (u3_in _ (List.mem_of_getElem? (i := 7) rfl)) rfl
theorem wo_X8_3 : Cond.methodLink RX8 3 Lib.objectInit ∈ lw_good := gd_mem (u4_in _ (List.mem_of_getElem? (i := 4) rfl)) rfl
theorem wc_X8_24 : Cond.classLink RX8 24 RX6 ∈ lw_good := gd_mem (u4_in _ (List.mem_of_getElem? (i := 5) rfl)) rfl
theorem wo_X6_3 : Cond.methodLink RX6 3 Lib.objectInit ∈ lw_good := gd_mem (u5_in _ (List.mem_of_getElem? (i := 2) rfl)) rfl
theorem wc_X11_23 : Cond.classLink RX11 23 RX6 ∈ lw_good := gd_mem (u17_in _ (List.mem_of_getElem? (i := 0) rfl)) rfl
theorem wc_X11_32 : Cond.classLink RX11 32 RX3 ∈ lw_good := gd_mem (u17_in _ (List.mem_of_getElem? (i := 2) rfl)) rfl
theorem wo_X3_3 : Cond.methodLink RX3 3 Lib.objectInit ∈ lw_good := gd_mem (u17_in _ (List.mem_of_getElem? (i := 7) rfl)) rfl
theorem wc_X3_15 : Cond.classLink RX3 15 RX8 ∈ lw_good := gd_mem (u18_in _ (List.mem_of_getElem? (i := 0) rfl)) rfl
theorem wc_X11_39 : Cond.classLink RX11 39 RX5 ∈ lw_good := gd_mem (u23_in _ (List.mem_of_getElem? (i := 1) rfl)) rfl
theorem wo_X5_3 : Cond.methodLink RX5 3 Lib.objectInit ∈ lw_good := gd_mem (u23_in _ (List.mem_of_getElem? (i := 6) rfl)) rfl
theorem wc_X5_9 : Cond.classLink RX5 9 RX4 ∈ lw_good := gd_mem (u23_in _ (List.mem_of_getElem? (i := 7) rfl)) rfl
theorem wo_X4_1 : Cond.methodLink RX4 1 Lib.objectInit ∈ lw_good := gd_mem (u24_in _ (List.mem_of_getElem? (i := 4) rfl)) rfl
theorem wc_X11_48 : Cond.classLink RX11 48 RX0 ∈ lw_good := gd_mem (u29_in _ (List.mem_of_getElem? (i := 2) rfl)) rfl
theorem wo_X0_3 : Cond.methodLink RX0 3 Lib.objectInit ∈ lw_good := gd_mem (u29_in _ (List.mem_of_getElem? (i := 7) rfl)) rfl
theorem wc_X11_57 : Cond.classLink RX11 57 RX10 ∈ lw_good := gd_mem (u31_in _ (List.mem_of_getElem? (i := 6) rfl)) rfl
theorem wo_X10_3 : Cond.methodLink RX10 3 Lib.objectInit ∈ lw_good := gd_mem (u32_in _ (List.mem_of_getElem? (i := 3) rfl)) rfl
theorem wc_X11_69 : Cond.classLink RX11 69 RX7 ∈ lw_good := gd_mem (u36_in _ (List.mem_of_getElem? (i := 5) rfl)) rfl
theorem wo_X7_3 : Cond.methodLink RX7 3 Lib.objectInit ∈ lw_good := gd_mem (u37_in _ (List.mem_of_getElem? (i := 2) rfl)) rfl
theorem wc_X11_76 : Cond.classLink RX11 76 RX1 ∈ lw_good := gd_mem (u39_in _ (List.mem_of_getElem? (i := 2) rfl)) rfl
theorem wo_X1_3 : Cond.methodLink RX1 3 Lib.objectInit ∈ lw_good := gd_mem (u39_in _ (List.mem_of_getElem? (i := 7) rfl)) rfl
theorem wc_X1_9 : Cond.classLink RX1 9 RX6 ∈ lw_good := gd_mem (u40_in _ (List.mem_of_getElem? (i := 0) rfl)) rfl
theorem wc_X11_83 : Cond.classLink RX11 83 RX2 ∈ lw_good := gd_mem (u41_in _ (List.mem_of_getElem? (i := 7) rfl)) rfl
theorem wo_X2_3 : Cond.methodLink RX2 3 Lib.objectInit ∈ lw_good := gd_mem (u42_in _ (List.mem_of_getElem? (i := 4) rfl)) rfl
theorem wc_X2_9 : Cond.classLink RX2 9 RX6 ∈ lw_good := gd_mem (u42_in _ (List.mem_of_getElem? (i := 5) rfl)) rfl
theorem wc_X11_90 : Cond.classLink RX11 90 RX9 ∈ lw_good := gd_mem (u44_in _ (List.mem_of_getElem? (i := 3) rfl)) rfl
theorem wo_X9_3 : Cond.methodLink RX9 3 Lib.objectInit ∈ lw_good := gd_mem (u45_in _ (List.mem_of_getElem? (i := 2) rfl)) rfl
theorem wc_L_10 : Cond.classLink RL 10 RX12 ∈ lw_good := gd_mem (u154_in _ (List.mem_of_getElem? (i := 5) rfl)) rfl
theorem wo_X12_7 : Cond.methodLink RX12 7 Lib.objectInit ∈ lw_good := gd_mem (u155_in _ (List.mem_of_getElem? (i := 2) rfl)) rfl
