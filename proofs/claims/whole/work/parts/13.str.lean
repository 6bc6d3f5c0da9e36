def stB : List (List Int) := stByt.map (fun L => L.map (fun x => x.toInt))
def chA (i j : Nat) : Int := (stB.getD i []).getD j 0
theorem chA_eq (i j : Nat) : Int32.ofInt (chA i j) = (stByt.getD i []).getD j 0 := by
  unfold chA stB
  rw [List.getD_eq_getElem?_getD, List.getD_eq_getElem?_getD, List.getElem?_map]
  cases h : stByt[i]? with
  | none => simp [List.getD_eq_getElem?_getD, h]
  | some L =>
    simp only [Option.map_some, Option.getD_some, List.getD_eq_getElem?_getD, h, List.getElem?_map]
    cases h2 : L[j]? with
    | none => simp
    | some x => simp
theorem chA_c (i j : Nat) : cI (chA i j) := by
  unfold chA stB
  rw [List.getD_eq_getElem?_getD, List.getD_eq_getElem?_getD, List.getElem?_map]
  cases h : stByt[i]? with
  | none => simp; exact cI_0
  | some L =>
    simp only [Option.map_some, Option.getD_some, List.getElem?_map]
    cases h2 : L[j]? with
    | none => simp; exact cI_0
    | some x => simp; exact ii_c x
theorem At.ldcS {G : GG} {Y : YY} {d pc : Nat} {ls : List (Nat × VV)} {st : List VV} {M : MM} {k sl : Nat} {Φ : Option VV → MM → Prop} {idx q : Nat} {tx : String} (hz : ∀ U, Str G U → vk_R Y.1.cls idx tx (G.ad q) U) (hd : decode Y.2.1 pc = .ok (.ldc idx, 2)) (h : At G Y d (pc + 2) ls (vr q :: st) M k sl Φ) (hq : q ≠ 0 := by decide) : At G Y d (pc) ls (st) M k sl Φ := by
  intro p e s m args below meth c H locs lz X hR hC hs hl hv hS
  have h2 := h p e s m args below meth c H locs lz X hR hC (cs_c trivial hs) hl hv hS
  rw [List.map_cons, cv_r hq] at h2
  exact va_ldcS X.1 X.2.1 X.2.2.2.2.2.1 (hz s X.2.2.2.2.2.2.2.2.2.2.2) hd h2
theorem At.strVal {G : GG} {Y : YY} {d pc : Nat} {ls : List (Nat × VV)} {st : List VV} {M : MM} {k sl : Nat} {Φ : Option VV → MM → Prop} {i idx : Nat} (hi : i < 3) (hw : Cond.fieldLink Y.1.cls idx "java/lang/String" "value" "[B" ∈ lw_good) (hd : decode Y.2.1 pc = .ok (.getfield idx, 3)) (h : At G Y d (pc + 3) ls (vr (100011 + i) :: st) M k sl Φ) : At G Y d (pc) ls (vr (100001 + i) :: st) M k sl Φ := by
  intro p e s m args below meth c H locs lz X hR hC hs hl hv hS
  have h2 := h p e s m args below meth c H locs lz X hR hC (cs_c trivial (cs_t hs)) hl hv hS
  rw [List.map_cons, cv_r (by omega)] at h2
  rw [List.map_cons, cv_r (by omega)]
  obtain ⟨cf, kk, fi, f, cell, q1, q2, q3, q4, q5, q6⟩ := ((X.2.2.2.2.2.2.2.2.2.2.2.1).1 i hi).2.2.1.kept (fun a ha _ => hR.2.2.1 a ha)
  exact W.getf X.1 X.2.1 X.2.2.2.2.2.1 (X.2.2.2.2.2.2.2.1 _ hw) q1 q2 q3 q4 q5 rfl rfl hd h2
theorem At.strCod {G : GG} {Y : YY} {d pc : Nat} {ls : List (Nat × VV)} {st : List VV} {M : MM} {k sl : Nat} {Φ : Option VV → MM → Prop} {i idx : Nat} (hi : i < 3) (hw : Cond.fieldLink Y.1.cls idx "java/lang/String" "coder" "B" ∈ lw_good) (hd : decode Y.2.1 pc = .ok (.getfield idx, 3)) (h : At G Y d (pc + 3) ls (vi 0 :: st) M k sl Φ) : At G Y d (pc) ls (vr (100001 + i) :: st) M k sl Φ := by
  intro p e s m args below meth c H locs lz X hR hC hs hl hv hS
  have h2 := h p e s m args below meth c H locs lz X hR hC (cs_c cI_0 (cs_t hs)) hl hv hS
  rw [List.map_cons, cv_r (by omega)]
  obtain ⟨cf, kk, fi, f, cell, q1, q2, q3, q4, q5, q6⟩ := ((X.2.2.2.2.2.2.2.2.2.2.2.1).1 i hi).2.1.kept (fun a ha _ => hR.2.2.1 a ha)
  exact W.getf X.1 X.2.1 X.2.2.2.2.2.1 (X.2.2.2.2.2.2.2.1 _ hw) q1 q2 q3 q4 q5 rfl rfl hd h2
theorem At.getsC {G : GG} {Y : YY} {d pc : Nat} {ls : List (Nat × VV)} {st : List VV} {M : MM} {k sl : Nat} {Φ : Option VV → MM → Prop} {idx : Nat} (hw : Cond.fieldLink Y.1.cls idx "java/lang/String" "COMPACT_STRINGS" "Z" ∈ lw_good) (hd : decode Y.2.1 pc = .ok (.getstatic idx, 3)) (h : At G Y d (pc + 3) ls (vi 1 :: st) M k sl Φ) : At G Y d (pc) ls (st) M k sl Φ := by
  intro p e s m args below meth c H locs lz X hR hC hs hl hv hS
  have h2 := h p e s m args below meth c H locs lz X hR hC (cs_c (show cI 1 by unfold cI; omega) hs) hl hv hS
  obtain ⟨cf, kf, fi, f, a, cell, q1, q2, q3, q4, q5, q6, q7, q8⟩ := (X.2.2.2.2.2.2.2.2.2.2.2.2.2.1).kept (fun a ha _ => hR.2.2.1 a ha)
  exact W.gets X.1 X.2.1 X.2.2.2.2.2.1 (X.2.2.2.2.2.2.2.1 _ hw) q1 q2 q3 q4 q5 (fun e => by rw [e] at q6; cases q6) q7 rfl hd h2
theorem At.getsF {G : GG} {Y : YY} {d pc : Nat} {ls : List (Nat × VV)} {st : List VV} {M : MM} {k sl : Nat} {Φ : Option VV → MM → Prop} {idx : Nat} (hw : Cond.fieldLink Y.1.cls idx "jdk/internal/util/Preconditions" "SIOOBE_FORMATTER" "Ljava/util/function/BiFunction;" ∈ lw_good) (hd : decode Y.2.1 pc = .ok (.getstatic idx, 3)) (h : ∀ r, At G Y d (pc + 3) ls (vr r :: st) M k sl Φ) : At G Y d (pc) ls (st) M k sl Φ := by
  intro p e s m args below meth c H locs lz X hR hC hs hl hv hS
  obtain ⟨r, hz⟩ := X.2.2.2.2.2.2.2.2.2.2.2.2.2.2.1
  have h2 := h r p e s m args below meth c H locs lz X hR hC (cs_c trivial hs) hl hv hS
  obtain ⟨cf, kf, fi, f, a, cell, q1, q2, q3, q4, q5, q6, q7, q8⟩ := hz.kept (fun a ha _ => hR.2.2.1 a ha)
  exact W.gets X.1 X.2.1 X.2.2.2.2.2.1 (X.2.2.2.2.2.2.2.1 _ hw) q1 q2 q3 q4 q5 (fun e => by rw [e] at q6; cases q6) q7 rfl hd h2
theorem At.sbald {G : GG} {Y : YY} {d pc : Nat} {ls : List (Nat × VV)} {st : List VV} {M : MM} {k sl : Nat} {Φ : Option VV → MM → Prop} {i : Nat} {j : Int} (hi : i < 3) (h0 : 0 ≤ j) (h1 : j < (stLen.getD i 0 : Nat)) (hd : decode Y.2.1 pc = .ok (.baload, 1)) (h : At G Y d (pc + 1) ls (vi (chA i j.toNat) :: st) M k sl Φ) : At G Y d (pc) ls (vi j :: vr (100011 + i) :: st) M k sl Φ := by
  intro p e s m args below meth c H locs lz X hR hC hs hl hv hS
  have h2 := h p e s m args below meth c H locs lz X hR hC (cs_c (chA_c _ _) (cs_t (cs_t hs))) hl hv hS
  rw [List.map_cons, List.map_cons, cv_r (r := 100011 + i) (by omega)]
  obtain ⟨cell, q1, q2, q3, q4, q5, q6⟩ := ((X.2.2.2.2.2.2.2.2.2.2.2.1).1 i hi).2.2.2.kept (fun a ha _ => hR.2.2.1 a ha)
  have hj := cs_h hs
  refine W.bald (v := .int (Int32.ofInt (chA i j.toNat))) X.1 X.2.1 q1 q2 q3 (fun q => ix_in hj h0 h1 (q.imp id (fun q => Nat.le_trans q4 q))) ?_ rfl rfl hd h2
  rw [ix_nat hj, chA_eq]
  exact q6.1 _ (by omega)
theorem At.salen {G : GG} {Y : YY} {d pc : Nat} {ls : List (Nat × VV)} {st : List VV} {M : MM} {k sl : Nat} {Φ : Option VV → MM → Prop} {i : Nat} {z : Int} (hi : i < 3) (hz : ((stLen.getD i 0 : Nat) : Int) = z) (hd : decode Y.2.1 pc = .ok (.arraylength, 1)) (h : At G Y d (pc + 1) ls (vi z :: st) M k sl Φ) : At G Y d (pc) ls (vr (100011 + i) :: st) M k sl Φ := by
  intro p e s m args below meth c H locs lz X hR hC hs hl hv hS
  subst hz
  have hb : stLen.getD i 0 < 100 := by rcases (show i = 0 ∨ i = 1 ∨ i = 2 by omega) with rfl | rfl | rfl <;> decide
  have h2 := h p e s m args below meth c H locs lz X hR hC (cs_c (show cI ((stLen.getD i 0 : Nat) : Int) by unfold cI; omega) (cs_t hs)) hl hv hS
  rw [List.map_cons, cv_r (r := 100011 + i) (by omega)]
  obtain ⟨cell, q1, q2, q3, q4, q5, q6⟩ := ((X.2.2.2.2.2.2.2.2.2.2.2.1).1 i hi).2.2.2.kept (fun a ha _ => hR.2.2.1 a ha)
  exact W.alen (n := Int32.ofInt ((stLen.getD i 0 : Nat) : Int)) X.1 X.2.1 q1 q2 (q5.trans Int32.ofInt_eq_ofNat.symm) rfl rfl hd h2
theorem At.cret {G : GG} {Y : YY} {d pc : Nat} {ls : List (Nat × VV)} {M : MM} {k sl : Nat} {Φ : Option VV → MM → Prop} {z : Int} (hz : 0 ≤ z ∧ z < 256) (hrt : Y.2.2.2.1 = some .char) (hk : k ≤ Y.2.2.2.2.1) (hsl : sl ≤ Y.2.2.2.2.2) (hΦ : Φ (some (vi z)) M) (hd : decode Y.2.1 pc = .ok (.ireturn, 1)) : At G Y d (pc) ls ([vi z]) M k sl Φ := by
  intro p e s m args below meth c H locs lz X hR hC hs hl hv hS
  refine W.widen hk hsl ?_
  refine W.zret (ty := .char) X.1 X.2.1 (by rw [X.2.2.2.1]; exact hrt) ?_ (fun t ht hW => ⟨by rw [ht]; exact hS.1, some (vi z), M, rfl, by rw [ht]; exact hR, hC, hs, hΦ⟩) (fun q hq => hS.2.2 q hq) hd (hlocks := X.2.2.2.2.1)
  obtain ⟨n, rfl⟩ := Int.eq_ofNat_of_zero_le hz.1
  have : ∀ n : Nat, n < 256 → narrow .char (.int (Int32.ofInt (n : Int))) = .int (Int32.ofInt (n : Int)) := by decide +kernel
  exact this n (by omega)
theorem At.bret {G : GG} {Y : YY} {d pc : Nat} {ls : List (Nat × VV)} {M : MM} {k sl : Nat} {Φ : Option VV → MM → Prop} (hrt : Y.2.2.2.1 = some .byte) (hk : k ≤ Y.2.2.2.2.1) (hsl : sl ≤ Y.2.2.2.2.2) (hΦ : Φ (some (vi 0)) M) (hd : decode Y.2.1 pc = .ok (.ireturn, 1)) : At G Y d (pc) ls ([vi 0]) M k sl Φ := by
  intro p e s m args below meth c H locs lz X hR hC hs hl hv hS
  refine W.widen hk hsl ?_
  exact W.zret (ty := .byte) X.1 X.2.1 (by rw [X.2.2.2.1]; exact hrt) (by decide +kernel) (fun t ht hW => ⟨by rw [ht]; exact hS.1, some (vi 0), M, rfl, by rw [ht]; exact hR, hC, hs, hΦ⟩) (fun q hq => hS.2.2 q hq) hd (hlocks := X.2.2.2.2.1)
theorem cVsA {G : GG} {Y : YY} {d pc : Nat} {ls : List (Nat × VV)} {st : List VV} {S : SS} {Φ : Option VV → MM → Prop} {Y' : YY} {av rest : List VV} {i n idx d' : Nat} {v : VV} (hm : MB Y' n ∧ Cond.instanceMethod Y'.1 ∈ lw_good ∧ Cond.selects "java/lang/String" Y'.1 Y'.1 ∈ lw_good) (hi : i < 3) (hlk : Cond.methodLink Y.1.cls idx Y'.1 ∈ lw_good) (hd : decode Y.2.1 pc = .ok (.invokevirtual idx, 3)) (hst : st = av.reverse ++ vr (100001 + i) :: rest) (hn : av.length = n) (hrm : (rest.map cat).sum ≤ 8) (hdd : d' + 1 ≤ d) (hks : Y'.2.2.2.2.1 = 0 ∧ Y'.2.2.2.2.2 = 0)
    (hM : RD G Y' d' (vr (100001 + i) :: av) S (some v) S) (kk0 : At G Y d (pc + 3) ls (v :: rest) (mm S) 0 0 Φ) : At G Y d pc ls st (mm S) 0 0 Φ := by
  intro p e s m args below meth c H locs lz X hR hC hs hl hv hS
  subst hst
  have kk : ∀ (r : Option VV) (M' : MM), r = some v ∧ M' = mm S → At G Y d (pc + 3) ls (r.toList ++ rest) M' (0 + Y'.2.2.2.2.1) (0 + Y'.2.2.2.2.2) Φ := by
    rintro r M' ⟨rfl, rfl⟩
    rw [hks.1, hks.2]
    exact kk0
  obtain ⟨hmb, hmi, hse⟩ := hm
  have hcr := cv_r (ad := G.ad) (r := 100001 + i) (by omega)
  have hav : ∀ v ∈ vr (100001 + i) :: av, cV v := fun v hv => (List.mem_cons.mp hv).elim (fun e => e ▸ trivial) (fun h => hs v (List.mem_append_left _ (List.mem_reverse.mpr h)))
  have hrs : ∀ v ∈ rest, cV v := fun v hv => hs v (List.mem_append_right _ (List.mem_cons_of_mem _ hv))
  have hts := X.2.2.2.2.2.2.2.1
  have hE := X.2.2.2.2.2.2.2.2
  obtain ⟨cell, q1, q2, q3, -⟩ := (hE.2.2.2.1.1 i hi).1.kept (fun a ha _ => hR.2.2.1 a ha)
  have hp : PreV s H "java/lang/String" (G.ad (100001 + i)) (PcG G (vr (100001 + i) :: av) (mm S)) (av.map (cv G.ad)) := ⟨Pc_blind G _ _, ⟨cell, q1, q2, q3⟩, fun U hU hW => ⟨by rw [List.map_cons, hcr], hE.warm hW, by rw [hU]; exact hR, hC, hav⟩⟩
  have hb : (8 : Nat) + (Y'.2.2.1 + 11) + (rmD d' Y'.2.2.2.2.1 Y'.2.2.2.2.2).locals ≤ (rmD d Y.2.2.2.2.1 Y.2.2.2.2.2).locals := by have := hmb.2.2.2.2; show 8 + (Y'.2.2.1 + 11) + 40 * d' ≤ 40 * d; omega
  refine At.ran (Y' := Y') (a := (Value.ref (G.ad (100001 + i)) :: av.map (cv G.ad)).toArray) (rest := rest) X hR hl hv hS hrs ?_ kk
  exact va_runV (Ts := lw_good) (nL := Y.2.2.1) (n := n) ⟨X.1, X.2.1, X.2.2.1, X.2.2.2.2.2.1, hts⟩ hM ⟨⟨rfl, rfl, hdd, hb, pay_in hts (good_in (wsY_in hmb)), List.mem_cons_self, hts _ hmb.1, hts _ hmb.2.1, hmb.2.2.1, nparams hmb, hts _ hlk⟩, hts _ hmi, hts _ hse⟩ hp rfl (by rw [List.length_map]; exact hn) hv.1 (by show List.map (cv G.ad) _ = _; rw [List.map_append, List.map_reverse, List.map_cons, hcr]) (rest_room hrm) hd (by rw [hks.1, hks.2]; exact ⟨Nat.zero_le _, Nat.zero_le _⟩)
theorem s_coder {G : GG} {S : SS} {i : Nat} (hi : i < 3) : RD G mJ0_coder_7d493 1 [vr (100001 + i)] S (some (vi 0)) S := by
  refine Runs.of pl_J0 (Nat.le_of_ble_eq_true rfl) ?_
  show At G mJ0_coder_7d493 1 0 [(0, vr (100001 + i))] [] (mm S) 0 0 (EQ (some (vi 0)) S)
  refine At.getsC ws_38 dJ0_coder_7d493_0 <| At.if_eq_f (tgt := 13) dJ0_coder_7d493_3 (by decide) (by decide) <| At.aloadn dJ0_coder_7d493_6 rfl <| At.strCod hi ws_15 dJ0_coder_7d493_7 <| At.goto (tgt := 14) dJ0_coder_7d493_10 (by decide) <| ?_
  exact At.bret rfl (Nat.zero_le _) (Nat.zero_le _) ⟨rfl, rfl⟩ dJ0_coder_7d493_14
theorem s_latin {G : GG} {S : SS} {i : Nat} (hi : i < 3) : RD G mJ0_isLatin1_aae02 1 [vr (100001 + i)] S (some (vi (bI true))) S := by
  refine Runs.of pl_J0 (Nat.le_of_ble_eq_true rfl) ?_
  show At G mJ0_isLatin1_aae02 1 0 [(0, vr (100001 + i))] [] (mm S) 0 0 (EQ (some (vi (bI true))) S)
  refine At.getsC ws_38 dJ0_isLatin1_aae02_0 <| At.if_eq_f (tgt := 17) dJ0_isLatin1_aae02_3 (by decide) (by decide) <| At.aloadn dJ0_isLatin1_aae02_6 rfl <| At.strCod hi ws_15 dJ0_isLatin1_aae02_7 <| At.if_ne_f (tgt := 17) dJ0_isLatin1_aae02_10 (by decide) rfl <| At.iconst dJ0_isLatin1_aae02_13 (by decide) <| At.goto (tgt := 18) dJ0_isLatin1_aae02_14 (by decide) <| ?_
  exact At.zret (b := true) rfl (Nat.zero_le _) (Nat.zero_le _) ⟨rfl, rfl⟩ dJ0_isLatin1_aae02_18
theorem s_len {G : GG} {S : SS} {i : Nat} (hi : i < 3) {z : Int} (hz : ((stLen.getD i 0 : Nat) : Int) = z) : RD G mJ0_length_8abf5 2 [vr (100001 + i)] S (some (vi z)) S := by
  have e : jshr z 0 = z := by subst hz; rcases (show i = 0 ∨ i = 1 ∨ i = 2 by omega) with rfl | rfl | rfl <;> decide +kernel
  refine Runs.of pl_J0 (Nat.le_of_ble_eq_true rfl) ?_
  show At G mJ0_length_8abf5 2 0 [(0, vr (100001 + i))] [] (mm S) 0 0 (EQ (some (vi z)) S)
  refine At.aloadn dJ0_length_8abf5_0 rfl <| At.strVal hi ws_9 dJ0_length_8abf5_1 <| At.salen hi hz dJ0_length_8abf5_4 <| At.aloadn dJ0_length_8abf5_5 rfl <| cVsA (av := []) (rest := [vi z]) mw_J0_coder_7d493 hi ln_J0_335 dJ0_length_8abf5_6 rfl rfl (Nat.le_of_ble_eq_true rfl) (by decide) ⟨rfl, rfl⟩ (s_coder hi) <| At.ishr dJ0_length_8abf5_9 <| At.nm e.symm ?_
  exact At.iret rfl (Nat.zero_le _) (Nat.zero_le _) ⟨rfl, rfl⟩ dJ0_length_8abf5_10
theorem s_chk0 {G : GG} {S : SS} {a b : Int} {r : Nat} (h0 : 0 ≤ a) (h1 : a < b) : RD G mJ3_checkIndex_8e157 1 [vi a, vi b, vr r] S (some (vi a)) S := by
  refine Runs.of pl_J3 (Nat.le_of_ble_eq_true rfl) ?_
  show At G mJ3_checkIndex_8e157 1 0 [(0, vi a), (1, vi b), (2, vr r)] [] (mm S) 0 0 (EQ (some (vi a)) S)
  refine At.iloadn dJ3_checkIndex_8e157_0 rfl <| At.if_lt_f (tgt := 9) dJ3_checkIndex_8e157_1 (by decide) (by omega) <| At.iloadn dJ3_checkIndex_8e157_4 rfl <| At.iloadn dJ3_checkIndex_8e157_5 rfl <| At.icmp_lt_t (tgt := 16) dJ3_checkIndex_8e157_6 (by decide) h1 <| At.iloadn dJ3_checkIndex_8e157_16 rfl <| ?_
  exact At.iret rfl (Nat.zero_le _) (Nat.zero_le _) ⟨rfl, rfl⟩ dJ3_checkIndex_8e157_17
theorem s_chk {G : GG} {S : SS} {a b : Int} (h0 : 0 ≤ a) (h1 : a < b) : RD G mJ0_checkIndex_df160 2 [vi a, vi b] S none S := by
  refine Runs.of pl_J0 (Nat.le_of_ble_eq_true rfl) ?_
  show At G mJ0_checkIndex_df160 2 0 [(0, vi a), (1, vi b)] [] (mm S) 0 0 (EQ none S)
  refine At.iloadn dJ0_checkIndex_df160_0 rfl <| At.iloadn dJ0_checkIndex_df160_1 rfl <| At.getsF ws_1053 dJ0_checkIndex_df160_2 fun r => ?_
  refine At.cS1 (av := [vi a, vi b, vr r]) (rest := []) ms_J3_checkIndex_8e157 lk_J0_1059 dJ0_checkIndex_df160_5 rfl rfl (Nat.le_of_ble_eq_true rfl) (by decide) ⟨rfl, rfl⟩ (s_chk0 h0 h1) <| At.pop rfl dJ0_checkIndex_df160_8 <| ?_
  exact At.vret rfl (Nat.zero_le _) (Nat.zero_le _) ⟨rfl, rfl⟩ dJ0_checkIndex_df160_9
theorem chA_all : ∀ i, i < 3 → ∀ j, j < 100 → jc (jand (chA i j) 255) = chA i j ∧ 0 ≤ chA i j ∧ chA i j < 256 := by decide +kernel
theorem chA_in {i : Nat} {j : Int} (hi : i < 3) (h0 : 0 ≤ j) (h1 : j < (stLen.getD i 0 : Nat)) : jc (jand (chA i j.toNat) 255) = chA i j.toNat ∧ 0 ≤ chA i j.toNat ∧ chA i j.toNat < 256 := by
  refine chA_all i hi j.toNat ?_
  have hb : stLen.getD i 0 < 100 := by rcases (show i = 0 ∨ i = 1 ∨ i = 2 by omega) with rfl | rfl | rfl <;> decide
  omega
theorem s_char1 {G : GG} {S : SS} {i : Nat} {j : Int} (hi : i < 3) (h0 : 0 ≤ j) (h1 : j < (stLen.getD i 0 : Nat)) : RD G mJ1_charAt_3b067 3 [vr (100011 + i), vi j] S (some (vi (chA i j.toNat))) S := by
  refine Runs.of pl_J1 (Nat.le_of_ble_eq_true rfl) ?_
  show At G mJ1_charAt_3b067 3 0 [(0, vr (100011 + i)), (1, vi j)] [] (mm S) 0 0 (EQ (some (vi (chA i j.toNat))) S)
  refine At.iloadn dJ1_charAt_3b067_0 rfl <| At.aloadn dJ1_charAt_3b067_1 rfl <| At.salen hi rfl dJ1_charAt_3b067_2 <| At.cS0 (av := [vi j, vi ((stLen.getD i 0 : Nat) : Int)]) (rest := []) ms_J0_checkIndex_df160 lk_J1_9 dJ1_charAt_3b067_3 rfl rfl (Nat.le_of_ble_eq_true rfl) (by decide) ⟨rfl, rfl⟩ (s_chk h0 h1) <| At.aloadn dJ1_charAt_3b067_6 rfl <| At.iloadn dJ1_charAt_3b067_7 rfl <| At.sbald hi h0 h1 dJ1_charAt_3b067_8 <| At.sipush dJ1_charAt_3b067_9 (by decide) <| At.iand dJ1_charAt_3b067_12 <| At.i2c dJ1_charAt_3b067_13 <| At.nm (chA_in hi h0 h1).1.symm ?_
  exact At.cret (chA_in hi h0 h1).2 rfl (Nat.zero_le _) (Nat.zero_le _) ⟨rfl, rfl⟩ dJ1_charAt_3b067_14
theorem s_char {G : GG} {S : SS} {i : Nat} {j : Int} (hi : i < 3) (h0 : 0 ≤ j) (h1 : j < (stLen.getD i 0 : Nat)) : RD G mJ0_charAt_5068e 4 [vr (100001 + i), vi j] S (some (vi (chA i j.toNat))) S := by
  refine Runs.of pl_J0 (Nat.le_of_ble_eq_true rfl) ?_
  show At G mJ0_charAt_5068e 4 0 [(0, vr (100001 + i)), (1, vi j)] [] (mm S) 0 0 (EQ (some (vi (chA i j.toNat))) S)
  refine At.aloadn dJ0_charAt_5068e_0 rfl <| cVsA (av := []) (rest := []) mw_J0_isLatin1_aae02 hi ln_J0_492 dJ0_charAt_5068e_1 rfl rfl (Nat.le_of_ble_eq_true rfl) (by decide) ⟨rfl, rfl⟩ (s_latin hi) <| At.bifeq_f (tgt := 16) dJ0_charAt_5068e_4 (by decide) rfl <| At.aloadn dJ0_charAt_5068e_7 rfl <| At.strVal hi ws_9 dJ0_charAt_5068e_8 <| At.iloadn dJ0_charAt_5068e_11 rfl <| At.cS1 (av := [vr (100011 + i), vi j]) (rest := []) ms_J1_charAt_3b067 lk_J0_495 dJ0_charAt_5068e_12 rfl rfl (Nat.le_of_ble_eq_true rfl) (by decide) ⟨rfl, rfl⟩ (s_char1 hi h0 h1) <| ?_
  exact At.cret (chA_in hi h0 h1).2 rfl (Nat.zero_le _) (Nat.zero_le _) ⟨rfl, rfl⟩ dJ0_charAt_5068e_15
theorem s_canE {G : GG} {S : SS} {z : Int} : RD G mJ1_canEncode_9a6ad 1 [vi z] S (some (vi (bI (decide (0 ≤ z ∧ z ≤ 255))))) S := by
  refine Runs.of pl_J1 (Nat.le_of_ble_eq_true rfl) ?_
  show At G mJ1_canEncode_9a6ad 1 0 [(0, vi z)] [] (mm S) 0 0 (EQ (some (vi (bI (decide (0 ≤ z ∧ z ≤ 255))))) S)
  by_cases h0 : z < 0
  · refine At.iloadn dJ1_canEncode_9a6ad_0 rfl <| At.if_lt_t (tgt := 15) dJ1_canEncode_9a6ad_1 (by decide) h0 <| At.iconst dJ1_canEncode_9a6ad_15 (by decide) <| ?_
    exact At.zret (b := false) rfl (Nat.zero_le _) (Nat.zero_le _) ⟨by rw [decide_eq_false (by omega)], rfl⟩ dJ1_canEncode_9a6ad_16
  · by_cases h1 : 255 < z
    · refine At.iloadn dJ1_canEncode_9a6ad_0 rfl <| At.if_lt_f (tgt := 15) dJ1_canEncode_9a6ad_1 (by decide) h0 <| At.iloadn dJ1_canEncode_9a6ad_4 rfl <| At.sipush dJ1_canEncode_9a6ad_5 (by decide) <| At.icmp_gt_t (tgt := 15) dJ1_canEncode_9a6ad_8 (by decide) h1 <| At.iconst dJ1_canEncode_9a6ad_15 (by decide) <| ?_
      exact At.zret (b := false) rfl (Nat.zero_le _) (Nat.zero_le _) ⟨by rw [decide_eq_false (by omega)], rfl⟩ dJ1_canEncode_9a6ad_16
    · refine At.iloadn dJ1_canEncode_9a6ad_0 rfl <| At.if_lt_f (tgt := 15) dJ1_canEncode_9a6ad_1 (by decide) h0 <| At.iloadn dJ1_canEncode_9a6ad_4 rfl <| At.sipush dJ1_canEncode_9a6ad_5 (by decide) <| At.icmp_gt_f (tgt := 15) dJ1_canEncode_9a6ad_8 (by decide) h1 <| At.iconst dJ1_canEncode_9a6ad_11 (by decide) <| At.goto (tgt := 16) dJ1_canEncode_9a6ad_12 (by decide) <| ?_
      exact At.zret (b := true) rfl (Nat.zero_le _) (Nat.zero_le _) ⟨by rw [decide_eq_true (by omega)], rfl⟩ dJ1_canEncode_9a6ad_16
/-- where a byte stands in the text i, from j on -/
def ixl (i : Nat) (b : Int) : Nat → Int → Int
  | 0, _ => -1
  | n + 1, j => if ((stLen.getD i 0 : Nat) : Int) ≤ j then -1 else if chA i j.toNat = b then j else ixl i b n (j + 1)
def ixX (i : Nat) (z : Int) : Int := if 0 ≤ z ∧ z ≤ 255 then ixl i (jb z) 100 0 else -1
theorem s_ixl {G : GG} {S : SS} {i : Nat} {b t z : Int} (hi : i < 3) (ht : t = ((stLen.getD i 0 : Nat) : Int)) : ∀ (n : Nat) (j : Int), 0 ≤ j → t - j < n → At G mJ1_indexOfChar_4cfef 2 7 [(0, vr (100011 + i)), (3, vi t), (4, vi b), (5, vi j)] [] (mm S) 0 0 (EQ (some (vi (ixl i b n j))) S) := by
  have hb : stLen.getD i 0 < 100 := by rcases (show i = 0 ∨ i = 1 ∨ i = 2 by omega) with rfl | rfl | rfl <;> decide
  intro n
  induction n with
  | zero =>
    intro j h0 h1
    refine At.iload dJ1_indexOfChar_4cfef_7 rfl <| At.iloadn dJ1_indexOfChar_4cfef_9 rfl <| At.icmp_ge_t (tgt := 31) dJ1_indexOfChar_4cfef_10 (by decide) (by omega) <| At.iconst dJ1_indexOfChar_4cfef_31 (by decide) <| ?_
    exact At.iret rfl (Nat.zero_le _) (Nat.zero_le _) ⟨rfl, rfl⟩ dJ1_indexOfChar_4cfef_32
  | succ n ih =>
    intro j h0 h1
    by_cases hj : t ≤ j
    · refine At.iload dJ1_indexOfChar_4cfef_7 rfl <| At.iloadn dJ1_indexOfChar_4cfef_9 rfl <| At.icmp_ge_t (tgt := 31) dJ1_indexOfChar_4cfef_10 (by decide) hj <| At.iconst dJ1_indexOfChar_4cfef_31 (by decide) <| ?_
      exact At.iret rfl (Nat.zero_le _) (Nat.zero_le _) ⟨by unfold ixl; rw [if_pos (by omega)], rfl⟩ dJ1_indexOfChar_4cfef_32
    · refine At.iload dJ1_indexOfChar_4cfef_7 rfl <| At.iloadn dJ1_indexOfChar_4cfef_9 rfl <| At.icmp_ge_f (tgt := 31) dJ1_indexOfChar_4cfef_10 (by decide) hj <| At.aloadn dJ1_indexOfChar_4cfef_13 rfl <| At.iload dJ1_indexOfChar_4cfef_14 rfl <| At.sbald hi h0 (by omega) dJ1_indexOfChar_4cfef_16 <| At.iload dJ1_indexOfChar_4cfef_17 rfl <| ?_
      by_cases hc : chA i j.toNat = b
      · refine At.icmp_ne_f (tgt := 25) dJ1_indexOfChar_4cfef_19 (by decide) hc <| At.iload dJ1_indexOfChar_4cfef_22 rfl <| ?_
        exact At.iret rfl (Nat.zero_le _) (Nat.zero_le _) ⟨by unfold ixl; rw [if_neg (by omega), if_pos hc], rfl⟩ dJ1_indexOfChar_4cfef_24
      · have e : w32 (j + 1) = j + 1 := w32_id (by unfold cI; omega)
        refine At.icmp_ne_t (tgt := 25) dJ1_indexOfChar_4cfef_19 (by decide) hc <| At.iinc (ls' := [(5, vi (j + 1)), (0, vr (100011 + i)), (3, vi t), (4, vi b)]) dJ1_indexOfChar_4cfef_25 rfl (by decide) (by rw [e]; rfl) <| At.goto (tgt := 7) dJ1_indexOfChar_4cfef_28 (by decide) <| ?_
        have h2 := ih (j + 1) (by omega) (by omega)
        have e2 : ixl i b (n + 1) j = ixl i b n (j + 1) := by
          show (if ((stLen.getD i 0 : Nat) : Int) ≤ j then -1 else if chA i j.toNat = b then j else ixl i b n (j + 1)) = _
          rw [if_neg (by omega), if_neg hc]
        rw [e2]
        exact At.sub [1, 2, 3, 0] rfl h2
theorem s_ixc {G : GG} {S : SS} {i : Nat} {z t : Int} (hi : i < 3) (ht : t = ((stLen.getD i 0 : Nat) : Int)) : RD G mJ1_indexOfChar_4cfef 2 [vr (100011 + i), vi z, vi 0, vi t] S (some (vi (ixl i (jb z) 100 0))) S := by
  have hb : stLen.getD i 0 < 100 := by rcases (show i = 0 ∨ i = 1 ∨ i = 2 by omega) with rfl | rfl | rfl <;> decide
  refine Runs.of pl_J1 (Nat.le_of_ble_eq_true rfl) ?_
  show At G mJ1_indexOfChar_4cfef 2 0 [(0, vr (100011 + i)), (1, vi z), (2, vi 0), (3, vi t)] [] (mm S) 0 0 (EQ (some (vi (ixl i (jb z) 100 0))) S)
  refine At.iloadn dJ1_indexOfChar_4cfef_0 rfl <| At.i2b dJ1_indexOfChar_4cfef_1 <| At.istore (ls' := [(4, vi (jb z)), (0, vr (100011 + i)), (1, vi z), (2, vi 0), (3, vi t)]) dJ1_indexOfChar_4cfef_2 (by decide) rfl <| At.iloadn dJ1_indexOfChar_4cfef_4 rfl <| At.istore (ls' := [(5, vi 0), (4, vi (jb z)), (0, vr (100011 + i)), (1, vi z), (2, vi 0), (3, vi t)]) dJ1_indexOfChar_4cfef_5 (by decide) rfl <| ?_
  exact At.sub [2, 5, 1, 0] rfl (s_ixl (z := z) hi ht 100 0 (by omega) (by omega))
theorem s_ix1 {G : GG} {S : SS} {i : Nat} {z t : Int} (hi : i < 3) (ht : t = ((stLen.getD i 0 : Nat) : Int)) : RD G mJ1_indexOf_4cfef 3 [vr (100011 + i), vi z, vi 0, vi t] S (some (vi (ixX i z))) S := by
  have hb : stLen.getD i 0 < 100 ∧ 0 < stLen.getD i 0 := by rcases (show i = 0 ∨ i = 1 ∨ i = 2 by omega) with rfl | rfl | rfl <;> decide
  refine Runs.of pl_J1 (Nat.le_of_ble_eq_true rfl) ?_
  show At G mJ1_indexOf_4cfef 3 0 [(0, vr (100011 + i)), (1, vi z), (2, vi 0), (3, vi t)] [] (mm S) 0 0 (EQ (some (vi (ixX i z))) S)
  refine At.iloadn dJ1_indexOf_4cfef_0 rfl <| At.cS1 (av := [vi z]) (rest := []) ms_J1_canEncode_9a6ad lk_J1_88 dJ1_indexOf_4cfef_1 rfl rfl (Nat.le_of_ble_eq_true rfl) (by decide) ⟨rfl, rfl⟩ s_canE <| ?_
  by_cases hz : 0 ≤ z ∧ z ≤ 255
  · refine At.bifne_t (tgt := 9) dJ1_indexOf_4cfef_4 (by decide) (decide_eq_true hz) <| At.iloadn dJ1_indexOf_4cfef_9 rfl <| At.iconst dJ1_indexOf_4cfef_10 (by decide) <| At.mmax (rest := []) ln_J1_92 (Nat.le_of_ble_eq_true rfl) (by decide) dJ1_indexOf_4cfef_11 <| At.nm (x := 0) rfl <| At.istoren (ls' := [(2, vi 0), (0, vr (100011 + i)), (1, vi z), (3, vi t)]) dJ1_indexOf_4cfef_14 (by decide) rfl <| At.iloadn dJ1_indexOf_4cfef_15 rfl <| At.aloadn dJ1_indexOf_4cfef_16 rfl <| At.salen hi ht.symm dJ1_indexOf_4cfef_17 <| At.mmin (rest := []) ln_J1_38 (Nat.le_of_ble_eq_true rfl) (by decide) dJ1_indexOf_4cfef_18 <| At.nm (x := t) (by rw [if_neg (Int.lt_irrefl t)]) <| At.istoren (ls' := [(3, vi t), (2, vi 0), (0, vr (100011 + i)), (1, vi z)]) dJ1_indexOf_4cfef_21 (by decide) rfl <| At.iloadn dJ1_indexOf_4cfef_22 rfl <| At.iloadn dJ1_indexOf_4cfef_23 rfl <| At.icmp_lt_t (tgt := 29) dJ1_indexOf_4cfef_24 (by decide) (by omega) <| At.aloadn dJ1_indexOf_4cfef_29 rfl <| At.iloadn dJ1_indexOf_4cfef_30 rfl <| At.iloadn dJ1_indexOf_4cfef_31 rfl <| At.iloadn dJ1_indexOf_4cfef_32 rfl <| At.cS1 (av := [vr (100011 + i), vi z, vi 0, vi t]) (rest := []) ms_J1_indexOfChar_4cfef lk_J1_95 dJ1_indexOf_4cfef_33 rfl rfl (Nat.le_of_ble_eq_true rfl) (by decide) ⟨rfl, rfl⟩ (s_ixc hi ht) <| ?_
    exact At.iret rfl (Nat.zero_le _) (Nat.zero_le _) ⟨by unfold ixX; rw [if_pos hz], rfl⟩ dJ1_indexOf_4cfef_36
  · refine At.bifne_f (tgt := 9) dJ1_indexOf_4cfef_4 (by decide) (by simpa using hz) <| At.iconst dJ1_indexOf_4cfef_7 (by decide) <| ?_
    exact At.iret rfl (Nat.zero_le _) (Nat.zero_le _) ⟨by unfold ixX; rw [if_neg hz], rfl⟩ dJ1_indexOf_4cfef_8
theorem s_ix2 {G : GG} {S : SS} {i : Nat} {z : Int} (hi : i < 3) : RD G mJ0_indexOf_7cf53 4 [vr (100001 + i), vi z, vi 0] S (some (vi (ixX i z))) S := by
  refine Runs.of pl_J0 (Nat.le_of_ble_eq_true rfl) ?_
  show At G mJ0_indexOf_7cf53 4 0 [(0, vr (100001 + i)), (1, vi z), (2, vi 0)] [] (mm S) 0 0 (EQ (some (vi (ixX i z))) S)
  refine At.aloadn dJ0_indexOf_7cf53_0 rfl <| cVsA (av := []) (rest := []) mw_J0_isLatin1_aae02 hi ln_J0_492 dJ0_indexOf_7cf53_1 rfl rfl (Nat.le_of_ble_eq_true rfl) (by decide) ⟨rfl, rfl⟩ (s_latin hi) <| At.bifeq_f (tgt := 23) dJ0_indexOf_7cf53_4 (by decide) rfl <| At.aloadn dJ0_indexOf_7cf53_7 rfl <| At.strVal hi ws_9 dJ0_indexOf_7cf53_8 <| At.iloadn dJ0_indexOf_7cf53_11 rfl <| At.iloadn dJ0_indexOf_7cf53_12 rfl <| At.aloadn dJ0_indexOf_7cf53_13 rfl <| cVsA (av := []) (rest := [vi 0, vi z, vr (100011 + i)]) mw_J0_length_8abf5 hi ln_J0_505 dJ0_indexOf_7cf53_14 rfl rfl (Nat.le_of_ble_eq_true rfl) (by decide) ⟨rfl, rfl⟩ (s_len hi rfl) <| At.cS1 (av := [vr (100011 + i), vi z, vi 0, vi ((stLen.getD i 0 : Nat) : Int)]) (rest := []) ms_J1_indexOf_4cfef lk_J0_637 dJ0_indexOf_7cf53_17 rfl rfl (Nat.le_of_ble_eq_true rfl) (by decide) ⟨rfl, rfl⟩ (s_ix1 hi rfl) <| At.goto (tgt := 36) dJ0_indexOf_7cf53_20 (by decide) <| ?_
  exact At.iret rfl (Nat.zero_le _) (Nat.zero_le _) ⟨rfl, rfl⟩ dJ0_indexOf_7cf53_36
theorem s_ix {G : GG} {S : SS} {i : Nat} {z : Int} (hi : i < 3) : RD G mJ0_indexOf_0f7a4 5 [vr (100001 + i), vi z] S (some (vi (ixX i z))) S := by
  refine Runs.of pl_J0 (Nat.le_of_ble_eq_true rfl) ?_
  show At G mJ0_indexOf_0f7a4 5 0 [(0, vr (100001 + i)), (1, vi z)] [] (mm S) 0 0 (EQ (some (vi (ixX i z))) S)
  refine At.aloadn dJ0_indexOf_0f7a4_0 rfl <| At.iloadn dJ0_indexOf_0f7a4_1 rfl <| At.iconst dJ0_indexOf_0f7a4_2 (by decide) <| cVsA (av := [vi z, vi 0]) (rest := []) mw_J0_indexOf_7cf53 hi ln_J0_633 dJ0_indexOf_0f7a4_3 rfl rfl (Nat.le_of_ble_eq_true rfl) (by decide) ⟨rfl, rfl⟩ (s_ix2 hi) <| ?_
  exact At.iret rfl (Nat.zero_le _) (Nat.zero_le _) ⟨rfl, rfl⟩ dJ0_indexOf_0f7a4_6
/-! for the functions -/
def rdX {α : Type} (i : Nat) (j : Int) (k : Int → Option α) : Option α := if 0 ≤ j ∧ j < (stLen.getD i 0 : Nat) then k (chA i j.toNat) else none
theorem rdX_e {α : Type} {i : Nat} {j : Int} {k : Int → Option α} {r : α} (h : rdX i j k = some r) : ∃ v, v = chA i j.toNat ∧ (0 ≤ j ∧ j < (stLen.getD i 0 : Nat)) ∧ k v = some r := by
  unfold rdX at h
  split at h
  · exact ⟨_, rfl, by assumption, h⟩
  · cases h
theorem st_X3_97 {G : GG} : ∀ U, Str G U → vk_R RX3 97 (stT 0) (G.ad 100001) U := fun _ h => h.2.1.1
theorem st_X3_89 {G : GG} : ∀ U, Str G U → vk_R RX3 89 (stT 1) (G.ad 100002) U := fun _ h => h.2.1.2.1
theorem st_X12_86 {G : GG} : ∀ U, Str G U → vk_R RX12 86 (stT 2) (G.ad 100003) U := fun _ h => h.2.1.2.2.1
theorem st_X12_124 {G : GG} : ∀ U, Str G U → vk_R RX12 124 (stT 1) (G.ad 100002) U := fun _ h => h.2.1.2.2.2
theorem At.slen0 {G : GG} {Y : YY} {d pc : Nat} {ls : List (Nat × VV)} {rest : List VV} {S : SS} {Φ : Option VV → MM → Prop} {idx : Nat} (hlk : Cond.methodLink Y.1.cls idx yJ0_length_8abf5 ∈ lw_good) (hrm : (rest.map cat).sum ≤ 8) (hdd : 6 ≤ d) (hd : decode Y.2.1 pc = .ok (.invokevirtual idx, 3)) (h : At G Y d (pc + 3) ls (vi 94 :: rest) (mm S) 0 0 Φ) : At G Y d pc ls (vr 100001 :: rest) (mm S) 0 0 Φ := cVsA (av := []) (rest := rest) (i := 0) mw_J0_length_8abf5 (by decide) hlk hd rfl rfl hrm (by omega) ⟨rfl, rfl⟩ (s_len (by decide) rfl) h
theorem At.schar0 {G : GG} {Y : YY} {d pc : Nat} {ls : List (Nat × VV)} {rest : List VV} {S : SS} {Φ : Option VV → MM → Prop} {idx : Nat} {j : Int} (hlk : Cond.methodLink Y.1.cls idx yJ0_charAt_5068e ∈ lw_good) (hg : 0 ≤ j ∧ j < (stLen.getD 0 0 : Nat)) (hrm : (rest.map cat).sum ≤ 8) (hdd : 6 ≤ d) (hd : decode Y.2.1 pc = .ok (.invokevirtual idx, 3)) (h : At G Y d (pc + 3) ls (vi (chA 0 j.toNat) :: rest) (mm S) 0 0 Φ) : At G Y d pc ls (vi j :: vr 100001 :: rest) (mm S) 0 0 Φ := cVsA (av := [vi j]) (rest := rest) (i := 0) mw_J0_charAt_5068e (by decide) hlk hd rfl rfl hrm (by omega) ⟨rfl, rfl⟩ (s_char (by decide) hg.1 hg.2) h
theorem At.sindex0 {G : GG} {Y : YY} {d pc : Nat} {ls : List (Nat × VV)} {rest : List VV} {S : SS} {Φ : Option VV → MM → Prop} {idx : Nat} {z : Int} (hlk : Cond.methodLink Y.1.cls idx yJ0_indexOf_0f7a4 ∈ lw_good) (hrm : (rest.map cat).sum ≤ 8) (hdd : 6 ≤ d) (hd : decode Y.2.1 pc = .ok (.invokevirtual idx, 3)) (h : At G Y d (pc + 3) ls (vi (ixX 0 z) :: rest) (mm S) 0 0 Φ) : At G Y d pc ls (vi z :: vr 100001 :: rest) (mm S) 0 0 Φ := cVsA (av := [vi z]) (rest := rest) (i := 0) mw_J0_indexOf_0f7a4 (by decide) hlk hd rfl rfl hrm (by omega) ⟨rfl, rfl⟩ (s_ix (by decide)) h
theorem At.slen1 {G : GG} {Y : YY} {d pc : Nat} {ls : List (Nat × VV)} {rest : List VV} {S : SS} {Φ : Option VV → MM → Prop} {idx : Nat} (hlk : Cond.methodLink Y.1.cls idx yJ0_length_8abf5 ∈ lw_good) (hrm : (rest.map cat).sum ≤ 8) (hdd : 6 ≤ d) (hd : decode Y.2.1 pc = .ok (.invokevirtual idx, 3)) (h : At G Y d (pc + 3) ls (vi 12 :: rest) (mm S) 0 0 Φ) : At G Y d pc ls (vr 100002 :: rest) (mm S) 0 0 Φ := cVsA (av := []) (rest := rest) (i := 1) mw_J0_length_8abf5 (by decide) hlk hd rfl rfl hrm (by omega) ⟨rfl, rfl⟩ (s_len (by decide) rfl) h
theorem At.schar1 {G : GG} {Y : YY} {d pc : Nat} {ls : List (Nat × VV)} {rest : List VV} {S : SS} {Φ : Option VV → MM → Prop} {idx : Nat} {j : Int} (hlk : Cond.methodLink Y.1.cls idx yJ0_charAt_5068e ∈ lw_good) (hg : 0 ≤ j ∧ j < (stLen.getD 1 0 : Nat)) (hrm : (rest.map cat).sum ≤ 8) (hdd : 6 ≤ d) (hd : decode Y.2.1 pc = .ok (.invokevirtual idx, 3)) (h : At G Y d (pc + 3) ls (vi (chA 1 j.toNat) :: rest) (mm S) 0 0 Φ) : At G Y d pc ls (vi j :: vr 100002 :: rest) (mm S) 0 0 Φ := cVsA (av := [vi j]) (rest := rest) (i := 1) mw_J0_charAt_5068e (by decide) hlk hd rfl rfl hrm (by omega) ⟨rfl, rfl⟩ (s_char (by decide) hg.1 hg.2) h
theorem At.sindex1 {G : GG} {Y : YY} {d pc : Nat} {ls : List (Nat × VV)} {rest : List VV} {S : SS} {Φ : Option VV → MM → Prop} {idx : Nat} {z : Int} (hlk : Cond.methodLink Y.1.cls idx yJ0_indexOf_0f7a4 ∈ lw_good) (hrm : (rest.map cat).sum ≤ 8) (hdd : 6 ≤ d) (hd : decode Y.2.1 pc = .ok (.invokevirtual idx, 3)) (h : At G Y d (pc + 3) ls (vi (ixX 1 z) :: rest) (mm S) 0 0 Φ) : At G Y d pc ls (vi z :: vr 100002 :: rest) (mm S) 0 0 Φ := cVsA (av := [vi z]) (rest := rest) (i := 1) mw_J0_indexOf_0f7a4 (by decide) hlk hd rfl rfl hrm (by omega) ⟨rfl, rfl⟩ (s_ix (by decide)) h
theorem At.slen2 {G : GG} {Y : YY} {d pc : Nat} {ls : List (Nat × VV)} {rest : List VV} {S : SS} {Φ : Option VV → MM → Prop} {idx : Nat} (hlk : Cond.methodLink Y.1.cls idx yJ0_length_8abf5 ∈ lw_good) (hrm : (rest.map cat).sum ≤ 8) (hdd : 6 ≤ d) (hd : decode Y.2.1 pc = .ok (.invokevirtual idx, 3)) (h : At G Y d (pc + 3) ls (vi 95 :: rest) (mm S) 0 0 Φ) : At G Y d pc ls (vr 100003 :: rest) (mm S) 0 0 Φ := cVsA (av := []) (rest := rest) (i := 2) mw_J0_length_8abf5 (by decide) hlk hd rfl rfl hrm (by omega) ⟨rfl, rfl⟩ (s_len (by decide) rfl) h
theorem At.schar2 {G : GG} {Y : YY} {d pc : Nat} {ls : List (Nat × VV)} {rest : List VV} {S : SS} {Φ : Option VV → MM → Prop} {idx : Nat} {j : Int} (hlk : Cond.methodLink Y.1.cls idx yJ0_charAt_5068e ∈ lw_good) (hg : 0 ≤ j ∧ j < (stLen.getD 2 0 : Nat)) (hrm : (rest.map cat).sum ≤ 8) (hdd : 6 ≤ d) (hd : decode Y.2.1 pc = .ok (.invokevirtual idx, 3)) (h : At G Y d (pc + 3) ls (vi (chA 2 j.toNat) :: rest) (mm S) 0 0 Φ) : At G Y d pc ls (vi j :: vr 100003 :: rest) (mm S) 0 0 Φ := cVsA (av := [vi j]) (rest := rest) (i := 2) mw_J0_charAt_5068e (by decide) hlk hd rfl rfl hrm (by omega) ⟨rfl, rfl⟩ (s_char (by decide) hg.1 hg.2) h
theorem At.sindex2 {G : GG} {Y : YY} {d pc : Nat} {ls : List (Nat × VV)} {rest : List VV} {S : SS} {Φ : Option VV → MM → Prop} {idx : Nat} {z : Int} (hlk : Cond.methodLink Y.1.cls idx yJ0_indexOf_0f7a4 ∈ lw_good) (hrm : (rest.map cat).sum ≤ 8) (hdd : 6 ≤ d) (hd : decode Y.2.1 pc = .ok (.invokevirtual idx, 3)) (h : At G Y d (pc + 3) ls (vi (ixX 2 z) :: rest) (mm S) 0 0 Φ) : At G Y d pc ls (vi z :: vr 100003 :: rest) (mm S) 0 0 Φ := cVsA (av := [vi z]) (rest := rest) (i := 2) mw_J0_indexOf_0f7a4 (by decide) hlk hd rfl rfl hrm (by omega) ⟨rfl, rfl⟩ (s_ix (by decide)) h
