theorem At.iret {G : GG} {Y : YY} {d pc : Nat} {ls : List (Nat × VV)} {M : MM} {k sl : Nat} {Φ : Option VV → MM → Prop} {z : Int} (hrt : Y.2.2.2.1 = some .int) (hk : k ≤ Y.2.2.2.2.1) (hsl : sl ≤ Y.2.2.2.2.2) (hΦ : Φ (some (vi z)) M) (hd : decode Y.2.1 pc = .ok (.ireturn, 1)) : At G Y d (pc) ls ([vi z]) M k sl Φ := by
  intro p e s m args below meth c H locs lz X hR hC hs hl hv hS
  refine W.widen hk hsl ?_
  exact W.iret X.1 X.2.1 (by rw [X.2.2.2.1]; exact hrt) (fun t ht hW => ⟨by rw [ht]; exact hS.1, some (vi z), M, rfl, by rw [ht]; exact hR, hC, hs, hΦ⟩) (fun q hq => hS.2.2 q hq) hd (hlocks := X.2.2.2.2.1)
theorem At.zret {G : GG} {Y : YY} {d pc : Nat} {ls : List (Nat × VV)} {M : MM} {k sl : Nat} {Φ : Option VV → MM → Prop} {b : Bool} (hrt : Y.2.2.2.1 = some .boolean) (hk : k ≤ Y.2.2.2.2.1) (hsl : sl ≤ Y.2.2.2.2.2) (hΦ : Φ (some (vi (bI b))) M) (hd : decode Y.2.1 pc = .ok (.ireturn, 1)) : At G Y d (pc) ls ([vi (bI b)]) M k sl Φ := by
  intro p e s m args below meth c H locs lz X hR hC hs hl hv hS
  refine W.widen hk hsl ?_
  exact W.zret (ty := .boolean) X.1 X.2.1 (by rw [X.2.2.2.1]; exact hrt) (by cases b <;> rfl) (fun t ht hW => ⟨by rw [ht]; exact hS.1, some (vi (bI b)), M, rfl, by rw [ht]; exact hR, hC, hs, hΦ⟩) (fun q hq => hS.2.2 q hq) hd (hlocks := X.2.2.2.2.1)
theorem At.lret {G : GG} {Y : YY} {d pc : Nat} {ls : List (Nat × VV)} {M : MM} {k sl : Nat} {Φ : Option VV → MM → Prop} {z : Int} (hrt : Y.2.2.2.1 = some .long) (hk : k ≤ Y.2.2.2.2.1) (hsl : sl ≤ Y.2.2.2.2.2) (hΦ : Φ (some (vl z)) M) (hd : decode Y.2.1 pc = .ok (.lreturn, 1)) : At G Y d (pc) ls ([vl z]) M k sl Φ := by
  intro p e s m args below meth c H locs lz X hR hC hs hl hv hS
  refine W.widen hk hsl ?_
  exact W.lret X.1 X.2.1 (by rw [X.2.2.2.1]; exact hrt) (fun t ht hW => ⟨by rw [ht]; exact hS.1, some (vl z), M, rfl, by rw [ht]; exact hR, hC, hs, hΦ⟩) (fun q hq => hS.2.2 q hq) hd (hlocks := X.2.2.2.2.1)
theorem At.vret {G : GG} {Y : YY} {d pc : Nat} {ls : List (Nat × VV)} {M : MM} {k sl : Nat} {Φ : Option VV → MM → Prop} (hrt : Y.2.2.2.1 = none) (hk : k ≤ Y.2.2.2.2.1) (hsl : sl ≤ Y.2.2.2.2.2) (hΦ : Φ none M) (hd : decode Y.2.1 pc = .ok (.return_, 1)) : At G Y d (pc) ls ([]) M k sl Φ := by
  intro p e s m args below meth c H locs lz X hR hC hs hl hv hS
  refine W.widen hk hsl ?_
  exact W.vret X.1 X.2.1 (by rw [X.2.2.2.1]; exact hrt) (fun t ht hW => ⟨by rw [ht]; exact hS.1, none, M, rfl, by rw [ht]; exact hR, hC, hs, hΦ⟩) (fun q hq => hS.2.2 q hq) hd (hlocks := X.2.2.2.2.1)
theorem At.aret {G : GG} {Y : YY} {d pc : Nat} {ls : List (Nat × VV)} {M : MM} {k sl : Nat} {Φ : Option VV → MM → Prop} {r : Nat} {C : String} (hrt : Y.2.2.2.1 = some (.object C)) (hk : k ≤ Y.2.2.2.2.1) (hsl : sl ≤ Y.2.2.2.2.2) (hΦ : Φ (some (vr r)) M) (hd : decode Y.2.1 pc = .ok (.areturn, 1)) : At G Y d (pc) ls ([vr r]) M k sl Φ := by
  intro p e s m args below meth c H locs lz X hR hC hs hl hv hS
  refine W.widen hk hsl ?_
  exact W.aret X.1 X.2.1 (by rw [X.2.2.2.1]; exact hrt) (Or.inl ⟨C, rfl⟩) (show cv G.ad (vr r) = .null ∨ ∃ a, cv G.ad (vr r) = .ref a from if h : r = 0 then Or.inl (by rw [h]; exact cv_0) else Or.inr ⟨_, cv_r h⟩) (fun t ht hW => ⟨by rw [ht]; exact hS.1, some (vr r), M, rfl, by rw [ht]; exact hR, hC, hs, hΦ⟩) (fun q hq => hS.2.2 q hq) hd (hlocks := X.2.2.2.2.1)
/-! the entry -/
def lvA : Nat → List VV → List (Nat × VV)
  | _, [] => []
  | i, v :: vs => (i, v) :: lvA (if is2 v = true then i + 2 else i + 1) vs
def wds : List VV → Nat
  | [] => 0
  | v :: vs => (if is2 v = true then 2 else 1) + wds vs
theorem cat2_iff (ad : Nat → Nat) (v : VV) : (cv ad v).category = 2 ↔ is2 v = true := by
  rw [cv_cat]
  unfold cat
  cases is2 v <;> simp
theorem lvA_cvl (ad : Nat → Nat) : ∀ (i : Nat) (av : List VV), lv_args i (av.map (cv ad)) = cvl ad (lvA i av)
  | _, [] => rfl
  | i, v :: vs => by
    show (i, cv ad v) :: lv_args (if (cv ad v).category = 2 then i + 2 else i + 1) (vs.map (cv ad)) = (i, cv ad v) :: cvl ad (lvA (if is2 v = true then i + 2 else i + 1) vs)
    rw [lvA_cvl ad _ vs]
    simp only [cat2_iff]
theorem wds_len (ad : Nat → Nat) : ∀ av : List VV, (lg_sl (av.map (cv ad))).length = wds av
  | [] => rfl
  | v :: vs => by
    have ih := wds_len ad vs
    unfold lg_sl at ih ⊢
    rw [List.map_cons, List.flatMap_cons, List.length_append, ih]
    show _ = (if is2 v = true then 2 else 1) + wds vs
    by_cases h : is2 v = true
    · rw [if_pos ((cat2_iff ad v).mpr h), if_pos h]; rfl
    · rw [if_neg (fun q => h ((cat2_iff ad v).mp q)), if_neg h]; rfl
theorem lvA_c : ∀ {i : Nat} {av : List VV}, (∀ v ∈ av, cV v) → ∀ q ∈ lvA i av, cV q.2
  | _, [], _, q, hq => by cases hq
  | i, v :: vs, h, q, hq => by
    rcases List.mem_cons.mp hq with rfl | h2
    · exact cs_h h
    · exact lvA_c (cs_t h) q h2
theorem Runs.of {G : GG} {Y : YY} {d : Nat} {av : List VV} {M : MM} {Φ : Option VV → MM → Prop} (hpl : plainName Y.1.cls = true) (hw : wds av ≤ Y.2.2.1) (h : At G Y d 0 (lvA 0 av) [] M 0 0 Φ) : Runs G Y d av M Φ := by
  refine Met.ofW (cc := Y.2.1) (maxL := Y.2.2.1) (ret := Y.2.2.2.1) hpl rfl ?_
  intro p e s m args below meth c s₁ B hml hv
  obtain ⟨rfl, hE, hR, hC, ha⟩ := hv
  have hts := atoms_spec (ws := wsY Y) B.pre
  have hl := lv_entry (av.map (cv G.ad)) (n := Y.2.2.1) (by rw [wds_len]; exact hw)
  rw [lg_entry_eq]
  generalize (lg_sl (av.map (cv G.ad)) ++ List.replicate (Y.2.2.1 - (lg_sl (av.map (cv G.ad))).length) Slot.unset).toArray = lz at hl ⊢
  rw [lvA_cvl] at hl
  exact h p e s m _ below meth c s.heap [] lz ⟨B.exec, B.bytes, hml, B.returns, B.notSynchronized, findClass_of_methodNamed B.named, (name_of_methodNamed B.named B.method).1, fun w hw => hts w (List.mem_cons_of_mem _ hw), hE⟩ hR hC (fun v hv => by cases hv) (lvA_c ha) hl va_S.rf
/-! calls -/
def MB (Y : YY) (n : Nat) : Prop := Cond.code Y.1 Y.2.1 Y.2.2.1 Y.2.2.2.1 ∈ lw_good ∧ Cond.initialized Y.1.cls ∈ lw_good ∧ (Y.1.cls ≠ "java/lang/invoke/MethodHandle" ∧ Y.1.cls ≠ "java/lang/invoke/VarHandle") ∧ (parseMethodDescriptor Y.1.desc).map (fun d => d.parameters.length) = some n ∧ Y.2.2.1 ≤ 20
def MV (Y : YY) (ci n : Nat) : Prop := MB Y n ∧ Cond.instanceMethod Y.1 ∈ lw_good ∧ Cond.selects Y.1.cls Y.1 Y.1 ∈ lw_good ∧ ci < 13 ∧ ∃ (T : u_T) (N : Nat), vwCl[ci]? = some (Y.1.cls, T, N)
def MS (Y : YY) (n : Nat) : Prop := MB Y n ∧ Cond.static Y.1 ∈ lw_good
def MI (Y : YY) (n : Nat) : Prop := MB Y n ∧ Cond.instanceMethod Y.1 ∈ lw_good ∧ Y.1.name = "<init>" ∧ Y.2.2.2.1 = none
def LK (own : String) (idx : Nat) (y : MethodName) : Prop := Cond.methodLink own idx y ∈ lw_good ∨ ∃ host, Cond.methodLinkNest own idx y host ∈ lw_nest
theorem good_in {ws : List Cond} (h : ∀ w ∈ ws, w ∈ lw_good) : GoodIn lw_good ws := fun w hw => ⟨h w hw, good_of_word (List.mem_filter.mp (h w hw)).2⟩
theorem wsY_in {Y : YY} {n : Nat} (h : MB Y n) : ∀ w ∈ wsY Y, w ∈ lw_good := fun w hw => (List.mem_cons.mp hw).elim (fun e => e ▸ h.1) id
theorem nparams {Y : YY} {n : Nat} (h : MB Y n) : ∀ sig, parseMethodDescriptor Y.1.desc = some sig → n = sig.parameters.length := by
  intro sig hsg
  have h2 := h.2.2.2.1
  rw [hsg] at h2
  exact (Option.some.inj h2).symm
theorem Pc_blind (G : GG) (av : List VV) (M : MM) : FrameBlind (PcG G av M) := by
  intro a U g mk h
  obtain ⟨h1, h2, h3, h4, h5⟩ := h
  exact ⟨h1, h2.same rfl, h3, h4, h5⟩
theorem At.ran {G : GG} {Y : YY} {d pc : Nat} {ls : List (Nat × VV)} {M : MM} {k sl : Nat} {Φ : Option VV → MM → Prop} {Y' : YY} {rest : List VV} {Φ' : Option VV → MM → Prop} {p : Program} {e : Env} {s : State} {m : MethodId} {args a : Array Value} {below : List Frame} {meth : Method} {c : Code} {H : Heap} {locs : List Loc} {lz : Array Slot} {st0 : List Value}
    (X : Ctx G Y p s m args meth c) (hR : Rep G M H) (hl : ∀ q ∈ ls, cV q.2) (hv : lv_has lz Y.2.2.1 (cvl G.ad ls)) (hS : va_S (ALo G) s.heap H locs) (hrs : ∀ v ∈ rest, cV v)
    (hr : va_Run p G.l e (rmD d Y.2.2.2.2.1 Y.2.2.2.2.2) s m args below meth c H locs k sl Y'.2.2.2.2.1 Y'.2.2.2.2.2 (F0 m pc lz st0) (rest.map (cv G.ad)) (QcG G Φ' a) (fre G))
    (kk : ∀ r M', Φ' r M' → At G Y d (pc + 3) ls (r.toList ++ rest) M' (k + Y'.2.2.2.2.1) (sl + Y'.2.2.2.2.2) Φ) :
    W p G.l e (rmD d Y.2.2.2.2.1 Y.2.2.2.2.2) s m args below meth c H locs k sl (MQ below (QcG G Φ) args s Y.2.2.2.2.1 Y.2.2.2.2.2 (fre G)) (F0 m pc lz st0) := by
  intro T hT X9
  obtain ⟨v, st₀, t, T', L, h0, X', hL, e1, e2, ⟨hz, r, M', ho, hR', hC', hcv, hΦ⟩, st⟩ := hr T hT X9
  injection ho with ho
  subst ho
  rw [← e1] at hR' hz
  rw [h0] at hz
  have hlow : ∀ q, q < s.heap.size → ¬ ALo G q → T'.heap[q]? = s.heap[q]? := by
    intro q h1 h2
    have h3 : q < G.h0.size := Nat.not_le.mp h2
    rw [hR'.2.2.1 q h3, ← hR.2.2.1 q h3]
    exact hS.2.1 q h1 h2
  obtain ⟨t2, a1, b1⟩ := kk r M' hΦ p e s m args below meth c T'.heap (locs ++ L) lz X hR' hC' (fun v hv => (List.mem_append.mp hv).elim (hcv v) (hrs v)) hl hv ⟨Nat.le_trans hS.1 hz, hlow, fun q hq => (List.mem_append.mp hq).elim (hS.2.2 q) (hL q)⟩ T' rfl X'
  refine ⟨t2, st t2 ?_, b1⟩
  have e3 : (r.map (cv G.ad)).toList ++ rest.map (cv G.ad) = (r.toList ++ rest).map (cv G.ad) := by cases r <;> rfl
  rw [e3]
  exact a1
theorem rest_room {G : GG} {m : MethodId} {pc : Nat} {lz : Array Slot} {st0 : List Value} {rest : List VV} (h : (rest.map cat).sum ≤ 8) : 2 * (F0 m pc lz st0).monitorRoom + ((rest.map (cv G.ad)).map fun v => v.category).sum ≤ 8 := by
  refine lv_room ?_
  rw [List.map_map]
  have : ((fun v => v.category) ∘ cv G.ad) = cat := by funext v; exact cv_cat G.ad v
  rw [this]
  exact h
theorem At.callV {G : GG} {Y : YY} {d pc : Nat} {ls : List (Nat × VV)} {st : List VV} {M : MM} {k sl : Nat} {Φ : Option VV → MM → Prop} {Y' : YY} {av rest : List VV} {r ci n N idx d' : Nat} {Φ' : Option VV → MM → Prop} (hm : MV Y' ci n) (hlk : LK Y.1.cls idx Y'.1) (hd : decode Y.2.1 pc = .ok (.invokevirtual idx, 3)) (hst : st = av.reverse ++ vr r :: rest) (hn : av.length = n) (hsh : sh r = (ci, N)) (hr : r ≤ M.1) (hrm : (rest.map cat).sum ≤ 8) (hdd : d' + 1 ≤ d) (hks : k + Y'.2.2.2.2.1 ≤ Y.2.2.2.2.1 ∧ sl + Y'.2.2.2.2.2 ≤ Y.2.2.2.2.2)
    (hM : Runs G Y' d' (vr r :: av) M Φ') (kk : ∀ r M', Φ' r M' → At G Y d (pc + 3) ls (r.toList ++ rest) M' (k + Y'.2.2.2.2.1) (sl + Y'.2.2.2.2.2) Φ) : At G Y d (pc) ls (st) M k sl Φ := by
  intro p e s m args below meth c H locs lz X hR hC hs hl hv hS
  subst hst
  obtain ⟨hmb, hmi, hse, hci, T0, N0, hcl⟩ := hm
  have hr1 := sh_pos hsh (by omega)
  have hcr := cv_r (ad := G.ad) (r := r) (by omega)
  have hav : ∀ v ∈ vr r :: av, cV v := fun v hv => (List.mem_cons.mp hv).elim (fun e => e ▸ trivial) (fun h => hs v (List.mem_append_left _ (List.mem_reverse.mpr h)))
  have hrs : ∀ v ∈ rest, cV v := fun v hv => hs v (List.mem_append_right _ (List.mem_cons_of_mem _ hv))
  have hts := X.2.2.2.2.2.2.2.1
  have hE := X.2.2.2.2.2.2.2.2
  have hat := hR.2.2.2 r hr1 hr
  rw [ec_obj hsh hci] at hat
  have hp : PreV s H Y'.1.cls (G.ad r) (PcG G (vr r :: av) M) (av.map (cv G.ad)) := ⟨Pc_blind G _ M, va_recv hE.2.1 (va_P1 hat) (q0 := 0) hcl rfl, fun U hU hW => ⟨by rw [List.map_cons, hcr], hE.warm hW, by rw [hU]; exact hR, hC, hav⟩⟩
  have hb : (8 : Nat) + (Y'.2.2.1 + 11) + (rmD d' Y'.2.2.2.2.1 Y'.2.2.2.2.2).locals ≤ (rmD d Y.2.2.2.2.1 Y.2.2.2.2.2).locals := by have := hmb.2.2.2.2; show 8 + (Y'.2.2.1 + 11) + 40 * d' ≤ 40 * d; omega
  refine At.ran (Y' := Y') (a := (Value.ref (G.ad r) :: av.map (cv G.ad)).toArray) (rest := rest) X hR hl hv hS hrs ?_ kk
  rcases hlk with hlk | ⟨host, hlk⟩
  · exact va_runV (Ts := lw_good) (nL := Y.2.2.1) (n := n) ⟨X.1, X.2.1, X.2.2.1, X.2.2.2.2.2.1, hts⟩ hM ⟨⟨rfl, rfl, hdd, hb, pay_in hts (good_in (wsY_in hmb)), List.mem_cons_self, hts _ hmb.1, hts _ hmb.2.1, hmb.2.2.1, nparams hmb, hts _ hlk⟩, hts _ hmi, hts _ hse⟩ hp rfl (by rw [List.length_map]; exact hn) hv.1 (by show List.map (cv G.ad) _ = _; rw [List.map_append, List.map_reverse, List.map_cons, hcr]) (rest_room hrm) hd hks
  · exact va_runVN (Ts := lw_good) (nL := Y.2.2.1) (n := n) ⟨X.1, X.2.1, X.2.2.1, X.2.2.2.2.2.1, hts⟩ hM ⟨⟨⟨rfl, rfl, hdd, hb, pay_in hts (good_in (wsY_in hmb)), List.mem_cons_self⟩, hts _ hmb.1, hts _ hmb.2.1, hmb.2.2.1, nparams hmb, va_Nw.use rfl (hE.2.2.1 _ hlk)⟩, hts _ hmi, hts _ hse⟩ hp rfl (by rw [List.length_map]; exact hn) hv.1 (by show List.map (cv G.ad) _ = _; rw [List.map_append, List.map_reverse, List.map_cons, hcr]) (rest_room hrm) hd hks
theorem At.callS {G : GG} {Y : YY} {d pc : Nat} {ls : List (Nat × VV)} {st : List VV} {M : MM} {k sl : Nat} {Φ : Option VV → MM → Prop} {Y' : YY} {av rest : List VV} {n idx d' : Nat} {Φ' : Option VV → MM → Prop} (hm : MS Y' n) (hlk : LK Y.1.cls idx Y'.1) (hd : decode Y.2.1 pc = .ok (.invokestatic idx, 3)) (hst : st = av.reverse ++ rest) (hn : av.length = n) (hrm : (rest.map cat).sum ≤ 8) (hdd : d' + 1 ≤ d) (hks : k + Y'.2.2.2.2.1 ≤ Y.2.2.2.2.1 ∧ sl + Y'.2.2.2.2.2 ≤ Y.2.2.2.2.2)
    (hM : Runs G Y' d' av M Φ') (kk : ∀ r M', Φ' r M' → At G Y d (pc + 3) ls (r.toList ++ rest) M' (k + Y'.2.2.2.2.1) (sl + Y'.2.2.2.2.2) Φ) : At G Y d (pc) ls (st) M k sl Φ := by
  intro p e s m args below meth c H locs lz X hR hC hs hl hv hS
  subst hst
  obtain ⟨hmb, hms⟩ := hm
  have hav : ∀ v ∈ av, cV v := fun v hv => hs v (List.mem_append_left _ (List.mem_reverse.mpr hv))
  have hrs : ∀ v ∈ rest, cV v := fun v hv => hs v (List.mem_append_right _ hv)
  have hts := X.2.2.2.2.2.2.2.1
  have hE := X.2.2.2.2.2.2.2.2
  have hp : PreS s H (PcG G av M) (av.map (cv G.ad)) := ⟨Pc_blind G _ M, fun U hU hW => ⟨rfl, hE.warm hW, by rw [hU]; exact hR, hC, hav⟩⟩
  have hb : (8 : Nat) + (Y'.2.2.1 + 11) + (rmD d' Y'.2.2.2.2.1 Y'.2.2.2.2.2).locals ≤ (rmD d Y.2.2.2.2.1 Y.2.2.2.2.2).locals := by have := hmb.2.2.2.2; show 8 + (Y'.2.2.1 + 11) + 40 * d' ≤ 40 * d; omega
  refine At.ran (Y' := Y') (a := (av.map (cv G.ad)).toArray) (rest := rest) X hR hl hv hS hrs ?_ kk
  rcases hlk with hlk | ⟨host, hlk⟩
  · exact va_runS (Ts := lw_good) (nL := Y.2.2.1) (n := n) ⟨X.1, X.2.1, X.2.2.1, X.2.2.2.2.2.1, hts⟩ hM ⟨⟨rfl, rfl, hdd, hb, pay_in hts (good_in (wsY_in hmb)), List.mem_cons_self, hts _ hmb.1, hts _ hmb.2.1, hmb.2.2.1, nparams hmb, hts _ hlk⟩, hts _ hms⟩ hp rfl (by rw [List.length_map]; exact hn) hv.1 (by show List.map (cv G.ad) _ = _; rw [List.map_append, List.map_reverse]) (rest_room hrm) hd hks
  · exact va_runSN (Ts := lw_good) (nL := Y.2.2.1) (n := n) ⟨X.1, X.2.1, X.2.2.1, X.2.2.2.2.2.1, hts⟩ hM ⟨⟨⟨rfl, rfl, hdd, hb, pay_in hts (good_in (wsY_in hmb)), List.mem_cons_self⟩, hts _ hmb.1, hts _ hmb.2.1, hmb.2.2.1, nparams hmb, va_Nw.use rfl (hE.2.2.1 _ hlk)⟩, hts _ hms, trivial⟩ hp rfl (by rw [List.length_map]; exact hn) hv.1 (by show List.map (cv G.ad) _ = _; rw [List.map_append, List.map_reverse]) (rest_room hrm) hd hks
theorem At.callI {G : GG} {Y : YY} {d pc : Nat} {ls : List (Nat × VV)} {st : List VV} {M : MM} {k sl : Nat} {Φ : Option VV → MM → Prop} {Y' : YY} {av rest : List VV} {r n idx d' : Nat} {Φ' : Option VV → MM → Prop} (hm : MI Y' n) (hlk : LK Y.1.cls idx Y'.1) (hd : decode Y.2.1 pc = .ok (.invokespecial idx, 3)) (hst : st = av.reverse ++ vr r :: rest) (hn : av.length = n) (hr1 : 1 ≤ r) (hrm : (rest.map cat).sum ≤ 8) (hdd : d' + 1 ≤ d) (hks : k + Y'.2.2.2.2.1 ≤ Y.2.2.2.2.1 ∧ sl + Y'.2.2.2.2.2 ≤ Y.2.2.2.2.2)
    (hM : Runs G Y' d' (vr r :: av) M Φ') (kk : ∀ r M', Φ' r M' → At G Y d (pc + 3) ls (r.toList ++ rest) M' (k + Y'.2.2.2.2.1) (sl + Y'.2.2.2.2.2) Φ) : At G Y d (pc) ls (st) M k sl Φ := by
  intro p e s m args below meth c H locs lz X hR hC hs hl hv hS
  subst hst
  obtain ⟨hmb, hmi, hin, hrt⟩ := hm
  have hcr := cv_r (ad := G.ad) (r := r) (by omega)
  have hav : ∀ v ∈ vr r :: av, cV v := fun v hv => (List.mem_cons.mp hv).elim (fun e => e ▸ trivial) (fun h => hs v (List.mem_append_left _ (List.mem_reverse.mpr h)))
  have hrs : ∀ v ∈ rest, cV v := fun v hv => hs v (List.mem_append_right _ (List.mem_cons_of_mem _ hv))
  have hts := X.2.2.2.2.2.2.2.1
  have hE := X.2.2.2.2.2.2.2.2
  have hp : PreS s H (PcG G (vr r :: av) M) (.ref (G.ad r) :: av.map (cv G.ad)) := ⟨Pc_blind G _ M, fun U hU hW => ⟨by rw [List.map_cons, hcr], hE.warm hW, by rw [hU]; exact hR, hC, hav⟩⟩
  have hb : (8 : Nat) + (Y'.2.2.1 + 11) + (rmD d' Y'.2.2.2.2.1 Y'.2.2.2.2.2).locals ≤ (rmD d Y.2.2.2.2.1 Y.2.2.2.2.2).locals := by have := hmb.2.2.2.2; show 8 + (Y'.2.2.1 + 11) + 40 * d' ≤ 40 * d; omega
  have hcode := hmb.1
  rw [hrt] at hcode
  have hwm : Cond.code Y'.1 Y'.2.1 Y'.2.2.1 none ∈ wsY Y' := by unfold wsY; rw [hrt]; exact List.mem_cons_self
  refine At.ran (Y' := Y') (a := (Value.ref (G.ad r) :: av.map (cv G.ad)).toArray) (rest := rest) X hR hl hv hS hrs ?_ kk
  rcases hlk with hlk | ⟨host, hlk⟩
  · exact va_runI (Ts := lw_good) (nL := Y.2.2.1) (n := n) ⟨X.1, X.2.1, X.2.2.1, X.2.2.2.2.2.1, hts⟩ hM ⟨⟨rfl, rfl, hdd, hb, pay_in hts (good_in (wsY_in hmb)), hwm, hts _ hcode, hts _ hmb.2.1, hmb.2.2.1, nparams hmb, hts _ hlk⟩, hin, hts _ hmi⟩ hp rfl (by rw [List.length_map]; exact hn) hv.1 (by show List.map (cv G.ad) _ = _; rw [List.map_append, List.map_reverse, List.map_cons, hcr]) (rest_room hrm) hd hks
  · exact va_runIN (Ts := lw_good) (nL := Y.2.2.1) (n := n) ⟨X.1, X.2.1, X.2.2.1, X.2.2.2.2.2.1, hts⟩ hM ⟨⟨⟨rfl, rfl, hdd, hb, pay_in hts (good_in (wsY_in hmb)), hwm⟩, hts _ hcode, hts _ hmb.2.1, hmb.2.2.1, nparams hmb, va_Nw.use rfl (hE.2.2.1 _ hlk)⟩, hin, hts _ hmi⟩ hp rfl (by rw [List.length_map]; exact hn) hv.1 (by show List.map (cv G.ad) _ = _; rw [List.map_append, List.map_reverse, List.map_cons, hcr]) (rest_room hrm) hd hks
/-! the law of a method whose answer is told: what it answers, and the memory behind it -/
abbrev mm (S : Nat → Nat → Int) : MM := (149, refs, S)
def RD (G : GG) (Y : YY) (d : Nat) (av : List VV) (S : Nat → Nat → Int) (r : Option VV) (S' : Nat → Nat → Int) : Prop := Runs G Y d av (mm S) (fun r' M' => r' = r ∧ M' = mm S')
abbrev EQ (r : Option VV) (S : Nat → Nat → Int) : Option VV → MM → Prop := fun r' M' => r' = r ∧ M' = mm S
theorem At.cV {G : GG} {Y : YY} {d pc : Nat} {ls : List (Nat × VV)} {st : List VV} {S S' : Nat → Nat → Int} {Φ : Option VV → MM → Prop} {Y' : YY} {av rest : List VV} {r ci n N idx d' : Nat} {v : Option VV} (hm : MV Y' ci n) (hlk : LK Y.1.cls idx Y'.1) (hd : decode Y.2.1 pc = .ok (.invokevirtual idx, 3)) (hst : st = av.reverse ++ vr r :: rest) (hn : av.length = n) (hsh : sh r = (ci, N)) (hrm : (rest.map cat).sum ≤ 8) (hdd : d' + 1 ≤ d) (hks : Y'.2.2.2.2.1 = 0 ∧ Y'.2.2.2.2.2 = 0)
    (hM : RD G Y' d' (vr r :: av) S v S') (kk : At G Y d (pc + 3) ls (v.toList ++ rest) (mm S') 0 0 Φ) : At G Y d pc ls st (mm S) 0 0 Φ := by
  refine At.callV hm hlk hd hst hn hsh (le149 hsh (by have := hm.2.2.2.1; omega)) hrm hdd (by rw [hks.1, hks.2]; exact ⟨Nat.zero_le _, Nat.zero_le _⟩) hM ?_
  rintro r M' ⟨rfl, rfl⟩
  rw [hks.1, hks.2]
  exact kk
theorem At.cS {G : GG} {Y : YY} {d pc : Nat} {ls : List (Nat × VV)} {st : List VV} {S S' : Nat → Nat → Int} {Φ : Option VV → MM → Prop} {Y' : YY} {av rest : List VV} {n idx d' : Nat} {v : Option VV} (hm : MS Y' n) (hlk : LK Y.1.cls idx Y'.1) (hd : decode Y.2.1 pc = .ok (.invokestatic idx, 3)) (hst : st = av.reverse ++ rest) (hn : av.length = n) (hrm : (rest.map cat).sum ≤ 8) (hdd : d' + 1 ≤ d) (hks : Y'.2.2.2.2.1 = 0 ∧ Y'.2.2.2.2.2 = 0)
    (hM : RD G Y' d' av S v S') (kk : At G Y d (pc + 3) ls (v.toList ++ rest) (mm S') 0 0 Φ) : At G Y d pc ls st (mm S) 0 0 Φ := by
  refine At.callS hm hlk hd hst hn hrm hdd (by rw [hks.1, hks.2]; exact ⟨Nat.zero_le _, Nat.zero_le _⟩) hM ?_
  rintro r M' ⟨rfl, rfl⟩
  rw [hks.1, hks.2]
  exact kk
