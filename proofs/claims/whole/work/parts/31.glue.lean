theorem eqR {A : Array Value} {s : State} {t u : Term} {a : Nat} (h : (Cond.eq t u).before A s = true) (ht : t.eval A s none [] s = some (.ref a)) : u.eval A s none [] s = some (.ref a) := by
  cases hv : u.eval A s none [] s with
  | none => simp [Cond.before, Cond.holds, Cond.value, ht, hv] at h
  | some w =>
    simp only [Cond.before, Cond.holds, Cond.value, ht, hv] at h
    cases w <;> simp_all
def adG (z b f : Nat) (K V : Nat → Nat) (r : Nat) : Nat := if r ≤ 100000 then z + (r - 1) else if r = 100031 then b else if r = 100041 then f else if r < 100010 then K (r - 100001) else V (r - 100011)
def cyG (c0 c1 c2 c3 c4 c5 c6 : ClassId) (i : Nat) : ClassId := if i = 20 then c0 else if i = 21 then c1 else if i = 22 then c2 else if i = 23 then c3 else if i = 24 then c4 else if i = 25 then c5 else c6
theorem adG_K {z b f : Nat} {K V : Nat → Nat} {i : Nat} (h : i < 3) : adG z b f K V (100001 + i) = K i := by
  unfold adG
  rw [if_neg (by omega), if_neg (by omega), if_neg (by omega), if_pos (by omega), Nat.add_sub_cancel_left]
theorem adG_V {z b f : Nat} {K V : Nat → Nat} {i : Nat} (h : i < 3) : adG z b f K V (100011 + i) = V i := by
  unfold adG
  rw [if_neg (by omega), if_neg (by omega), if_neg (by omega), if_neg (by omega), Nat.add_sub_cancel_left]
theorem adG_b {z b f : Nat} {K V : Nat → Nat} : adG z b f K V 100031 = b := by
  unfold adG
  rw [if_neg (by omega), if_pos rfl]
theorem adG_f {z b f : Nat} {K V : Nat → Nat} : adG z b f K V 100041 = f := by
  unfold adG
  rw [if_neg (by omega), if_neg (by omega), if_pos rfl]
set_option maxHeartbeats 4000000 in
theorem env_S {A : Array Value} {s : State} (hn : narrow_1.before A s = true) : ∃ K V : Nat → Nat, vk_S 3 stLen stByt K V (fun q => s.heap.size ≤ q) s s.heap ∧ ∀ i : Nat, i < 3 → (sTm i).eval A s none [] s = some (.ref (K i)) := by
  obtain ⟨e0, o0, y0, z0, e1, o1, y1, z1, e2, o2, y2, z2, n01, n02, n12, -, -, -⟩ := nw_r hn
  refine vk_Sof (N := 3) (tm := sTm) (len := stLen) (byt := stByt) (by decide) ?_ ?_ ?_ ?_ ?_ ?_ (fun a h1 h2 => by omega)
  · intro i hi
    have hi' : i = 0 ∨ i = 1 ∨ i = 2 := by omega
    rcases hi' with rfl | rfl | rfl
    · exact e0
    · exact e1
    · exact e2
  · intro i hi
    have hi' : i = 0 ∨ i = 1 ∨ i = 2 := by omega
    rcases hi' with rfl | rfl | rfl
    · exact o0
    · exact o1
    · exact o2
  · intro i hi
    have hi' : i = 0 ∨ i = 1 ∨ i = 2 := by omega
    rcases hi' with rfl | rfl | rfl
    · exact y0
    · exact y1
    · exact y2
  · intro i hi
    have hi' : i = 0 ∨ i = 1 ∨ i = 2 := by omega
    rcases hi' with rfl | rfl | rfl
    · exact z0
    · exact z1
    · exact z2
  · intro i hi
    have hi' : i = 0 ∨ i = 1 ∨ i = 2 := by omega
    rcases hi' with rfl | rfl | rfl
    · exact fun j hj => allK_ok (nw_el0 hn) j hj
    · exact fun j hj => allK_ok (nw_el1 hn) j hj
    · exact fun j hj => allK_ok (nw_el2 hn) j hj
  · intro i j hi hj hij
    have hi' : i = 0 ∨ i = 1 ∨ i = 2 := by omega
    have hj' : j = 0 ∨ j = 1 ∨ j = 2 := by omega
    rcases hi' with rfl | rfl | rfl <;> rcases hj' with rfl | rfl | rfl
    · exact absurd rfl hij
    · exact Or.inl n01
    · exact Or.inl n02
    · exact Or.inr n01
    · exact absurd rfl hij
    · exact Or.inl n12
    · exact Or.inr n02
    · exact Or.inr n12
    · exact absurd rfl hij
set_option maxHeartbeats 4000000 in
theorem env_of {A : Array Value} {s : State} {b L : Nat} {xs : Nat → Int32} (l : Launch) (hts : ∀ w ∈ lw_tbl, w.before A s = true) (hX : va_X b L xs s s.heap) (hn : narrow_1.before A s = true) : ∃ G : GG, G.l = l ∧ G.h0 = s.heap ∧ EnvU G s ∧ scL G = L ∧ G.ad 100031 = b := by
  have hg : ∀ w ∈ lw_good, w.before A s = true := fun w hw => hts w (List.mem_filter.mp hw).1
  obtain ⟨D, hD⟩ := env_D hg
  obtain ⟨c0, a0, f0⟩ := arr_P (hg _ wac_int)
  obtain ⟨c1, a1, f1⟩ := arr_P (hg _ wac_long)
  obtain ⟨c2, a2, f2⟩ := arr_P (hg _ wac_byte)
  obtain ⟨c3, a3, f3⟩ := arr_P (hg _ wac_boolean)
  obtain ⟨c4, a4, f4⟩ := arr_O (hts _ (List.mem_filter.mp wov_S).1)
  obtain ⟨c5, a5, f5⟩ := arr_O (hts _ (List.mem_filter.mp wov_Q).1)
  obtain ⟨c6, a6, f6⟩ := arr_O (hts _ (List.mem_filter.mp wov_T).1)
  obtain ⟨K, V, hS, hK⟩ := env_S hn
  obtain ⟨-, -, -, -, -, -, -, -, -, -, -, -, -, -, -, heq, hcs, hfm⟩ := nw_r hn
  have hA : ∀ a : Nat, a < s.heap.size → ¬ s.heap.size ≤ a := fun a h1 h2 => by omega
  have hC := va_Zof (A := fun q => s.heap.size ≤ q) (hts _ ow_lsC) (hts _ ow_inC) (va_eqt hcs) hA
  have hF : ∃ f : Nat, va_Z "jdk/internal/util/Preconditions" "SIOOBE_FORMATTER" "Ljava/util/function/BiFunction;" .null (fun q => s.heap.size ≤ q) s s.heap ∨ va_Z "jdk/internal/util/Preconditions" "SIOOBE_FORMATTER" "Ljava/util/function/BiFunction;" (.ref f) (fun q => s.heap.size ≤ q) s s.heap := by
    rcases va_Zqof (A := fun q => s.heap.size ≤ q) (hts _ ow_lsF) (hts _ ow_inF) hfm hA with h | ⟨t, h⟩
    · exact ⟨0, Or.inl h⟩
    · exact ⟨t, Or.inr h⟩
  obtain ⟨f, hF⟩ := hF
  obtain ⟨scr, x1, x2, x3, x4, x5⟩ := hX
  refine ⟨(l, D, cyG c0 c1 c2 c3 c4 c5 c6, s.heap, adG s.heap.size b f K V), rfl, rfl, ⟨?_, ⟨hD, ?_⟩, ?_, ?_⟩, ?_, adG_b (z := s.heap.size) (f := f) (K := K) (V := V)⟩
  · intro r h1 h2
    show adG s.heap.size b f K V r = _
    unfold adG
    rw [if_pos h2]
  · intro k q hk
    match k with
    | 0 => cases hk; exact ⟨a0, f0⟩
    | 1 => cases hk; exact ⟨a1, f1⟩
    | 2 => cases hk; exact ⟨a2, f2⟩
    | 3 => cases hk; exact ⟨a3, f3⟩
    | 4 => cases hk; exact ⟨a4, f4⟩
    | 5 => cases hk; exact ⟨a5, f5⟩
    | 6 => cases hk; exact ⟨a6, f6⟩
    | k + 7 => cases hk
  · intro w hw
    have h1 := hts w (List.mem_filter.mp hw).1
    have h2 := (List.mem_filter.mp hw).2
    unfold isNest at h2
    split at h2
    · exact va_Nw.of rfl h1
    · exact va_Nw.of rfl h1
    · exact va_AO.of h1
    · cases h2
  · refine ⟨⟨fun i hi => ?_, fun i j hi hj e => hS.2 i j hi hj ((adG_K (z := s.heap.size) (b := b) (f := f) (K := K) (V := V) hi).symm.trans (e.trans (adG_K hj)))⟩, ⟨?_, ?_, ?_, ?_⟩, hC, ?_, fun _ => ⟨scr, ?_, x2, x3, fun j hj => ⟨xs j, x5 j (x4 ▸ hj)⟩⟩⟩
    · show va_O _ (adG s.heap.size b f K V _) _ _ _ ∧ va_OF _ _ _ _ (adG s.heap.size b f K V _) _ _ _ ∧ va_OF _ _ _ (.ref (adG s.heap.size b f K V _)) (adG s.heap.size b f K V _) _ _ _ ∧ va_T _ (adG s.heap.size b f K V _) _ _ _ _ _
      rw [adG_K hi, adG_V hi]
      exact hS.1 i hi
    · show vk_R _ _ _ (adG s.heap.size b f K V (100001 + 0)) _
      rw [adG_K (by omega)]
      exact vk_R.of (hts _ sr_97) (hK 0 (by omega))
    · show vk_R _ _ _ (adG s.heap.size b f K V (100001 + 1)) _
      rw [adG_K (by omega)]
      exact vk_R.of (hts _ sr_89) (hK 1 (by omega))
    · show vk_R _ _ _ (adG s.heap.size b f K V (100001 + 2)) _
      rw [adG_K (by omega)]
      exact vk_R.of (hts _ sr_86) (hK 2 (by omega))
    · show vk_R _ _ _ (adG s.heap.size b f K V (100001 + 1)) _
      rw [adG_K (by omega)]
      exact vk_R.of (hts _ sr_124) (eqR heq (hK 1 (by omega)))
    · rcases hF with h | h
      · exact ⟨0, by rw [cv_0]; exact h⟩
      · refine ⟨100041, ?_⟩
        rw [cv_r (by omega)]
        show va_Z _ _ _ (.ref (adG s.heap.size b f K V 100041)) _ _ _
        rw [adG_f]
        exact h
    · show s.heap[adG s.heap.size b f K V 100031]? = _
      rw [adG_b]
      exact x1
  · unfold scL
    rw [show (GG.h0 (l, D, cyG c0 c1 c2 c3 c4 c5 c6, s.heap, adG s.heap.size b f K V))[GG.ad (l, D, cyG c0 c1 c2 c3 c4 c5 c6, s.heap, adG s.heap.size b f K V) 100031]? = some scr from by show s.heap[adG s.heap.size b f K V 100031]? = _; rw [adG_b]; exact x1]
    exact x4
theorem scX_c (G : GG) (j : Nat) : cI (scX G j) := by
  unfold scX
  split
  · split
    · exact ii_c _
    · exact ⟨by decide, by decide⟩
  · exact ⟨by decide, by decide⟩
theorem room_less {s : State} {pl : Platform} (h : s.hasRoom pl room_1 = true) : s.hasRoom pl (rmD 74 600000 7302250) = true := by
  simp only [State.hasRoom, Bool.and_eq_true, decide_eq_true_eq] at h ⊢
  have e1 : room_1.locals = 84000 := rfl
  have e2 : room_1.frames = 2048 := rfl
  have e3 : (rmD 74 600000 7302250).locals = 2960 := rfl
  have e4 : (rmD 74 600000 7302250).frames = 74 := rfl
  obtain ⟨⟨⟨⟨h1, h2⟩, h3⟩, h4⟩, h5⟩ := h
  refine ⟨⟨⟨⟨?_, ?_⟩, h3⟩, h4⟩, h5⟩
  · omega
  · exact ⟨by omega, by omega, by omega, by omega, h2.2.2.2.2⟩
def PureFact : Prop := ∀ (L : Nat) (A : Nat → Int), L ≤ 3072 → (∀ j, cI (A j)) → ∃ S', fLaw L A S0 = some (true, S')
def R_law : String := "OneWayPastLaw"
def lw_P (b : Addr) (xs : List Int32) (args : Array Value) (s : State) : Prop := args = #[.ref b] ∧ s.IntsAt b xs ∧ xs.length ≤ 3072 ∧ (Jvm.Cond.and given_1 narrow_1).before args s = true
def lw_Q (_ : Array Value) (s : State) (o : Outcome) (t : State) : Prop := o = .returned (some (.int 1)) ∧ Framed s o t [] 600000 7302250
def lw_Z (below : List Frame) (a : Array Value) (s : State) : State → Prop := fun t => ∃ o, t.status = .running ∧ Ended t below o ∧ lw_Q a s o t
def lw_At (p : Program) (s : State) (m : MethodId) (meth : Method) (c : Code) (b L : Nat) (xs : Nat → Int32) : Prop :=
  p.tables.exec = Jvm.exec ∧ c.code = code ∧ meth.sig.returnType = ret ∧ c.maxLocals = 4 ∧ s.vm.findClass R_law = some m.cls ∧ (∀ w ∈ lw_tbl, w.before #[Value.ref b] s = true) ∧ va_X b L xs s s.heap ∧ b < s.heap.size ∧ meth.locks = false ∧ (Jvm.Cond.and given_1 narrow_1).before #[Value.ref b] s = true ∧ meth.name = yL_law.name
set_option maxHeartbeats 4000000 in
theorem whole_start (hpure : PureFact) {p : Program} {e : Env} {s : State} {m : MethodId} {below : List Frame} {meth : Method} {c : Code} (l : Launch) {b L : Nat} {xs : Nat → Int32} (hL : L ≤ 3072) (C0 : lw_At p s m meth c b L xs) : W p l e room_1 s m #[Value.ref b] below meth c s.heap [] 0 0 (lw_Z below #[Value.ref b] s) (entryFrame m ([Value.ref b] : List Value).toArray 4) := by
  obtain ⟨hx, hb, hr, hml, hown, hts, hX, hbl, hlk, hgv, hnm⟩ := C0
  obtain ⟨G, rfl, hh, hE, hLL, had⟩ := env_of l hts hX (br hgv)
  obtain ⟨S', hp⟩ := hpure L (scX G) hL (scX_c G)
  have K := sLaw (G := G) hLL rfl (by omega) hp
  intro T hT X
  have hl := lv_entry [Value.ref b] (n := 4) (Nat.le_of_ble_eq_true rfl)
  rw [lg_entry_eq]
  generalize (lg_sl [Value.ref b] ++ List.replicate (4 - (lg_sl [Value.ref b]).length) Slot.unset).toArray = lz at hl ⊢
  have hl2 : lv_has lz maxLocals (cvl G.ad [(0, vr 100031)]) := by
    have e : cvl G.ad [(0, vr 100031)] = lv_args 0 [Value.ref b] := by
      show [(0, cv G.ad (vr 100031))] = [(0, Value.ref b)]
      rw [cv_r (by omega), had]
    rw [e]
    exact hl
  have X' : Stand p G.l e (rmD 74 600000 7302250) s m #[Value.ref b] below meth c T [] 0 0 := { X with room := room_less X.room }
  obtain ⟨t, a1, o, b1, b2, ⟨-, r, M, ho, -, -, -, hΦ⟩, Lc, hf, hfree⟩ := K p e s m #[Value.ref b] below meth c s.heap [] lz ⟨hx, hb, hml, hr, hlk, hown, hnm, fun w hw => hts w (List.mem_filter.mp hw).1, hE⟩ ⟨by rw [hh]; rfl, Nat.zero_le _, fun q _ => by rw [hh], fun r h1 h2 => absurd (show r ≤ 0 from h2) (by omega)⟩ (fun _ _ => ⟨fun _ => (show cL 0 from ⟨by decide, by decide⟩), fun _ => (show cI 0 from ⟨by decide, by decide⟩)⟩) (fun v hv => by cases hv) (fun q hq => by rcases List.mem_singleton.mp hq with rfl; trivial) hl2 va_S.rf T hT X'
  obtain ⟨rfl, -⟩ := hΦ
  refine ⟨t, a1, o, b1, b2, ho, hf.1, hf.2.1, hf.2.2.weaken (fun y hy hlt => ?_) (Nat.le_refl _) (Nat.le_refl _)⟩
  have h3 : G.h0.size ≤ y.base := hfree y hy
  rw [hh] at h3
  exact absurd hlt (Nat.not_lt.mpr h3)
set_option maxHeartbeats 4000000 in
theorem lw_walk (hpure : PureFact) (l : Launch) (hflags : l.flags = flags0) (b : Addr) (xs : List Int32) : MetFree l x (headSpec (Jvm.Cond.code x code maxLocals ret :: tables_1) room_1) (lw_P b xs) (fun _ _ _ _ _ => True) lw_Q := by
  refine MetFree.of_bodyS (code := code) (maxLocals := maxLocals) (ret := ret) (by decide) ?_ ?_
  · intro args s m h hn
    obtain ⟨meth, c, h1, h2, h3, h4, h5, h6, -, -⟩ := Cond.code_spec hn (atoms_spec (ws := Jvm.Cond.code x code maxLocals ret :: tables_1) h _ List.mem_cons_self)
    exact ⟨meth, c, h1, h2, h3, h4, h5, h6⟩
  · intro p e s m args below meth c s₁ B hml0 hP _
    obtain ⟨rfl, hx, hbd, hgv⟩ := hP
    obtain ⟨scr, harrAt, hlist, hof, hsmall⟩ := hx
    obtain ⟨hcb, hkn, -, -⟩ := State.arrayAt?_spec harrAt
    have hown : s.vm.findClass R_law = some m.cls := findClass_of_methodNamed B.named
    have hts0 : ∀ c ∈ (Jvm.Cond.code x code maxLocals ret :: tables_1), c.before #[Value.ref b] s = true := atoms_spec (ws := Jvm.Cond.code x code maxLocals ret :: tables_1) B.pre
    have hts : ∀ w ∈ lw_tbl, w.before #[Value.ref b] s = true := k2_hts_sels lw_privs (fun w hw => hts0 w (List.mem_cons_of_mem _ hw)) lw_privs_ok
    have hml : c.maxLocals = 4 := B.maxLocals_eq (hts0 _ List.mem_cons_self)
    have X₀ : Stand p l e room_1 s m #[Value.ref b] below meth c s₁ [] 0 0 := Stand.of_body B
    have hh0 : s₁.heap = s.heap := by rw [B.state]; rfl
    have hsz : scr.slots.size = xs.length := by rw [← Array.length_toList, hlist, List.length_map]
    have hval : ∀ j : Nat, j < xs.length → scr.slots[j]? = some (.int (xs.getD j 0)) := fun j hj => by
      rw [← Array.getElem?_toList, hlist]
      simp [hj]
    have hbl : b < s.heap.size := (Array.getElem?_eq_some_iff.mp hcb).1
    have hX : va_X b xs.length (fun j => xs.getD j 0) s s.heap := ⟨scr, hcb, hof, hkn, hsz, hval⟩
    have K : W p l e room_1 s m #[Value.ref b] below meth c s₁.heap [] 0 0 (lw_Z below #[Value.ref b] s) (entryFrame m ([Value.ref b] : List Value).toArray 4) := by
      rw [hh0]
      exact whole_start hpure l hbd ⟨B.exec, B.bytes, B.returns, hml, hown, hts, hX, hbl, B.notSynchronized, hgv, (name_of_methodNamed B.named B.method).1⟩
    obtain ⟨t, a1, o, b1, b2, b3⟩ := K s₁ rfl X₀
    exact ⟨t, o, a1, b1, b2, b3⟩
theorem lw_pre_spec {args : Array Value} {s : State} (h : (Jvm.Cond.and given_1 narrow_1).before args s = true) (hr : rest_1_c.before args s = true) : ∃ (b : Addr) (xs : List Int32), lw_P b xs args s := by
  have hs := flat_of_before _ h
  have hq := flat_of_before _ hr
  have hc : (Cond.count 1).before args s = true := hs _ (by decide +kernel)
  have harr : (Cond.arrayOf (.arg 0) .int).before args s = true := hs _ (by decide +kernel)
  have hle : (Cond.le (.length (.arg 0)) (.int 3072)).before args s = true := hs _ (by decide +kernel)
  have hlen : (Cond.isInt (.length (.arg 0))).before args s = true := hq _ (by decide +kernel)
  have hall : (Cond.all (.arg 0) (.isInt (.elem (.arg 0) (.index 0)))).before args s = true := hq _ (by decide +kernel)
  obtain ⟨b, xs, hb, hx⟩ := State.ints_of_pre rfl harr hlen hall
  have hsm : xs.length < 2 ^ 31 := hx.choose_spec.2.2.2
  have hev : (Term.length (.arg 0)).eval args s none [] s = some (.int xs.length.toInt32) := hx.length_eval hb
  have hv := Cond.le_ints hev (show (Term.int 3072).eval args s none [] s = some (.int 3072) from rfl)
  have hd : xs.length.toInt32 ≤ 3072 := by
    simpa [Cond.before, Cond.holds, hv] using hle
  have hN : xs.length ≤ 3072 := (Int32.ofNat_le_ofNat hsm (by decide)).mp (show Int32.ofNat xs.length ≤ Int32.ofNat 3072 from hd)
  exact ⟨b, xs, Cond.one_arg hc (show args[0]? = some (.ref b) from hb), hx, hN, h⟩
theorem lw_comes (hpure : PureFact) (l : Launch) (hflags : l.flags = flags0) : Comes l x (Jvm.Cond.code x code maxLocals ret :: tables_1) room_1 (fun tb e args s => Calls_1 tb e args s ∧ rest_1 tb e args s ∧ Pre_1 tb e args s)
    (fun _ _ args s o t => lw_Q args s o t) := by
  intro p e ha hc hk s m args below hf hfit hheap happ hpre
  obtain ⟨b, xs, hP⟩ := lw_pre_spec hpre.2.2 hpre.2.1
  obtain ⟨k, o, h1, h2, h3, hQ⟩ := lw_walk hpure l hflags b xs p e ha hc hk s m args below hf ((Spec.applies_iff_loose hf).mp happ).1 hP trivial
  exact ⟨k, o, h1, h2, h3, hQ⟩
theorem lw_frame {s t : State} {o : Outcome} {args : Array Value} (h : Framed s o t [] 600000 7302250) :
    Framed s o t (fieldLocs frame_1_writes args s ++ arrayLocs frame_1_arrays args s ++ staticLocs frame_1_statics s) 600000 7302250 := h
theorem lw_limb (hpure : PureFact) (L : Cond) (hL : ∀ (args : Array Value) (s t : State), L.after args s (.returned (some (.int 1))) t = true) :
    ArmFor flags0 classFile x code maxLocals ret World_1 tables_1 room_1 Calls_1 rest_1 Pre_1
      (fun tb e a s o t => postC L tb e a s o t ∧ Framed s o t (fieldLocs frame_1_writes a s ++ arrayLocs frame_1_arrays a s ++ staticLocs frame_1_statics s) 600000 7302250) := by
  intro l hflags _ _ p e ha hc hk s m args below hf hfit hheap happ hpre
  obtain ⟨k, o, h1, h2, h3, rfl, hF⟩ := lw_comes hpure l hflags p e ha hc hk s m args below hf hfit hheap happ hpre
  exact ⟨k, _, h1, h2, h3, hL args s _, lw_frame hF⟩
theorem i_vc0 (hpure : PureFact) : Claimed_1_1 ∧ Claimed_1_2 := ⟨lw_limb hpure limb_1_1 (fun args s t => by simp [limb_1_1, Cond.after, Cond.holds, Cond.value]), lw_limb hpure limb_1_2 (fun args s t => Cond.after_iff.mpr (by
  first | (rw [show limb_1_2 = Cond.eq .result (.int 1) from rfl, Cond.eq_ints (x := 1) (y := 1) rfl rfl]; simp; done) | (simp [limb_1_2, Cond.value, Term.eval]; done)))⟩
