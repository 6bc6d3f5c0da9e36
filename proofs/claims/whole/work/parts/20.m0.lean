def fX3_append_L3 (l1 : Int) : Nat → Int → SS → Option (SS)
  | 0, _, _ => none
  | n + 1, l2, S =>
    if l2 < 0 then (
      some S
    ) else (
      Option.bind (
        if 900 ≤ (S 19 2) then (
          some S
        ) else (
          wrA S 20 900 (S 19 2) (jb (jb (jshr l1 l2))) fun S2 =>
          lt (up S2 19 2 (w32 ((S2 19 2) + 1))) fun S4 =>
          some S4
        )
        : Option (SS)) fun q1 =>
      lt (w32 (l2 + (-8))) fun x6 =>
      fX3_append_L3 l1 n x6 q1
    )
def fX3_append (p1 : Int) (S : SS) : Option SS :=
  Option.bind (fX3_append_L3 p1 FU 24 S) fun q1 =>
  some q1
set_option maxRecDepth 100000 in
set_option maxHeartbeats 4000000 in
theorem lX3_append_L3 {G : GG} {Φ : Option VV → MM → Prop} {l1 : Int} : ∀ (n : Nat) (l2 : Int) (S : SS) (q : SS), fX3_append_L3 l1 n l2 S = some q → At G mX3_append 1 48 [] [] (mm q) 0 0 Φ → At G mX3_append 1 3 [(0, vr 19), (1, vi l1), (2, vi l2)] [] (mm S) 0 0 Φ := by
  intro n
  induction n with
  | zero =>
    intro _ _ _ h
    cases h
  | succ n ih =>
    intro l2 S q h K48
    unfold fX3_append_L3 at h
    rcases ite_e h with ⟨c7, h⟩ | ⟨c7, h⟩
    · refine At.iloadn dX3_append_3 rfl <| At.if_lt_t (tgt := 48) dX3_append_4 (by decide) c7 <| ?_
      obtain rfl := Option.some.inj h
      exact At.sub [] rfl K48
    · refine At.iloadn dX3_append_3 rfl <| At.if_lt_f (tgt := 48) dX3_append_4 (by decide) c7 <| ?_
      obtain ⟨q1, hj42, h⟩ := bnd_e h
      have K42 : At G mX3_append 1 42 [(0, vr 19), (1, vi l1), (2, vi l2)] [] (mm q1) 0 0 Φ := by
        obtain ⟨x6, hx6, h⟩ := lt_e h
        refine At.iinc (ls' := [(2, vi x6), (0, vr 19), (1, vi l1)]) dX3_append_42 rfl (by decide) (by rw [hx6]; rfl) <| At.goto (tgt := 3) dX3_append_45 (by decide) <| ?_
        exact At.sub [1, 2, 0] rfl (ih _ _ _ h K48)
      clear h; have h := hj42; clear hj42
      rcases ite_e h with ⟨c5, h⟩ | ⟨c5, h⟩
      · refine At.aloadn dX3_append_7 rfl <| At.getI fl_X3_26 sh_19 (le149 sh_19) dX3_append_8 <| At.aloadn dX3_append_11 rfl <| At.getR fl_X3_9 sh_19 (le149 sh_19) rf_19_0 dX3_append_12 <| At.alenB sh_20 (le149 sh_20) (by decide) (z := 900) rfl dX3_append_15 <| At.icmp_ge_t (tgt := 42) dX3_append_16 (by decide) c5 <| ?_
        obtain rfl := Option.some.inj h
        exact At.sub [0, 1, 2] rfl K42
      · refine At.aloadn dX3_append_7 rfl <| At.getI fl_X3_26 sh_19 (le149 sh_19) dX3_append_8 <| At.aloadn dX3_append_11 rfl <| At.getR fl_X3_9 sh_19 (le149 sh_19) rf_19_0 dX3_append_12 <| At.alenB sh_20 (le149 sh_20) (by decide) (z := 900) rfl dX3_append_15 <| At.icmp_ge_f (tgt := 42) dX3_append_16 (by decide) c5 <| ?_
        refine At.aloadn dX3_append_19 rfl <| At.getR fl_X3_9 sh_19 (le149 sh_19) rf_19_0 dX3_append_20 <| At.aloadn dX3_append_23 rfl <| At.getI fl_X3_26 sh_19 (le149 sh_19) dX3_append_24 <| At.iloadn dX3_append_27 rfl <| At.iloadn dX3_append_28 rfl <| At.ishr dX3_append_29 <| At.i2b dX3_append_30 <| ?_
        obtain ⟨S2, hS2, g3, h⟩ := wrA_e h
        refine At.bast sh_20 (le149 sh_20) g3.1 g3.2 dX3_append_31 <| At.nmS hS2 <| At.aloadn dX3_append_32 rfl <| At.dup rfl dX3_append_33 <| At.getI fl_X3_26 sh_19 (le149 sh_19) dX3_append_34 <| At.iconst dX3_append_37 (by decide) <| At.iadd dX3_append_38 <| ?_
        obtain ⟨S4, hS4, h⟩ := lt_e h
        refine At.putI fw_X3_26 sh_19 (le149 sh_19) dX3_append_39 <| At.nmS hS4 <| ?_
        obtain rfl := Option.some.inj h
        exact At.sub [0, 1, 2] rfl K42
set_option maxRecDepth 100000 in
set_option maxHeartbeats 4000000 in
theorem rX3_append {G : GG} {p1 : Int} {S : SS} {rr : SS} (h : fX3_append p1 S = some rr) : RD G mX3_append 1 [vr 19, vi p1] S none rr := by
  unfold fX3_append at h
  refine Runs.of pl_X3 (Nat.le_of_ble_eq_true rfl) ?_
  show At G mX3_append 1 0 [(0, vr 19), (1, vi p1)] [] (mm S) 0 0 (EQ none rr)
  refine At.bipush dX3_append_0 (by decide) <| At.istoren (ls' := [(2, vi 24), (0, vr 19), (1, vi p1)]) dX3_append_2 (by decide) rfl <| ?_
  obtain ⟨q1, ho2, h⟩ := bnd_e h
  refine At.sub [1, 2, 0] rfl (lX3_append_L3 FU _ _ q1 ho2 ?_)
  obtain rfl := Option.some.inj h
  exact At.vret rfl (Nat.zero_le _) (Nat.zero_le _) ⟨rfl, rfl⟩ dX3_append_48
def fX11_feed (p1 : Int) (p2 : Int) (p3 : Int) (p4 : Int) (p5 : Int) (S : SS) : Option (Int × SS) :=
  if (S 19 2) ≤ 880 then (
    Option.bind (fX3_append p1 S) fun q1 =>
    Option.bind (fX3_append p2 q1) fun q2 =>
    Option.bind (fX3_append p3 q2) fun q3 =>
    Option.bind (fX3_append p4 q3) fun q4 =>
    Option.bind (fX3_append p5 q4) fun q5 =>
    some (q5 19 2, q5)
  ) else (
    some ((-5), S)
  )
set_option maxRecDepth 100000 in
set_option maxHeartbeats 4000000 in
theorem rX11_feed {G : GG} {p1 : Int} {p2 : Int} {p3 : Int} {p4 : Int} {p5 : Int} {S : SS} {rr : (Int × SS)} (h : fX11_feed p1 p2 p3 p4 p5 S = some rr) : RD G mX11_feed 2 [vr 1, vi p1, vi p2, vi p3, vi p4, vi p5] S (some (vi rr.1)) rr.2 := by
  unfold fX11_feed at h
  refine Runs.of pl_X11 (Nat.le_of_ble_eq_true rfl) ?_
  show At G mX11_feed 2 0 [(0, vr 1), (1, vi p1), (2, vi p2), (3, vi p3), (4, vi p4), (5, vi p5)] [] (mm S) 0 0 (EQ (some (vi rr.1)) rr.2)
  rcases ite_e h with ⟨c6, h⟩ | ⟨c6, h⟩
  · refine At.aloadn dX11_feed_0 rfl <| At.getR fl_X11_35 sh_1 (le149 sh_1) rf_1_4 dX11_feed_1 <| At.getI fl_X11_105 sh_19 (le149 sh_19) dX11_feed_4 <| At.sipush dX11_feed_7 (by decide) <| At.icmp_le_t (tgt := 16) dX11_feed_10 (by decide) c6 <| ?_
    refine At.aloadn dX11_feed_16 rfl <| At.getR fl_X11_35 sh_1 (le149 sh_1) rf_1_4 dX11_feed_17 <| At.iloadn dX11_feed_20 rfl <| ?_
    obtain ⟨q1, hq1, h⟩ := bnd_e h
    refine At.cV0 (av := [vi p1]) (rest := []) mv_X3_append lk_X11_109 dX11_feed_21 rfl rfl sh_19 (Nat.le_of_ble_eq_true rfl) (by decide) ⟨rfl, rfl⟩ (rX3_append hq1) <| At.aloadn dX11_feed_24 rfl <| At.getR fl_X11_35 sh_1 (le149 sh_1) rf_1_4 dX11_feed_25 <| At.iloadn dX11_feed_28 rfl <| ?_
    obtain ⟨q2, hq2, h⟩ := bnd_e h
    refine At.cV0 (av := [vi p2]) (rest := []) mv_X3_append lk_X11_109 dX11_feed_29 rfl rfl sh_19 (Nat.le_of_ble_eq_true rfl) (by decide) ⟨rfl, rfl⟩ (rX3_append hq2) <| At.aloadn dX11_feed_32 rfl <| At.getR fl_X11_35 sh_1 (le149 sh_1) rf_1_4 dX11_feed_33 <| At.iloadn dX11_feed_36 rfl <| ?_
    obtain ⟨q3, hq3, h⟩ := bnd_e h
    refine At.cV0 (av := [vi p3]) (rest := []) mv_X3_append lk_X11_109 dX11_feed_37 rfl rfl sh_19 (Nat.le_of_ble_eq_true rfl) (by decide) ⟨rfl, rfl⟩ (rX3_append hq3) <| At.aloadn dX11_feed_40 rfl <| At.getR fl_X11_35 sh_1 (le149 sh_1) rf_1_4 dX11_feed_41 <| At.iload dX11_feed_44 rfl <| ?_
    obtain ⟨q4, hq4, h⟩ := bnd_e h
    refine At.cV0 (av := [vi p4]) (rest := []) mv_X3_append lk_X11_109 dX11_feed_46 rfl rfl sh_19 (Nat.le_of_ble_eq_true rfl) (by decide) ⟨rfl, rfl⟩ (rX3_append hq4) <| At.aloadn dX11_feed_49 rfl <| At.getR fl_X11_35 sh_1 (le149 sh_1) rf_1_4 dX11_feed_50 <| At.iload dX11_feed_53 rfl <| ?_
    obtain ⟨q5, hq5, h⟩ := bnd_e h
    refine At.cV0 (av := [vi p5]) (rest := []) mv_X3_append lk_X11_109 dX11_feed_55 rfl rfl sh_19 (Nat.le_of_ble_eq_true rfl) (by decide) ⟨rfl, rfl⟩ (rX3_append hq5) <| At.aloadn dX11_feed_58 rfl <| At.getR fl_X11_35 sh_1 (le149 sh_1) rf_1_4 dX11_feed_59 <| At.getI fl_X11_105 sh_19 (le149 sh_19) dX11_feed_62 <| ?_
    obtain rfl := Option.some.inj h
    exact At.iret rfl (Nat.zero_le _) (Nat.zero_le _) ⟨rfl, rfl⟩ dX11_feed_65
  · refine At.aloadn dX11_feed_0 rfl <| At.getR fl_X11_35 sh_1 (le149 sh_1) rf_1_4 dX11_feed_1 <| At.getI fl_X11_105 sh_19 (le149 sh_19) dX11_feed_4 <| At.sipush dX11_feed_7 (by decide) <| At.icmp_le_f (tgt := 16) dX11_feed_10 (by decide) c6 <| ?_
    refine At.bipush dX11_feed_13 (by decide) <| ?_
    obtain rfl := Option.some.inj h
    exact At.iret rfl (Nat.zero_le _) (Nat.zero_le _) ⟨rfl, rfl⟩ dX11_feed_15
def fJ7_fill_53178_8_L5 (l0 : Nat) (l1 : Int) (l3 : Int) : Nat → Int → SS → Option (SS)
  | 0, _, _ => none
  | n + 1, l2, S =>
    if l3 ≤ l2 then (
      some S
    ) else (
      wrA S l0 8 l2 l1 fun S1 =>
      lt (w32 (l2 + 1)) fun x3 =>
      fJ7_fill_53178_8_L5 l0 l1 l3 n x3 S1
    )
def fJ7_fill_53178_8 (p0 : Nat) (p1 : Int) (S : SS) : Option SS :=
  Option.bind (fJ7_fill_53178_8_L5 p0 p1 8 FU 0 S) fun q1 =>
  some q1
set_option maxRecDepth 100000 in
set_option maxHeartbeats 4000000 in
theorem lJ7_fill_53178_8_L5 {G : GG} {Φ : Option VV → MM → Prop} {l0 : Nat} {l1 : Int} {l3 : Int} (hl0 : sh l0 = (20, 8)) : ∀ (n : Nat) (l2 : Int) (S : SS) (q : SS), fJ7_fill_53178_8_L5 l0 l1 l3 n l2 S = some q → At G mJ7_fill_53178 1 20 [] [] (mm q) 0 0 Φ → At G mJ7_fill_53178 1 5 [(0, vr l0), (1, vi l1), (2, vi l2), (3, vi l3)] [] (mm S) 0 0 Φ := by
  intro n
  induction n with
  | zero =>
    intro _ _ _ h
    cases h
  | succ n ih =>
    intro l2 S q h K20
    unfold fJ7_fill_53178_8_L5 at h
    rcases ite_e h with ⟨c4, h⟩ | ⟨c4, h⟩
    · refine At.iloadn dJ7_fill_53178_5 rfl <| At.iloadn dJ7_fill_53178_6 rfl <| At.icmp_ge_t (tgt := 20) dJ7_fill_53178_7 (by decide) c4 <| ?_
      obtain rfl := Option.some.inj h
      exact At.sub [] rfl K20
    · refine At.iloadn dJ7_fill_53178_5 rfl <| At.iloadn dJ7_fill_53178_6 rfl <| At.icmp_ge_f (tgt := 20) dJ7_fill_53178_7 (by decide) c4 <| ?_
      refine At.aloadn dJ7_fill_53178_10 rfl <| At.iloadn dJ7_fill_53178_11 rfl <| At.iloadn dJ7_fill_53178_12 rfl <| ?_
      obtain ⟨S1, hS1, g2, h⟩ := wrA_e h
      refine At.iast hl0 (le149 hl0) g2.1 g2.2 dJ7_fill_53178_13 <| At.nmS hS1 <| ?_
      obtain ⟨x3, hx3, h⟩ := lt_e h
      refine At.iinc (ls' := [(2, vi x3), (0, vr l0), (1, vi l1), (3, vi l3)]) dJ7_fill_53178_14 rfl (by decide) (by rw [hx3]; rfl) <| At.goto (tgt := 5) dJ7_fill_53178_17 (by decide) <| ?_
      exact At.sub [1, 2, 0, 3] rfl (ih _ _ _ h K20)
set_option maxRecDepth 100000 in
set_option maxHeartbeats 4000000 in
theorem rJ7_fill_53178_8 {G : GG} {p0 : Nat} {p1 : Int} {S : SS} {rr : SS} (hp0 : sh p0 = (20, 8)) (h : fJ7_fill_53178_8 p0 p1 S = some rr) : RD G mJ7_fill_53178 1 [vr p0, vi p1] S none rr := by
  unfold fJ7_fill_53178_8 at h
  refine Runs.of pl_J7 (Nat.le_of_ble_eq_true rfl) ?_
  show At G mJ7_fill_53178 1 0 [(0, vr p0), (1, vi p1)] [] (mm S) 0 0 (EQ none rr)
  refine At.iconst dJ7_fill_53178_0 (by decide) <| At.istoren (ls' := [(2, vi 0), (0, vr p0), (1, vi p1)]) dJ7_fill_53178_1 (by decide) rfl <| At.aloadn dJ7_fill_53178_2 rfl <| At.alenI hp0 (le149 hp0) (by decide) (z := 8) rfl dJ7_fill_53178_3 <| At.istoren (ls' := [(3, vi 8), (2, vi 0), (0, vr p0), (1, vi p1)]) dJ7_fill_53178_4 (by decide) rfl <| ?_
  obtain ⟨q1, ho2, h⟩ := bnd_e h
  refine At.sub [2, 3, 1, 0] rfl (lJ7_fill_53178_8_L5 hp0 FU _ _ q1 ho2 ?_)
  obtain rfl := Option.some.inj h
  exact At.vret rfl (Nat.zero_le _) (Nat.zero_le _) ⟨rfl, rfl⟩ dJ7_fill_53178_20
def fJ7_fill_53178_3_L5 (l0 : Nat) (l1 : Int) (l3 : Int) : Nat → Int → SS → Option (SS)
  | 0, _, _ => none
  | n + 1, l2, S =>
    if l3 ≤ l2 then (
      some S
    ) else (
      wrA S l0 3 l2 l1 fun S1 =>
      lt (w32 (l2 + 1)) fun x3 =>
      fJ7_fill_53178_3_L5 l0 l1 l3 n x3 S1
    )
def fJ7_fill_53178_3 (p0 : Nat) (p1 : Int) (S : SS) : Option SS :=
  Option.bind (fJ7_fill_53178_3_L5 p0 p1 3 FU 0 S) fun q1 =>
  some q1
set_option maxRecDepth 100000 in
set_option maxHeartbeats 4000000 in
theorem lJ7_fill_53178_3_L5 {G : GG} {Φ : Option VV → MM → Prop} {l0 : Nat} {l1 : Int} {l3 : Int} (hl0 : sh l0 = (20, 3)) : ∀ (n : Nat) (l2 : Int) (S : SS) (q : SS), fJ7_fill_53178_3_L5 l0 l1 l3 n l2 S = some q → At G mJ7_fill_53178 1 20 [] [] (mm q) 0 0 Φ → At G mJ7_fill_53178 1 5 [(0, vr l0), (1, vi l1), (2, vi l2), (3, vi l3)] [] (mm S) 0 0 Φ := by
  intro n
  induction n with
  | zero =>
    intro _ _ _ h
    cases h
  | succ n ih =>
    intro l2 S q h K20
    unfold fJ7_fill_53178_3_L5 at h
    rcases ite_e h with ⟨c4, h⟩ | ⟨c4, h⟩
    · refine At.iloadn dJ7_fill_53178_5 rfl <| At.iloadn dJ7_fill_53178_6 rfl <| At.icmp_ge_t (tgt := 20) dJ7_fill_53178_7 (by decide) c4 <| ?_
      obtain rfl := Option.some.inj h
      exact At.sub [] rfl K20
    · refine At.iloadn dJ7_fill_53178_5 rfl <| At.iloadn dJ7_fill_53178_6 rfl <| At.icmp_ge_f (tgt := 20) dJ7_fill_53178_7 (by decide) c4 <| ?_
      refine At.aloadn dJ7_fill_53178_10 rfl <| At.iloadn dJ7_fill_53178_11 rfl <| At.iloadn dJ7_fill_53178_12 rfl <| ?_
      obtain ⟨S1, hS1, g2, h⟩ := wrA_e h
      refine At.iast hl0 (le149 hl0) g2.1 g2.2 dJ7_fill_53178_13 <| At.nmS hS1 <| ?_
      obtain ⟨x3, hx3, h⟩ := lt_e h
      refine At.iinc (ls' := [(2, vi x3), (0, vr l0), (1, vi l1), (3, vi l3)]) dJ7_fill_53178_14 rfl (by decide) (by rw [hx3]; rfl) <| At.goto (tgt := 5) dJ7_fill_53178_17 (by decide) <| ?_
      exact At.sub [1, 2, 0, 3] rfl (ih _ _ _ h K20)
set_option maxRecDepth 100000 in
set_option maxHeartbeats 4000000 in
theorem rJ7_fill_53178_3 {G : GG} {p0 : Nat} {p1 : Int} {S : SS} {rr : SS} (hp0 : sh p0 = (20, 3)) (h : fJ7_fill_53178_3 p0 p1 S = some rr) : RD G mJ7_fill_53178 1 [vr p0, vi p1] S none rr := by
  unfold fJ7_fill_53178_3 at h
  refine Runs.of pl_J7 (Nat.le_of_ble_eq_true rfl) ?_
  show At G mJ7_fill_53178 1 0 [(0, vr p0), (1, vi p1)] [] (mm S) 0 0 (EQ none rr)
  refine At.iconst dJ7_fill_53178_0 (by decide) <| At.istoren (ls' := [(2, vi 0), (0, vr p0), (1, vi p1)]) dJ7_fill_53178_1 (by decide) rfl <| At.aloadn dJ7_fill_53178_2 rfl <| At.alenI hp0 (le149 hp0) (by decide) (z := 3) rfl dJ7_fill_53178_3 <| At.istoren (ls' := [(3, vi 3), (2, vi 0), (0, vr p0), (1, vi p1)]) dJ7_fill_53178_4 (by decide) rfl <| ?_
  obtain ⟨q1, ho2, h⟩ := bnd_e h
  refine At.sub [2, 3, 1, 0] rfl (lJ7_fill_53178_3_L5 hp0 FU _ _ q1 ho2 ?_)
  obtain rfl := Option.some.inj h
  exact At.vret rfl (Nat.zero_le _) (Nat.zero_le _) ⟨rfl, rfl⟩ dJ7_fill_53178_20
def fX6_clear (t : Nat) (S : SS) : Option SS :=
  Option.bind (fJ7_fill_53178_8 (t + 1) 0 S) fun q1 =>
  Option.bind (fJ7_fill_53178_3 (t + 2) 0 q1) fun q2 =>
  Option.bind (fJ7_fill_53178_3 (t + 3) 0 q2) fun q3 =>
  lt (up q3 t 3 0) fun S4 =>
  some S4
set_option maxRecDepth 100000 in
set_option maxHeartbeats 4000000 in
theorem rX6_clear {G : GG} {t : Nat} {S : SS} {rr : SS} (ht : sh t = (6, 4)) (h : fX6_clear t S = some rr) : RD G mX6_clear 2 [vr t] S none rr := by
  unfold fX6_clear at h
  refine Runs.of pl_X6 (Nat.le_of_ble_eq_true rfl) ?_
  show At G mX6_clear 2 0 [(0, vr t)] [] (mm S) 0 0 (EQ none rr)
  refine At.aloadn dX6_clear_0 rfl <| At.getR fl_X6_9 ht (le149 ht) (rfO_6_0 ht) dX6_clear_1 <| At.iconst dX6_clear_4 (by decide) <| ?_
  obtain ⟨q1, hq1, h⟩ := bnd_e h
  refine At.cS0 (av := [vr (t + 1), vi 0]) (rest := []) ms_J7_fill_53178 lk_X6_31 dX6_clear_5 rfl rfl (Nat.le_of_ble_eq_true rfl) (by decide) ⟨rfl, rfl⟩ (rJ7_fill_53178_8 (shO_6_0 ht) hq1) <| At.aloadn dX6_clear_8 rfl <| At.getR fl_X6_15 ht (le149 ht) (rfO_6_1 ht) dX6_clear_9 <| At.iconst dX6_clear_12 (by decide) <| ?_
  obtain ⟨q2, hq2, h⟩ := bnd_e h
  refine At.cS0 (av := [vr (t + 2), vi 0]) (rest := []) ms_J7_fill_53178 lk_X6_31 dX6_clear_13 rfl rfl (Nat.le_of_ble_eq_true rfl) (by decide) ⟨rfl, rfl⟩ (rJ7_fill_53178_3 (shO_6_1 ht) hq2) <| At.aloadn dX6_clear_16 rfl <| At.getR fl_X6_18 ht (le149 ht) (rfO_6_2 ht) dX6_clear_17 <| At.iconst dX6_clear_20 (by decide) <| ?_
  obtain ⟨q3, hq3, h⟩ := bnd_e h
  refine At.cS0 (av := [vr (t + 3), vi 0]) (rest := []) ms_J7_fill_53178 lk_X6_31 dX6_clear_21 rfl rfl (Nat.le_of_ble_eq_true rfl) (by decide) ⟨rfl, rfl⟩ (rJ7_fill_53178_3 (shO_6_2 ht) hq3) <| At.aloadn dX6_clear_24 rfl <| At.iconst dX6_clear_25 (by decide) <| ?_
  obtain ⟨S4, hS4, h⟩ := lt_e h
  refine At.putI fw_X6_27 ht (le149 ht) dX6_clear_26 <| At.nmS hS4 <| ?_
  obtain rfl := Option.some.inj h
  exact At.vret rfl (Nat.zero_le _) (Nat.zero_le _) ⟨rfl, rfl⟩ dX6_clear_29
def fX8_clear (t : Nat) (S : SS) : Option SS :=
  Option.bind (fX6_clear (t + 5) S) fun q1 =>
  lt (up q1 t 5 1) fun S2 =>
  lt (up S2 t 6 0) fun S3 =>
  lt (up S3 t 7 0) fun S4 =>
  lt (up S4 t 8 0) fun S5 =>
  lt (up S5 t 9 0) fun S6 =>
  lt (up S6 t 10 0) fun S7 =>
  lt (up S7 t 11 0) fun S8 =>
  lt (up S8 t 12 0) fun S9 =>
  lt (up S9 t 13 0) fun S10 =>
  some S10
set_option maxRecDepth 100000 in
set_option maxHeartbeats 4000000 in
theorem rX8_clear {G : GG} {t : Nat} {S : SS} {rr : SS} (ht : sh t = (8, 14)) (h : fX8_clear t S = some rr) : RD G mX8_clear 3 [vr t] S none rr := by
  unfold fX8_clear at h
  refine Runs.of pl_X8 (Nat.le_of_ble_eq_true rfl) ?_
  show At G mX8_clear 3 0 [(0, vr t)] [] (mm S) 0 0 (EQ none rr)
  refine At.aloadn dX8_clear_0 rfl <| At.getR fl_X8_27 ht (le149 ht) (rfO_8_4 ht) dX8_clear_1 <| ?_
  obtain ⟨q1, hq1, h⟩ := bnd_e h
  refine At.cV0 (av := []) (rest := []) mv_X6_clear lk_X8_41 dX8_clear_4 rfl rfl (shO_8_4 ht) (Nat.le_of_ble_eq_true rfl) (by decide) ⟨rfl, rfl⟩ (rX6_clear (shO_8_4 ht) hq1) <| At.aloadn dX8_clear_7 rfl <| At.iconst dX8_clear_8 (by decide) <| ?_
  obtain ⟨S2, hS2, h⟩ := lt_e h
  refine At.putI fw_X8_31 ht (le149 ht) dX8_clear_9 <| At.nmS hS2 <| At.aloadn dX8_clear_12 rfl <| At.iconst dX8_clear_13 (by decide) <| ?_
  obtain ⟨S3, hS3, h⟩ := lt_e h
  refine At.putI fw_X8_35 ht (le149 ht) dX8_clear_14 <| At.nmS hS3 <| At.aloadn dX8_clear_17 rfl <| At.iconst dX8_clear_18 (by decide) <| ?_
  obtain ⟨S4, hS4, h⟩ := lt_e h
  refine At.putI fw_X8_38 ht (le149 ht) dX8_clear_19 <| At.nmS hS4 <| At.aloadn dX8_clear_22 rfl <| At.iconst dX8_clear_23 (by decide) <| ?_
  obtain ⟨S5, hS5, h⟩ := lt_e h
  refine At.putI fw_X8_44 ht (le149 ht) dX8_clear_24 <| At.nmS hS5 <| At.aloadn dX8_clear_27 rfl <| At.iconst dX8_clear_28 (by decide) <| ?_
  obtain ⟨S6, hS6, h⟩ := lt_e h
  refine At.putI fw_X8_47 ht (le149 ht) dX8_clear_29 <| At.nmS hS6 <| At.aloadn dX8_clear_32 rfl <| At.iconst dX8_clear_33 (by decide) <| ?_
  obtain ⟨S7, hS7, h⟩ := lt_e h
  refine At.putI fw_X8_50 ht (le149 ht) dX8_clear_34 <| At.nmS hS7 <| At.aloadn dX8_clear_37 rfl <| At.iconst dX8_clear_38 (by decide) <| ?_
  obtain ⟨S8, hS8, h⟩ := lt_e h
  refine At.putI fw_X8_53 ht (le149 ht) dX8_clear_39 <| At.nmS hS8 <| At.aloadn dX8_clear_42 rfl <| At.iconst dX8_clear_43 (by decide) <| ?_
  obtain ⟨S9, hS9, h⟩ := lt_e h
  refine At.putI fw_X8_56 ht (le149 ht) dX8_clear_44 <| At.nmS hS9 <| At.aloadn dX8_clear_47 rfl <| At.iconst dX8_clear_48 (by decide) <| ?_
  obtain ⟨S10, hS10, h⟩ := lt_e h
  refine At.putI fw_X8_59 ht (le149 ht) dX8_clear_49 <| At.nmS hS10 <| ?_
  obtain rfl := Option.some.inj h
  exact At.vret rfl (Nat.zero_le _) (Nat.zero_le _) ⟨rfl, rfl⟩ dX8_clear_52
def fX3_isDigit (p0 : Int) : Option Bool :=
  if p0 < 48 then (
    some false
  ) else (
    if 57 < p0 then (
      some false
    ) else (
      some true
    )
  )
set_option maxRecDepth 100000 in
set_option maxHeartbeats 4000000 in
theorem rX3_isDigit {G : GG} {p0 : Int} {S : SS} {rr : Bool} (h : fX3_isDigit p0 = some rr) : RD G mX3_isDigit 1 [vi p0] S (some (vi (bI rr))) S := by
  unfold fX3_isDigit at h
  refine Runs.of pl_X3 (Nat.le_of_ble_eq_true rfl) ?_
  show At G mX3_isDigit 1 0 [(0, vi p0)] [] (mm S) 0 0 (EQ (some (vi (bI rr))) S)
  rcases ite_e h with ⟨c2, h⟩ | ⟨c2, h⟩
  · refine At.iloadn dX3_isDigit_0 rfl <| At.bipush dX3_isDigit_1 (by decide) <| At.icmp_lt_t (tgt := 16) dX3_isDigit_3 (by decide) c2 <| ?_
    refine At.iconst dX3_isDigit_16 (by decide) <| ?_
    obtain rfl := Option.some.inj h
    exact At.zret (b := false) rfl (Nat.zero_le _) (Nat.zero_le _) ⟨rfl, rfl⟩ dX3_isDigit_17
  · refine At.iloadn dX3_isDigit_0 rfl <| At.bipush dX3_isDigit_1 (by decide) <| At.icmp_lt_f (tgt := 16) dX3_isDigit_3 (by decide) c2 <| ?_
    rcases ite_e h with ⟨c1, h⟩ | ⟨c1, h⟩
    · refine At.iloadn dX3_isDigit_6 rfl <| At.bipush dX3_isDigit_7 (by decide) <| At.icmp_gt_t (tgt := 16) dX3_isDigit_9 (by decide) c1 <| ?_
      refine At.iconst dX3_isDigit_16 (by decide) <| ?_
      obtain rfl := Option.some.inj h
      exact At.zret (b := false) rfl (Nat.zero_le _) (Nat.zero_le _) ⟨rfl, rfl⟩ dX3_isDigit_17
    · refine At.iloadn dX3_isDigit_6 rfl <| At.bipush dX3_isDigit_7 (by decide) <| At.icmp_gt_f (tgt := 16) dX3_isDigit_9 (by decide) c1 <| ?_
      refine At.iconst dX3_isDigit_12 (by decide) <| At.goto (tgt := 17) dX3_isDigit_13 (by decide) <| ?_
      obtain rfl := Option.some.inj h
      exact At.zret (b := true) rfl (Nat.zero_le _) (Nat.zero_le _) ⟨rfl, rfl⟩ dX3_isDigit_17
def fX3_fail (p1 : Int) (S : SS) : Option SS :=
  if (S 19 9) = 0 then (
    lt (up S 19 9 p1) fun S1 =>
    lt (up S1 19 10 (S1 19 6)) fun S2 =>
    lt (up S2 19 5 1) fun S3 =>
    some S3
  ) else (
    some S
  )
set_option maxRecDepth 100000 in
set_option maxHeartbeats 4000000 in
theorem rX3_fail {G : GG} {p1 : Int} {S : SS} {rr : SS} (h : fX3_fail p1 S = some rr) : RD G mX3_fail 1 [vr 19, vi p1] S none rr := by
  unfold fX3_fail at h
  refine Runs.of pl_X3 (Nat.le_of_ble_eq_true rfl) ?_
  show At G mX3_fail 1 0 [(0, vr 19), (1, vi p1)] [] (mm S) 0 0 (EQ none rr)
  rcases ite_e h with ⟨c4, h⟩ | ⟨c4, h⟩
  · refine At.aloadn dX3_fail_0 rfl <| At.getI fl_X3_29 sh_19 (le149 sh_19) dX3_fail_1 <| At.if_ne_f (tgt := 25) dX3_fail_4 (by decide) c4 <| ?_
    refine At.aloadn dX3_fail_7 rfl <| At.iloadn dX3_fail_8 rfl <| ?_
    obtain ⟨S1, hS1, h⟩ := lt_e h
    refine At.putI fw_X3_29 sh_19 (le149 sh_19) dX3_fail_9 <| At.nmS hS1 <| At.aloadn dX3_fail_12 rfl <| At.aloadn dX3_fail_13 rfl <| At.getI fl_X3_70 sh_19 (le149 sh_19) dX3_fail_14 <| ?_
    obtain ⟨S2, hS2, h⟩ := lt_e h
    refine At.putI fw_X3_22 sh_19 (le149 sh_19) dX3_fail_17 <| At.nmS hS2 <| At.aloadn dX3_fail_20 rfl <| At.iconst dX3_fail_21 (by decide) <| ?_
    obtain ⟨S3, hS3, h⟩ := lt_e h
    refine At.putI fw_X3_64 sh_19 (le149 sh_19) dX3_fail_22 <| At.nmS hS3 <| ?_
    obtain rfl := Option.some.inj h
    exact At.vret rfl (Nat.zero_le _) (Nat.zero_le _) ⟨rfl, rfl⟩ dX3_fail_25
  · refine At.aloadn dX3_fail_0 rfl <| At.getI fl_X3_29 sh_19 (le149 sh_19) dX3_fail_1 <| At.if_ne_t (tgt := 25) dX3_fail_4 (by decide) c4 <| ?_
    obtain rfl := Option.some.inj h
    exact At.vret rfl (Nat.zero_le _) (Nat.zero_le _) ⟨rfl, rfl⟩ dX3_fail_25
def fX3_isLetter (p0 : Int) : Option Bool :=
  if p0 < 97 then (
    some false
  ) else (
    if 122 < p0 then (
      some false
    ) else (
      some true
    )
  )
set_option maxRecDepth 100000 in
set_option maxHeartbeats 4000000 in
theorem rX3_isLetter {G : GG} {p0 : Int} {S : SS} {rr : Bool} (h : fX3_isLetter p0 = some rr) : RD G mX3_isLetter 1 [vi p0] S (some (vi (bI rr))) S := by
  unfold fX3_isLetter at h
  refine Runs.of pl_X3 (Nat.le_of_ble_eq_true rfl) ?_
  show At G mX3_isLetter 1 0 [(0, vi p0)] [] (mm S) 0 0 (EQ (some (vi (bI rr))) S)
  rcases ite_e h with ⟨c2, h⟩ | ⟨c2, h⟩
  · refine At.iloadn dX3_isLetter_0 rfl <| At.bipush dX3_isLetter_1 (by decide) <| At.icmp_lt_t (tgt := 16) dX3_isLetter_3 (by decide) c2 <| ?_
    refine At.iconst dX3_isLetter_16 (by decide) <| ?_
    obtain rfl := Option.some.inj h
    exact At.zret (b := false) rfl (Nat.zero_le _) (Nat.zero_le _) ⟨rfl, rfl⟩ dX3_isLetter_17
  · refine At.iloadn dX3_isLetter_0 rfl <| At.bipush dX3_isLetter_1 (by decide) <| At.icmp_lt_f (tgt := 16) dX3_isLetter_3 (by decide) c2 <| ?_
    rcases ite_e h with ⟨c1, h⟩ | ⟨c1, h⟩
    · refine At.iloadn dX3_isLetter_6 rfl <| At.bipush dX3_isLetter_7 (by decide) <| At.icmp_gt_t (tgt := 16) dX3_isLetter_9 (by decide) c1 <| ?_
      refine At.iconst dX3_isLetter_16 (by decide) <| ?_
      obtain rfl := Option.some.inj h
      exact At.zret (b := false) rfl (Nat.zero_le _) (Nat.zero_le _) ⟨rfl, rfl⟩ dX3_isLetter_17
    · refine At.iloadn dX3_isLetter_6 rfl <| At.bipush dX3_isLetter_7 (by decide) <| At.icmp_gt_f (tgt := 16) dX3_isLetter_9 (by decide) c1 <| ?_
      refine At.iconst dX3_isLetter_12 (by decide) <| At.goto (tgt := 17) dX3_isLetter_13 (by decide) <| ?_
      obtain rfl := Option.some.inj h
      exact At.zret (b := true) rfl (Nat.zero_le _) (Nat.zero_le _) ⟨rfl, rfl⟩ dX3_isLetter_17
def fX6_setSign (t : Nat) (p1 : Int) (p2 : Int) (S : SS) : Option SS :=
  if p1 < 0 then (
    some S
  ) else (
    if 8 ≤ p1 then (
      some S
    ) else (
      wrA S (t + 1) 8 p1 p2 fun S1 =>
      some S1
    )
  )
set_option maxRecDepth 100000 in
set_option maxHeartbeats 4000000 in
theorem rX6_setSign {G : GG} {t : Nat} {p1 : Int} {p2 : Int} {S : SS} {rr : SS} (ht : sh t = (6, 4)) (h : fX6_setSign t p1 p2 S = some rr) : RD G mX6_setSign 1 [vr t, vi p1, vi p2] S none rr := by
  unfold fX6_setSign at h
  refine Runs.of pl_X6 (Nat.le_of_ble_eq_true rfl) ?_
  show At G mX6_setSign 1 0 [(0, vr t), (1, vi p1), (2, vi p2)] [] (mm S) 0 0 (EQ none rr)
  rcases ite_e h with ⟨c4, h⟩ | ⟨c4, h⟩
  · refine At.iloadn dX6_setSign_0 rfl <| At.if_lt_t (tgt := 20) dX6_setSign_1 (by decide) c4 <| ?_
    obtain rfl := Option.some.inj h
    exact At.vret rfl (Nat.zero_le _) (Nat.zero_le _) ⟨rfl, rfl⟩ dX6_setSign_20
  · refine At.iloadn dX6_setSign_0 rfl <| At.if_lt_f (tgt := 20) dX6_setSign_1 (by decide) c4 <| ?_
    rcases ite_e h with ⟨c3, h⟩ | ⟨c3, h⟩
    · refine At.iloadn dX6_setSign_4 rfl <| At.aloadn dX6_setSign_5 rfl <| At.getR fl_X6_9 ht (le149 ht) (rfO_6_0 ht) dX6_setSign_6 <| At.alenI (shO_6_0 ht) (le149 (shO_6_0 ht)) (by decide) (z := 8) rfl dX6_setSign_9 <| At.icmp_ge_t (tgt := 20) dX6_setSign_10 (by decide) c3 <| ?_
      obtain rfl := Option.some.inj h
      exact At.vret rfl (Nat.zero_le _) (Nat.zero_le _) ⟨rfl, rfl⟩ dX6_setSign_20
    · refine At.iloadn dX6_setSign_4 rfl <| At.aloadn dX6_setSign_5 rfl <| At.getR fl_X6_9 ht (le149 ht) (rfO_6_0 ht) dX6_setSign_6 <| At.alenI (shO_6_0 ht) (le149 (shO_6_0 ht)) (by decide) (z := 8) rfl dX6_setSign_9 <| At.icmp_ge_f (tgt := 20) dX6_setSign_10 (by decide) c3 <| ?_
      refine At.aloadn dX6_setSign_13 rfl <| At.getR fl_X6_9 ht (le149 ht) (rfO_6_0 ht) dX6_setSign_14 <| At.iloadn dX6_setSign_17 rfl <| At.iloadn dX6_setSign_18 rfl <| ?_
      obtain ⟨S1, hS1, g2, h⟩ := wrA_e h
      refine At.iast (shO_6_0 ht) (le149 (shO_6_0 ht)) g2.1 g2.2 dX6_setSign_19 <| At.nmS hS1 <| ?_
      obtain rfl := Option.some.inj h
      exact At.vret rfl (Nat.zero_le _) (Nat.zero_le _) ⟨rfl, rfl⟩ dX6_setSign_20
def fX8_addStreet (t : Nat) (p1 : Int) (p2 : Int) (S : SS) : Option SS :=
  if 8 ≤ (S t 6) then (
    some S
  ) else (
    wrA S (t + 1) 8 (S t 6) p1 fun S1 =>
    wrA S1 (t + 2) 8 (S1 t 6) p2 fun S3 =>
    wrA S3 (t + 3) 8 (S3 t 6) 0 fun S5 =>
    Option.bind (fX6_setSign (t + 5) (S5 t 6) 0 S5) fun q7 =>
    lt (up q7 t 6 (w32 ((q7 t 6) + 1))) fun S8 =>
    some S8
  )
set_option maxRecDepth 100000 in
set_option maxHeartbeats 4000000 in
theorem rX8_addStreet {G : GG} {t : Nat} {p1 : Int} {p2 : Int} {S : SS} {rr : SS} (ht : sh t = (8, 14)) (h : fX8_addStreet t p1 p2 S = some rr) : RD G mX8_addStreet 2 [vr t, vi p1, vi p2] S none rr := by
  unfold fX8_addStreet at h
  refine Runs.of pl_X8 (Nat.le_of_ble_eq_true rfl) ?_
  show At G mX8_addStreet 2 0 [(0, vr t), (1, vi p1), (2, vi p2)] [] (mm S) 0 0 (EQ none rr)
  rcases ite_e h with ⟨c9, h⟩ | ⟨c9, h⟩
  · refine At.aloadn dX8_addStreet_0 rfl <| At.getI fl_X8_35 ht (le149 ht) dX8_addStreet_1 <| At.bipush dX8_addStreet_4 (by decide) <| At.icmp_ge_t (tgt := 61) dX8_addStreet_6 (by decide) c9 <| ?_
    obtain rfl := Option.some.inj h
    exact At.vret rfl (Nat.zero_le _) (Nat.zero_le _) ⟨rfl, rfl⟩ dX8_addStreet_61
  · refine At.aloadn dX8_addStreet_0 rfl <| At.getI fl_X8_35 ht (le149 ht) dX8_addStreet_1 <| At.bipush dX8_addStreet_4 (by decide) <| At.icmp_ge_f (tgt := 61) dX8_addStreet_6 (by decide) c9 <| ?_
    refine At.aloadn dX8_addStreet_9 rfl <| At.getR fl_X8_9 ht (le149 ht) (rfO_8_0 ht) dX8_addStreet_10 <| At.aloadn dX8_addStreet_13 rfl <| At.getI fl_X8_35 ht (le149 ht) dX8_addStreet_14 <| At.iloadn dX8_addStreet_17 rfl <| ?_
    obtain ⟨S1, hS1, g2, h⟩ := wrA_e h
    refine At.iast (shO_8_0 ht) (le149 (shO_8_0 ht)) g2.1 g2.2 dX8_addStreet_18 <| At.nmS hS1 <| At.aloadn dX8_addStreet_19 rfl <| At.getR fl_X8_15 ht (le149 ht) (rfO_8_1 ht) dX8_addStreet_20 <| At.aloadn dX8_addStreet_23 rfl <| At.getI fl_X8_35 ht (le149 ht) dX8_addStreet_24 <| At.iloadn dX8_addStreet_27 rfl <| ?_
    obtain ⟨S3, hS3, g4, h⟩ := wrA_e h
    refine At.iast (shO_8_1 ht) (le149 (shO_8_1 ht)) g4.1 g4.2 dX8_addStreet_28 <| At.nmS hS3 <| At.aloadn dX8_addStreet_29 rfl <| At.getR fl_X8_18 ht (le149 ht) (rfO_8_2 ht) dX8_addStreet_30 <| At.aloadn dX8_addStreet_33 rfl <| At.getI fl_X8_35 ht (le149 ht) dX8_addStreet_34 <| At.iconst dX8_addStreet_37 (by decide) <| ?_
    obtain ⟨S5, hS5, g6, h⟩ := wrA_e h
    refine At.iast (shO_8_2 ht) (le149 (shO_8_2 ht)) g6.1 g6.2 dX8_addStreet_38 <| At.nmS hS5 <| At.aloadn dX8_addStreet_39 rfl <| At.getR fl_X8_27 ht (le149 ht) (rfO_8_4 ht) dX8_addStreet_40 <| At.aloadn dX8_addStreet_43 rfl <| At.getI fl_X8_35 ht (le149 ht) dX8_addStreet_44 <| At.iconst dX8_addStreet_47 (by decide) <| ?_
    obtain ⟨q7, hq7, h⟩ := bnd_e h
    refine At.cV0 (av := [vi (S5 t 6), vi 0]) (rest := []) mv_X6_setSign lk_X8_72 dX8_addStreet_48 rfl rfl (shO_8_4 ht) (Nat.le_of_ble_eq_true rfl) (by decide) ⟨rfl, rfl⟩ (rX6_setSign (shO_8_4 ht) hq7) <| At.aloadn dX8_addStreet_51 rfl <| At.dup rfl dX8_addStreet_52 <| At.getI fl_X8_35 ht (le149 ht) dX8_addStreet_53 <| At.iconst dX8_addStreet_56 (by decide) <| At.iadd dX8_addStreet_57 <| ?_
    obtain ⟨S8, hS8, h⟩ := lt_e h
    refine At.putI fw_X8_35 ht (le149 ht) dX8_addStreet_58 <| At.nmS hS8 <| ?_
    obtain rfl := Option.some.inj h
    exact At.vret rfl (Nat.zero_le _) (Nat.zero_le _) ⟨rfl, rfl⟩ dX8_addStreet_61
def fX3_isPart (S : SS) : Option Bool :=
  if (S 19 5) = 1007 then (
    some true
  ) else (
    if (S 19 5) = 1008 then (
      some true
    ) else (
      if (S 19 5) = 1009 then (
        some true
      ) else (
        some false
      )
    )
  )
set_option maxRecDepth 100000 in
set_option maxHeartbeats 4000000 in
theorem rX3_isPart {G : GG} {S : SS} {rr : Bool} (h : fX3_isPart  S = some rr) : RD G mX3_isPart 1 [vr 19] S (some (vi (bI rr))) S := by
  unfold fX3_isPart at h
  refine Runs.of pl_X3 (Nat.le_of_ble_eq_true rfl) ?_
  show At G mX3_isPart 1 0 [(0, vr 19)] [] (mm S) 0 0 (EQ (some (vi (bI rr))) S)
  rcases ite_e h with ⟨c3, h⟩ | ⟨c3, h⟩
  · refine At.aloadn dX3_isPart_0 rfl <| At.getI fl_X3_64 sh_19 (le149 sh_19) dX3_isPart_1 <| At.sipush dX3_isPart_4 (by decide) <| At.icmp_eq_t (tgt := 30) dX3_isPart_7 (by decide) c3 <| ?_
    refine At.iconst dX3_isPart_30 (by decide) <| At.goto (tgt := 35) dX3_isPart_31 (by decide) <| ?_
    obtain rfl := Option.some.inj h
    exact At.zret (b := true) rfl (Nat.zero_le _) (Nat.zero_le _) ⟨rfl, rfl⟩ dX3_isPart_35
  · refine At.aloadn dX3_isPart_0 rfl <| At.getI fl_X3_64 sh_19 (le149 sh_19) dX3_isPart_1 <| At.sipush dX3_isPart_4 (by decide) <| At.icmp_eq_f (tgt := 30) dX3_isPart_7 (by decide) c3 <| ?_
    rcases ite_e h with ⟨c2, h⟩ | ⟨c2, h⟩
    · refine At.aloadn dX3_isPart_10 rfl <| At.getI fl_X3_64 sh_19 (le149 sh_19) dX3_isPart_11 <| At.sipush dX3_isPart_14 (by decide) <| At.icmp_eq_t (tgt := 30) dX3_isPart_17 (by decide) c2 <| ?_
      refine At.iconst dX3_isPart_30 (by decide) <| At.goto (tgt := 35) dX3_isPart_31 (by decide) <| ?_
      obtain rfl := Option.some.inj h
      exact At.zret (b := true) rfl (Nat.zero_le _) (Nat.zero_le _) ⟨rfl, rfl⟩ dX3_isPart_35
    · refine At.aloadn dX3_isPart_10 rfl <| At.getI fl_X3_64 sh_19 (le149 sh_19) dX3_isPart_11 <| At.sipush dX3_isPart_14 (by decide) <| At.icmp_eq_f (tgt := 30) dX3_isPart_17 (by decide) c2 <| ?_
      rcases ite_e h with ⟨c1, h⟩ | ⟨c1, h⟩
      · refine At.aloadn dX3_isPart_20 rfl <| At.getI fl_X3_64 sh_19 (le149 sh_19) dX3_isPart_21 <| At.sipush dX3_isPart_24 (by decide) <| At.icmp_ne_f (tgt := 34) dX3_isPart_27 (by decide) c1 <| ?_
        refine At.iconst dX3_isPart_30 (by decide) <| At.goto (tgt := 35) dX3_isPart_31 (by decide) <| ?_
        obtain rfl := Option.some.inj h
        exact At.zret (b := true) rfl (Nat.zero_le _) (Nat.zero_le _) ⟨rfl, rfl⟩ dX3_isPart_35
      · refine At.aloadn dX3_isPart_20 rfl <| At.getI fl_X3_64 sh_19 (le149 sh_19) dX3_isPart_21 <| At.sipush dX3_isPart_24 (by decide) <| At.icmp_ne_t (tgt := 34) dX3_isPart_27 (by decide) c1 <| ?_
        refine At.iconst dX3_isPart_34 (by decide) <| ?_
        obtain rfl := Option.some.inj h
        exact At.zret (b := false) rfl (Nat.zero_le _) (Nat.zero_le _) ⟨rfl, rfl⟩ dX3_isPart_35
def fX8_setYears (t : Nat) (p1 : Int) (S : SS) : Option SS :=
  if (S t 6) ≤ 0 then (
    some S
  ) else (
    if 8 < (S t 6) then (
      some S
    ) else (
      wrA S (t + 3) 8 (w32 ((S t 6) - 1)) p1 fun S1 =>
      some S1
    )
  )
set_option maxRecDepth 100000 in
set_option maxHeartbeats 4000000 in
theorem rX8_setYears {G : GG} {t : Nat} {p1 : Int} {S : SS} {rr : SS} (ht : sh t = (8, 14)) (h : fX8_setYears t p1 S = some rr) : RD G mX8_setYears 1 [vr t, vi p1] S none rr := by
  unfold fX8_setYears at h
  refine Runs.of pl_X8 (Nat.le_of_ble_eq_true rfl) ?_
  show At G mX8_setYears 1 0 [(0, vr t), (1, vi p1)] [] (mm S) 0 0 (EQ none rr)
  rcases ite_e h with ⟨c4, h⟩ | ⟨c4, h⟩
  · refine At.aloadn dX8_setYears_0 rfl <| At.getI fl_X8_35 ht (le149 ht) dX8_setYears_1 <| At.if_le_t (tgt := 28) dX8_setYears_4 (by decide) c4 <| ?_
    obtain rfl := Option.some.inj h
    exact At.vret rfl (Nat.zero_le _) (Nat.zero_le _) ⟨rfl, rfl⟩ dX8_setYears_28
  · refine At.aloadn dX8_setYears_0 rfl <| At.getI fl_X8_35 ht (le149 ht) dX8_setYears_1 <| At.if_le_f (tgt := 28) dX8_setYears_4 (by decide) c4 <| ?_
    rcases ite_e h with ⟨c3, h⟩ | ⟨c3, h⟩
    · refine At.aloadn dX8_setYears_7 rfl <| At.getI fl_X8_35 ht (le149 ht) dX8_setYears_8 <| At.bipush dX8_setYears_11 (by decide) <| At.icmp_gt_t (tgt := 28) dX8_setYears_13 (by decide) c3 <| ?_
      obtain rfl := Option.some.inj h
      exact At.vret rfl (Nat.zero_le _) (Nat.zero_le _) ⟨rfl, rfl⟩ dX8_setYears_28
    · refine At.aloadn dX8_setYears_7 rfl <| At.getI fl_X8_35 ht (le149 ht) dX8_setYears_8 <| At.bipush dX8_setYears_11 (by decide) <| At.icmp_gt_f (tgt := 28) dX8_setYears_13 (by decide) c3 <| ?_
      refine At.aloadn dX8_setYears_16 rfl <| At.getR fl_X8_18 ht (le149 ht) (rfO_8_2 ht) dX8_setYears_17 <| At.aloadn dX8_setYears_20 rfl <| At.getI fl_X8_35 ht (le149 ht) dX8_setYears_21 <| At.iconst dX8_setYears_24 (by decide) <| At.isub dX8_setYears_25 <| At.iloadn dX8_setYears_26 rfl <| ?_
      obtain ⟨S1, hS1, g2, h⟩ := wrA_e h
      refine At.iast (shO_8_2 ht) (le149 (shO_8_2 ht)) g2.1 g2.2 dX8_setYears_27 <| At.nmS hS1 <| ?_
      obtain rfl := Option.some.inj h
      exact At.vret rfl (Nat.zero_le _) (Nat.zero_le _) ⟨rfl, rfl⟩ dX8_setYears_28
def fX6_setGoer (t : Nat) (p1 : Int) (p2 : Int) (p3 : Int) (S : SS) : Option SS :=
  if p1 < 0 then (
    some S
  ) else (
    if 3 ≤ p1 then (
      some S
    ) else (
      if 3 ≤ p1 then (
        some S
      ) else (
        wrA S (t + 2) 3 p1 p2 fun S1 =>
        wrA S1 (t + 3) 3 p1 p3 fun S3 =>
        some S3
      )
    )
  )
set_option maxRecDepth 100000 in
set_option maxHeartbeats 4000000 in
theorem rX6_setGoer {G : GG} {t : Nat} {p1 : Int} {p2 : Int} {p3 : Int} {S : SS} {rr : SS} (ht : sh t = (6, 4)) (h : fX6_setGoer t p1 p2 p3 S = some rr) : RD G mX6_setGoer 1 [vr t, vi p1, vi p2, vi p3] S none rr := by
  unfold fX6_setGoer at h
  refine Runs.of pl_X6 (Nat.le_of_ble_eq_true rfl) ?_
  show At G mX6_setGoer 1 0 [(0, vr t), (1, vi p1), (2, vi p2), (3, vi p3)] [] (mm S) 0 0 (EQ none rr)
  rcases ite_e h with ⟨c7, h⟩ | ⟨c7, h⟩
  · refine At.iloadn dX6_setGoer_0 rfl <| At.if_lt_t (tgt := 36) dX6_setGoer_1 (by decide) c7 <| ?_
    obtain rfl := Option.some.inj h
    exact At.vret rfl (Nat.zero_le _) (Nat.zero_le _) ⟨rfl, rfl⟩ dX6_setGoer_36
  · refine At.iloadn dX6_setGoer_0 rfl <| At.if_lt_f (tgt := 36) dX6_setGoer_1 (by decide) c7 <| ?_
    rcases ite_e h with ⟨c6, h⟩ | ⟨c6, h⟩
    · refine At.iloadn dX6_setGoer_4 rfl <| At.aloadn dX6_setGoer_5 rfl <| At.getR fl_X6_15 ht (le149 ht) (rfO_6_1 ht) dX6_setGoer_6 <| At.alenI (shO_6_1 ht) (le149 (shO_6_1 ht)) (by decide) (z := 3) rfl dX6_setGoer_9 <| At.icmp_ge_t (tgt := 36) dX6_setGoer_10 (by decide) c6 <| ?_
      obtain rfl := Option.some.inj h
      exact At.vret rfl (Nat.zero_le _) (Nat.zero_le _) ⟨rfl, rfl⟩ dX6_setGoer_36
    · refine At.iloadn dX6_setGoer_4 rfl <| At.aloadn dX6_setGoer_5 rfl <| At.getR fl_X6_15 ht (le149 ht) (rfO_6_1 ht) dX6_setGoer_6 <| At.alenI (shO_6_1 ht) (le149 (shO_6_1 ht)) (by decide) (z := 3) rfl dX6_setGoer_9 <| At.icmp_ge_f (tgt := 36) dX6_setGoer_10 (by decide) c6 <| ?_
      rcases ite_e h with ⟨c5, h⟩ | ⟨c5, h⟩
      · refine At.iloadn dX6_setGoer_13 rfl <| At.aloadn dX6_setGoer_14 rfl <| At.getR fl_X6_18 ht (le149 ht) (rfO_6_2 ht) dX6_setGoer_15 <| At.alenI (shO_6_2 ht) (le149 (shO_6_2 ht)) (by decide) (z := 3) rfl dX6_setGoer_18 <| At.icmp_ge_t (tgt := 36) dX6_setGoer_19 (by decide) c5 <| ?_
        obtain rfl := Option.some.inj h
        exact At.vret rfl (Nat.zero_le _) (Nat.zero_le _) ⟨rfl, rfl⟩ dX6_setGoer_36
      · refine At.iloadn dX6_setGoer_13 rfl <| At.aloadn dX6_setGoer_14 rfl <| At.getR fl_X6_18 ht (le149 ht) (rfO_6_2 ht) dX6_setGoer_15 <| At.alenI (shO_6_2 ht) (le149 (shO_6_2 ht)) (by decide) (z := 3) rfl dX6_setGoer_18 <| At.icmp_ge_f (tgt := 36) dX6_setGoer_19 (by decide) c5 <| ?_
        refine At.aloadn dX6_setGoer_22 rfl <| At.getR fl_X6_15 ht (le149 ht) (rfO_6_1 ht) dX6_setGoer_23 <| At.iloadn dX6_setGoer_26 rfl <| At.iloadn dX6_setGoer_27 rfl <| ?_
        obtain ⟨S1, hS1, g2, h⟩ := wrA_e h
        refine At.iast (shO_6_1 ht) (le149 (shO_6_1 ht)) g2.1 g2.2 dX6_setGoer_28 <| At.nmS hS1 <| At.aloadn dX6_setGoer_29 rfl <| At.getR fl_X6_18 ht (le149 ht) (rfO_6_2 ht) dX6_setGoer_30 <| At.iloadn dX6_setGoer_33 rfl <| At.iloadn dX6_setGoer_34 rfl <| ?_
        obtain ⟨S3, hS3, g4, h⟩ := wrA_e h
        refine At.iast (shO_6_2 ht) (le149 (shO_6_2 ht)) g4.1 g4.2 dX6_setGoer_35 <| At.nmS hS3 <| ?_
        obtain rfl := Option.some.inj h
        exact At.vret rfl (Nat.zero_le _) (Nat.zero_le _) ⟨rfl, rfl⟩ dX6_setGoer_36
def fX8_addCode (t : Nat) (p1 : Int) (S : SS) : Option SS :=
  if 900 ≤ (S t 9) then (
    some S
  ) else (
    wrA S (t + 4) 900 (S t 9) p1 fun S1 =>
    lt (up S1 t 9 (w32 ((S1 t 9) + 1))) fun S3 =>
    some S3
  )
set_option maxRecDepth 100000 in
set_option maxHeartbeats 4000000 in
theorem rX8_addCode {G : GG} {t : Nat} {p1 : Int} {S : SS} {rr : SS} (ht : sh t = (8, 14)) (h : fX8_addCode t p1 S = some rr) : RD G mX8_addCode 1 [vr t, vi p1] S none rr := by
  unfold fX8_addCode at h
  refine Runs.of pl_X8 (Nat.le_of_ble_eq_true rfl) ?_
  show At G mX8_addCode 1 0 [(0, vr t), (1, vi p1)] [] (mm S) 0 0 (EQ none rr)
  rcases ite_e h with ⟨c4, h⟩ | ⟨c4, h⟩
  · refine At.aloadn dX8_addCode_0 rfl <| At.getI fl_X8_47 ht (le149 ht) dX8_addCode_1 <| At.sipush dX8_addCode_4 (by decide) <| At.icmp_ge_t (tgt := 30) dX8_addCode_7 (by decide) c4 <| ?_
    obtain rfl := Option.some.inj h
    exact At.vret rfl (Nat.zero_le _) (Nat.zero_le _) ⟨rfl, rfl⟩ dX8_addCode_30
  · refine At.aloadn dX8_addCode_0 rfl <| At.getI fl_X8_47 ht (le149 ht) dX8_addCode_1 <| At.sipush dX8_addCode_4 (by decide) <| At.icmp_ge_f (tgt := 30) dX8_addCode_7 (by decide) c4 <| ?_
    refine At.aloadn dX8_addCode_10 rfl <| At.getR fl_X8_21 ht (le149 ht) (rfO_8_3 ht) dX8_addCode_11 <| At.aloadn dX8_addCode_14 rfl <| At.getI fl_X8_47 ht (le149 ht) dX8_addCode_15 <| At.iloadn dX8_addCode_18 rfl <| ?_
    obtain ⟨S1, hS1, g2, h⟩ := wrA_e h
    refine At.iast (shO_8_3 ht) (le149 (shO_8_3 ht)) g2.1 g2.2 dX8_addCode_19 <| At.nmS hS1 <| At.aloadn dX8_addCode_20 rfl <| At.dup rfl dX8_addCode_21 <| At.getI fl_X8_47 ht (le149 ht) dX8_addCode_22 <| At.iconst dX8_addCode_25 (by decide) <| At.iadd dX8_addCode_26 <| ?_
    obtain ⟨S3, hS3, h⟩ := lt_e h
    refine At.putI fw_X8_47 ht (le149 ht) dX8_addCode_27 <| At.nmS hS3 <| ?_
    obtain rfl := Option.some.inj h
    exact At.vret rfl (Nat.zero_le _) (Nat.zero_le _) ⟨rfl, rfl⟩ dX8_addCode_30
def fX3_isNameOfNumber (S : SS) : Option Bool :=
  if S 19 5 = 1001 then (
    some true
  ) else (
    if S 19 5 = 1002 then (
      if S 19 8 = 0 ∨ S 19 8 = 1 then some (decide (S 19 8 = 1)) else none
    ) else (
      if S 19 5 = 1003 then (
        some true
      ) else (
        if S 19 5 = 1004 then (
          some true
        ) else (
          if S 19 5 = 1007 then (
            some true
          ) else (
            if S 19 5 = 1014 then (
              some true
            ) else (
              some false
            )
          )
        )
      )
    )
  )
set_option maxRecDepth 100000 in
set_option maxHeartbeats 4000000 in
theorem rX3_isNameOfNumber {G : GG} {S : SS} {rr : Bool} (h : fX3_isNameOfNumber  S = some rr) : RD G mX3_isNameOfNumber 1 [vr 19] S (some (vi (bI rr))) S := by
  unfold fX3_isNameOfNumber at h
  refine Runs.of pl_X3 (Nat.le_of_ble_eq_true rfl) ?_
  show At G mX3_isNameOfNumber 1 0 [(0, vr 19)] [] (mm S) 0 0 (EQ (some (vi (bI rr))) S)
  rcases ite_e h with ⟨c1, h⟩ | ⟨c1, h⟩
  · refine At.aloadn dX3_isNameOfNumber_0 rfl <| At.getI fl_X3_64 sh_19 (le149 sh_19) dX3_isNameOfNumber_1 <| At.tsIn (off := 72) (tgt := 76) dX3_isNameOfNumber_4 (by omega) (by omega) (by rw [c1] <;> rfl) (by decide) <| ?_
    refine At.iconst dX3_isNameOfNumber_76 (by decide) <| ?_
    obtain rfl := Option.some.inj h
    exact At.zret (b := true) rfl (Nat.zero_le _) (Nat.zero_le _) ⟨rfl, rfl⟩ dX3_isNameOfNumber_77
  · rcases ite_e h with ⟨c2, h⟩ | ⟨c2, h⟩
    · refine At.aloadn dX3_isNameOfNumber_0 rfl <| At.getI fl_X3_64 sh_19 (le149 sh_19) dX3_isNameOfNumber_1 <| At.tsIn (off := 74) (tgt := 78) dX3_isNameOfNumber_4 (by omega) (by omega) (by rw [c2] <;> rfl) (by decide) <| ?_
      refine At.aloadn dX3_isNameOfNumber_78 rfl <| At.getI fl_X3_155 sh_19 (le149 sh_19) dX3_isNameOfNumber_79 <| ?_
      rcases ite_e h with ⟨c3, h⟩ | ⟨c3, h⟩
      · obtain rfl := Option.some.inj h
        exact At.zretI c3 rfl (Nat.zero_le _) (Nat.zero_le _) ⟨rfl, rfl⟩ dX3_isNameOfNumber_82
      · cases h
    · rcases ite_e h with ⟨c4, h⟩ | ⟨c4, h⟩
      · refine At.aloadn dX3_isNameOfNumber_0 rfl <| At.getI fl_X3_64 sh_19 (le149 sh_19) dX3_isNameOfNumber_1 <| At.tsIn (off := 72) (tgt := 76) dX3_isNameOfNumber_4 (by omega) (by omega) (by rw [c4] <;> rfl) (by decide) <| ?_
        refine At.iconst dX3_isNameOfNumber_76 (by decide) <| ?_
        obtain rfl := Option.some.inj h
        exact At.zret (b := true) rfl (Nat.zero_le _) (Nat.zero_le _) ⟨rfl, rfl⟩ dX3_isNameOfNumber_77
      · rcases ite_e h with ⟨c5, h⟩ | ⟨c5, h⟩
        · refine At.aloadn dX3_isNameOfNumber_0 rfl <| At.getI fl_X3_64 sh_19 (le149 sh_19) dX3_isNameOfNumber_1 <| At.tsIn (off := 72) (tgt := 76) dX3_isNameOfNumber_4 (by omega) (by omega) (by rw [c5] <;> rfl) (by decide) <| ?_
          refine At.iconst dX3_isNameOfNumber_76 (by decide) <| ?_
          obtain rfl := Option.some.inj h
          exact At.zret (b := true) rfl (Nat.zero_le _) (Nat.zero_le _) ⟨rfl, rfl⟩ dX3_isNameOfNumber_77
        · rcases ite_e h with ⟨c6, h⟩ | ⟨c6, h⟩
          · refine At.aloadn dX3_isNameOfNumber_0 rfl <| At.getI fl_X3_64 sh_19 (le149 sh_19) dX3_isNameOfNumber_1 <| At.tsIn (off := 72) (tgt := 76) dX3_isNameOfNumber_4 (by omega) (by omega) (by rw [c6] <;> rfl) (by decide) <| ?_
            refine At.iconst dX3_isNameOfNumber_76 (by decide) <| ?_
            obtain rfl := Option.some.inj h
            exact At.zret (b := true) rfl (Nat.zero_le _) (Nat.zero_le _) ⟨rfl, rfl⟩ dX3_isNameOfNumber_77
          · rcases ite_e h with ⟨c7, h⟩ | ⟨c7, h⟩
            · refine At.aloadn dX3_isNameOfNumber_0 rfl <| At.getI fl_X3_64 sh_19 (le149 sh_19) dX3_isNameOfNumber_1 <| At.tsIn (off := 72) (tgt := 76) dX3_isNameOfNumber_4 (by omega) (by omega) (by rw [c7] <;> rfl) (by decide) <| ?_
              refine At.iconst dX3_isNameOfNumber_76 (by decide) <| ?_
              obtain rfl := Option.some.inj h
              exact At.zret (b := true) rfl (Nat.zero_le _) (Nat.zero_le _) ⟨rfl, rfl⟩ dX3_isNameOfNumber_77
            · rcases (show (S 19 5 < 1001 ∨ 1014 < S 19 5) ∨ S 19 5 = 1005 ∨ S 19 5 = 1006 ∨ S 19 5 = 1008 ∨ S 19 5 = 1009 ∨ S 19 5 = 1010 ∨ S 19 5 = 1011 ∨ S 19 5 = 1012 ∨ S 19 5 = 1013 by omega) with hz | hz | hz | hz | hz | hz | hz | hz | hz
              · refine At.aloadn dX3_isNameOfNumber_0 rfl <| At.getI fl_X3_64 sh_19 (le149 sh_19) dX3_isNameOfNumber_1 <| At.tsOut (tgt := 83) dX3_isNameOfNumber_4 hz (by decide) <| ?_
                refine At.iconst dX3_isNameOfNumber_83 (by decide) <| ?_
                obtain rfl := Option.some.inj h
                exact At.zret (b := false) rfl (Nat.zero_le _) (Nat.zero_le _) ⟨rfl, rfl⟩ dX3_isNameOfNumber_84
              · refine At.aloadn dX3_isNameOfNumber_0 rfl <| At.getI fl_X3_64 sh_19 (le149 sh_19) dX3_isNameOfNumber_1 <| At.tsIn (off := 79) (tgt := 83) dX3_isNameOfNumber_4 (by omega) (by omega) (by rw [hz] <;> rfl) (by decide) <| ?_
                refine At.iconst dX3_isNameOfNumber_83 (by decide) <| ?_
                obtain rfl := Option.some.inj h
                exact At.zret (b := false) rfl (Nat.zero_le _) (Nat.zero_le _) ⟨rfl, rfl⟩ dX3_isNameOfNumber_84
              · refine At.aloadn dX3_isNameOfNumber_0 rfl <| At.getI fl_X3_64 sh_19 (le149 sh_19) dX3_isNameOfNumber_1 <| At.tsIn (off := 79) (tgt := 83) dX3_isNameOfNumber_4 (by omega) (by omega) (by rw [hz] <;> rfl) (by decide) <| ?_
                refine At.iconst dX3_isNameOfNumber_83 (by decide) <| ?_
                obtain rfl := Option.some.inj h
                exact At.zret (b := false) rfl (Nat.zero_le _) (Nat.zero_le _) ⟨rfl, rfl⟩ dX3_isNameOfNumber_84
              · refine At.aloadn dX3_isNameOfNumber_0 rfl <| At.getI fl_X3_64 sh_19 (le149 sh_19) dX3_isNameOfNumber_1 <| At.tsIn (off := 79) (tgt := 83) dX3_isNameOfNumber_4 (by omega) (by omega) (by rw [hz] <;> rfl) (by decide) <| ?_
                refine At.iconst dX3_isNameOfNumber_83 (by decide) <| ?_
                obtain rfl := Option.some.inj h
                exact At.zret (b := false) rfl (Nat.zero_le _) (Nat.zero_le _) ⟨rfl, rfl⟩ dX3_isNameOfNumber_84
              · refine At.aloadn dX3_isNameOfNumber_0 rfl <| At.getI fl_X3_64 sh_19 (le149 sh_19) dX3_isNameOfNumber_1 <| At.tsIn (off := 79) (tgt := 83) dX3_isNameOfNumber_4 (by omega) (by omega) (by rw [hz] <;> rfl) (by decide) <| ?_
                refine At.iconst dX3_isNameOfNumber_83 (by decide) <| ?_
                obtain rfl := Option.some.inj h
                exact At.zret (b := false) rfl (Nat.zero_le _) (Nat.zero_le _) ⟨rfl, rfl⟩ dX3_isNameOfNumber_84
              · refine At.aloadn dX3_isNameOfNumber_0 rfl <| At.getI fl_X3_64 sh_19 (le149 sh_19) dX3_isNameOfNumber_1 <| At.tsIn (off := 79) (tgt := 83) dX3_isNameOfNumber_4 (by omega) (by omega) (by rw [hz] <;> rfl) (by decide) <| ?_
                refine At.iconst dX3_isNameOfNumber_83 (by decide) <| ?_
                obtain rfl := Option.some.inj h
                exact At.zret (b := false) rfl (Nat.zero_le _) (Nat.zero_le _) ⟨rfl, rfl⟩ dX3_isNameOfNumber_84
              · refine At.aloadn dX3_isNameOfNumber_0 rfl <| At.getI fl_X3_64 sh_19 (le149 sh_19) dX3_isNameOfNumber_1 <| At.tsIn (off := 79) (tgt := 83) dX3_isNameOfNumber_4 (by omega) (by omega) (by rw [hz] <;> rfl) (by decide) <| ?_
                refine At.iconst dX3_isNameOfNumber_83 (by decide) <| ?_
                obtain rfl := Option.some.inj h
                exact At.zret (b := false) rfl (Nat.zero_le _) (Nat.zero_le _) ⟨rfl, rfl⟩ dX3_isNameOfNumber_84
              · refine At.aloadn dX3_isNameOfNumber_0 rfl <| At.getI fl_X3_64 sh_19 (le149 sh_19) dX3_isNameOfNumber_1 <| At.tsIn (off := 79) (tgt := 83) dX3_isNameOfNumber_4 (by omega) (by omega) (by rw [hz] <;> rfl) (by decide) <| ?_
                refine At.iconst dX3_isNameOfNumber_83 (by decide) <| ?_
                obtain rfl := Option.some.inj h
                exact At.zret (b := false) rfl (Nat.zero_le _) (Nat.zero_le _) ⟨rfl, rfl⟩ dX3_isNameOfNumber_84
              · refine At.aloadn dX3_isNameOfNumber_0 rfl <| At.getI fl_X3_64 sh_19 (le149 sh_19) dX3_isNameOfNumber_1 <| At.tsIn (off := 79) (tgt := 83) dX3_isNameOfNumber_4 (by omega) (by omega) (by rw [hz] <;> rfl) (by decide) <| ?_
                refine At.iconst dX3_isNameOfNumber_83 (by decide) <| ?_
                obtain rfl := Option.some.inj h
                exact At.zret (b := false) rfl (Nat.zero_le _) (Nat.zero_le _) ⟨rfl, rfl⟩ dX3_isNameOfNumber_84
def fX6_copyOf (t : Nat) (p1 : Nat) (S : SS) : Option SS :=
  acp S (p1 + 1) 8 0 (t + 1) 8 0 8 fun S1 =>
  acp S1 (p1 + 2) 3 0 (t + 2) 3 0 3 fun S3 =>
  acp S3 (p1 + 3) 3 0 (t + 3) 3 0 3 fun S5 =>
  lt (up S5 t 3 (S5 p1 3)) fun S7 =>
  some S7
set_option maxRecDepth 100000 in
set_option maxHeartbeats 4000000 in
theorem rX6_copyOf {G : GG} {t : Nat} {p1 : Nat} {S : SS} {rr : SS} (ht : sh t = (6, 4)) (hp1 : sh p1 = (6, 4)) (h : fX6_copyOf t p1 S = some rr) : RD G mX6_copyOf 3 [vr t, vr p1] S none rr := by
  unfold fX6_copyOf at h
  refine Runs.of pl_X6 (Nat.le_of_ble_eq_true rfl) ?_
  show At G mX6_copyOf 3 0 [(0, vr t), (1, vr p1)] [] (mm S) 0 0 (EQ none rr)
  refine At.aloadn dX6_copyOf_0 rfl <| At.getR fl_X6_9 hp1 (le149 hp1) (rfO_6_0 hp1) dX6_copyOf_1 <| At.iconst dX6_copyOf_4 (by decide) <| At.aloadn dX6_copyOf_5 rfl <| At.getR fl_X6_9 ht (le149 ht) (rfO_6_0 ht) dX6_copyOf_6 <| At.iconst dX6_copyOf_9 (by decide) <| At.bipush dX6_copyOf_10 (by decide) <| ?_
  obtain ⟨S1, hS1, g2, h⟩ := acp_e h
  refine At.acpI ln_X6_21 (shO_6_0 hp1) (shO_6_0 ht) g2 (Nat.le_of_ble_eq_true rfl) (by decide) dX6_copyOf_12 <| At.nmS hS1 <| At.aloadn dX6_copyOf_15 rfl <| At.getR fl_X6_15 hp1 (le149 hp1) (rfO_6_1 hp1) dX6_copyOf_16 <| At.iconst dX6_copyOf_19 (by decide) <| At.aloadn dX6_copyOf_20 rfl <| At.getR fl_X6_15 ht (le149 ht) (rfO_6_1 ht) dX6_copyOf_21 <| At.iconst dX6_copyOf_24 (by decide) <| At.iconst dX6_copyOf_25 (by decide) <| ?_
  obtain ⟨S3, hS3, g4, h⟩ := acp_e h
  refine At.acpI ln_X6_21 (shO_6_1 hp1) (shO_6_1 ht) g4 (Nat.le_of_ble_eq_true rfl) (by decide) dX6_copyOf_26 <| At.nmS hS3 <| At.aloadn dX6_copyOf_29 rfl <| At.getR fl_X6_18 hp1 (le149 hp1) (rfO_6_2 hp1) dX6_copyOf_30 <| At.iconst dX6_copyOf_33 (by decide) <| At.aloadn dX6_copyOf_34 rfl <| At.getR fl_X6_18 ht (le149 ht) (rfO_6_2 ht) dX6_copyOf_35 <| At.iconst dX6_copyOf_38 (by decide) <| At.iconst dX6_copyOf_39 (by decide) <| ?_
  obtain ⟨S5, hS5, g6, h⟩ := acp_e h
  refine At.acpI ln_X6_21 (shO_6_2 hp1) (shO_6_2 ht) g6 (Nat.le_of_ble_eq_true rfl) (by decide) dX6_copyOf_40 <| At.nmS hS5 <| At.aloadn dX6_copyOf_43 rfl <| At.aloadn dX6_copyOf_44 rfl <| At.getI fl_X6_27 hp1 (le149 hp1) dX6_copyOf_45 <| ?_
  obtain ⟨S7, hS7, h⟩ := lt_e h
  refine At.putI fw_X6_27 ht (le149 ht) dX6_copyOf_48 <| At.nmS hS7 <| ?_
  obtain rfl := Option.some.inj h
  exact At.vret rfl (Nat.zero_le _) (Nat.zero_le _) ⟨rfl, rfl⟩ dX6_copyOf_51
def fX8_copyOf (t : Nat) (p1 : Nat) (S : SS) : Option SS :=
  Option.bind (fX6_copyOf (t + 5) (p1 + 5) S) fun q1 =>
  acp q1 (p1 + 1) 8 0 (t + 1) 8 0 8 fun S2 =>
  acp S2 (p1 + 2) 8 0 (t + 2) 8 0 8 fun S4 =>
  acp S4 (p1 + 3) 8 0 (t + 3) 8 0 8 fun S6 =>
  acp S6 (p1 + 4) 900 0 (t + 4) 900 0 (S6 p1 9) fun S8 =>
  lt (up S8 t 5 (S8 p1 5)) fun S10 =>
  lt (up S10 t 6 (S10 p1 6)) fun S11 =>
  lt (up S11 t 7 (S11 p1 7)) fun S12 =>
  lt (up S12 t 8 (S12 p1 8)) fun S13 =>
  lt (up S13 t 9 (S13 p1 9)) fun S14 =>
  lt (up S14 t 10 (S14 p1 10)) fun S15 =>
  lt (up S15 t 11 (S15 p1 11)) fun S16 =>
  lt (up S16 t 12 (S16 p1 12)) fun S17 =>
  lt (up S17 t 13 (S17 p1 13)) fun S18 =>
  some S18
set_option maxRecDepth 100000 in
set_option maxHeartbeats 4000000 in
theorem rX8_copyOf {G : GG} {t : Nat} {p1 : Nat} {S : SS} {rr : SS} (ht : sh t = (8, 14)) (hp1 : sh p1 = (8, 14)) (h : fX8_copyOf t p1 S = some rr) : RD G mX8_copyOf 4 [vr t, vr p1] S none rr := by
  unfold fX8_copyOf at h
  refine Runs.of pl_X8 (Nat.le_of_ble_eq_true rfl) ?_
  show At G mX8_copyOf 4 0 [(0, vr t), (1, vr p1)] [] (mm S) 0 0 (EQ none rr)
  refine At.aloadn dX8_copyOf_0 rfl <| At.getR fl_X8_27 ht (le149 ht) (rfO_8_4 ht) dX8_copyOf_1 <| At.aloadn dX8_copyOf_4 rfl <| At.getR fl_X8_27 hp1 (le149 hp1) (rfO_8_4 hp1) dX8_copyOf_5 <| ?_
  obtain ⟨q1, hq1, h⟩ := bnd_e h
  refine At.cV0 (av := [vr (p1 + 5)]) (rest := []) mv_X6_copyOf lk_X8_62 dX8_copyOf_8 rfl rfl (shO_8_4 ht) (Nat.le_of_ble_eq_true rfl) (by decide) ⟨rfl, rfl⟩ (rX6_copyOf (shO_8_4 ht) (shO_8_4 hp1) hq1) <| At.aloadn dX8_copyOf_11 rfl <| At.getR fl_X8_9 hp1 (le149 hp1) (rfO_8_0 hp1) dX8_copyOf_12 <| At.iconst dX8_copyOf_15 (by decide) <| At.aloadn dX8_copyOf_16 rfl <| At.getR fl_X8_9 ht (le149 ht) (rfO_8_0 ht) dX8_copyOf_17 <| At.iconst dX8_copyOf_20 (by decide) <| At.bipush dX8_copyOf_21 (by decide) <| ?_
  obtain ⟨S2, hS2, g3, h⟩ := acp_e h
  refine At.acpI ln_X8_66 (shO_8_0 hp1) (shO_8_0 ht) g3 (Nat.le_of_ble_eq_true rfl) (by decide) dX8_copyOf_23 <| At.nmS hS2 <| At.aloadn dX8_copyOf_26 rfl <| At.getR fl_X8_15 hp1 (le149 hp1) (rfO_8_1 hp1) dX8_copyOf_27 <| At.iconst dX8_copyOf_30 (by decide) <| At.aloadn dX8_copyOf_31 rfl <| At.getR fl_X8_15 ht (le149 ht) (rfO_8_1 ht) dX8_copyOf_32 <| At.iconst dX8_copyOf_35 (by decide) <| At.bipush dX8_copyOf_36 (by decide) <| ?_
  obtain ⟨S4, hS4, g5, h⟩ := acp_e h
  refine At.acpI ln_X8_66 (shO_8_1 hp1) (shO_8_1 ht) g5 (Nat.le_of_ble_eq_true rfl) (by decide) dX8_copyOf_38 <| At.nmS hS4 <| At.aloadn dX8_copyOf_41 rfl <| At.getR fl_X8_18 hp1 (le149 hp1) (rfO_8_2 hp1) dX8_copyOf_42 <| At.iconst dX8_copyOf_45 (by decide) <| At.aloadn dX8_copyOf_46 rfl <| At.getR fl_X8_18 ht (le149 ht) (rfO_8_2 ht) dX8_copyOf_47 <| At.iconst dX8_copyOf_50 (by decide) <| At.bipush dX8_copyOf_51 (by decide) <| ?_
  obtain ⟨S6, hS6, g7, h⟩ := acp_e h
  refine At.acpI ln_X8_66 (shO_8_2 hp1) (shO_8_2 ht) g7 (Nat.le_of_ble_eq_true rfl) (by decide) dX8_copyOf_53 <| At.nmS hS6 <| At.aloadn dX8_copyOf_56 rfl <| At.getR fl_X8_21 hp1 (le149 hp1) (rfO_8_3 hp1) dX8_copyOf_57 <| At.iconst dX8_copyOf_60 (by decide) <| At.aloadn dX8_copyOf_61 rfl <| At.getR fl_X8_21 ht (le149 ht) (rfO_8_3 ht) dX8_copyOf_62 <| At.iconst dX8_copyOf_65 (by decide) <| At.aloadn dX8_copyOf_66 rfl <| At.getI fl_X8_47 hp1 (le149 hp1) dX8_copyOf_67 <| ?_
  obtain ⟨S8, hS8, g9, h⟩ := acp_e h
  refine At.acpI ln_X8_66 (shO_8_3 hp1) (shO_8_3 ht) g9 (Nat.le_of_ble_eq_true rfl) (by decide) dX8_copyOf_70 <| At.nmS hS8 <| At.aloadn dX8_copyOf_73 rfl <| At.aloadn dX8_copyOf_74 rfl <| At.getI fl_X8_31 hp1 (le149 hp1) dX8_copyOf_75 <| ?_
  obtain ⟨S10, hS10, h⟩ := lt_e h
  refine At.putI fw_X8_31 ht (le149 ht) dX8_copyOf_78 <| At.nmS hS10 <| At.aloadn dX8_copyOf_81 rfl <| At.aloadn dX8_copyOf_82 rfl <| At.getI fl_X8_35 hp1 (le149 hp1) dX8_copyOf_83 <| ?_
  obtain ⟨S11, hS11, h⟩ := lt_e h
  refine At.putI fw_X8_35 ht (le149 ht) dX8_copyOf_86 <| At.nmS hS11 <| At.aloadn dX8_copyOf_89 rfl <| At.aloadn dX8_copyOf_90 rfl <| At.getI fl_X8_38 hp1 (le149 hp1) dX8_copyOf_91 <| ?_
  obtain ⟨S12, hS12, h⟩ := lt_e h
  refine At.putI fw_X8_38 ht (le149 ht) dX8_copyOf_94 <| At.nmS hS12 <| At.aloadn dX8_copyOf_97 rfl <| At.aloadn dX8_copyOf_98 rfl <| At.getI fl_X8_44 hp1 (le149 hp1) dX8_copyOf_99 <| ?_
  obtain ⟨S13, hS13, h⟩ := lt_e h
  refine At.putI fw_X8_44 ht (le149 ht) dX8_copyOf_102 <| At.nmS hS13 <| At.aloadn dX8_copyOf_105 rfl <| At.aloadn dX8_copyOf_106 rfl <| At.getI fl_X8_47 hp1 (le149 hp1) dX8_copyOf_107 <| ?_
  obtain ⟨S14, hS14, h⟩ := lt_e h
  refine At.putI fw_X8_47 ht (le149 ht) dX8_copyOf_110 <| At.nmS hS14 <| At.aloadn dX8_copyOf_113 rfl <| At.aloadn dX8_copyOf_114 rfl <| At.getI fl_X8_50 hp1 (le149 hp1) dX8_copyOf_115 <| ?_
  obtain ⟨S15, hS15, h⟩ := lt_e h
  refine At.putI fw_X8_50 ht (le149 ht) dX8_copyOf_118 <| At.nmS hS15 <| At.aloadn dX8_copyOf_121 rfl <| At.aloadn dX8_copyOf_122 rfl <| At.getI fl_X8_53 hp1 (le149 hp1) dX8_copyOf_123 <| ?_
  obtain ⟨S16, hS16, h⟩ := lt_e h
  refine At.putI fw_X8_53 ht (le149 ht) dX8_copyOf_126 <| At.nmS hS16 <| At.aloadn dX8_copyOf_129 rfl <| At.aloadn dX8_copyOf_130 rfl <| At.getI fl_X8_56 hp1 (le149 hp1) dX8_copyOf_131 <| ?_
  obtain ⟨S17, hS17, h⟩ := lt_e h
  refine At.putI fw_X8_56 ht (le149 ht) dX8_copyOf_134 <| At.nmS hS17 <| At.aloadn dX8_copyOf_137 rfl <| At.aloadn dX8_copyOf_138 rfl <| At.getI fl_X8_59 hp1 (le149 hp1) dX8_copyOf_139 <| ?_
  obtain ⟨S18, hS18, h⟩ := lt_e h
  refine At.putI fw_X8_59 ht (le149 ht) dX8_copyOf_142 <| At.nmS hS18 <| ?_
  obtain rfl := Option.some.inj h
  exact At.vret rfl (Nat.zero_le _) (Nat.zero_le _) ⟨rfl, rfl⟩ dX8_copyOf_145
def fX5_forget (S : SS) : Option SS :=
  lt (up S 30 3 ((-1))) fun S1 =>
  some S1
set_option maxRecDepth 100000 in
set_option maxHeartbeats 4000000 in
theorem rX5_forget {G : GG} {S : SS} {rr : SS} (h : fX5_forget  S = some rr) : RD G mX5_forget 1 [vr 30] S none rr := by
  unfold fX5_forget at h
  refine Runs.of pl_X5 (Nat.le_of_ble_eq_true rfl) ?_
  show At G mX5_forget 1 0 [(0, vr 30)] [] (mm S) 0 0 (EQ none rr)
  refine At.aloadn dX5_forget_0 rfl <| At.iconst dX5_forget_1 (by decide) <| ?_
  obtain ⟨S1, hS1, h⟩ := lt_e h
  refine At.putI fw_X5_22 sh_30 (le149 sh_30) dX5_forget_2 <| At.nmS hS1 <| ?_
  obtain rfl := Option.some.inj h
  exact At.vret rfl (Nat.zero_le _) (Nat.zero_le _) ⟨rfl, rfl⟩ dX5_forget_5
def fX11_becomes (p1 : Nat) (S : SS) : Option SS :=
  Option.bind (fX8_copyOf 2 p1 S) fun q1 =>
  lt (up q1 59 2 0) fun S2 =>
  Option.bind (fX5_forget  S2) fun q3 =>
  some q3
set_option maxRecDepth 100000 in
set_option maxHeartbeats 4000000 in
theorem rX11_becomes {G : GG} {p1 : Nat} {S : SS} {rr : SS} (hp1 : sh p1 = (8, 14)) (h : fX11_becomes p1 S = some rr) : RD G mX11_becomes 5 [vr 1, vr p1] S none rr := by
  unfold fX11_becomes at h
  refine Runs.of pl_X11 (Nat.le_of_ble_eq_true rfl) ?_
  show At G mX11_becomes 5 0 [(0, vr 1), (1, vr p1)] [] (mm S) 0 0 (EQ none rr)
  refine At.aloadn dX11_becomes_0 rfl <| At.getR fl_X11_12 sh_1 (le149 sh_1) rf_1_0 dX11_becomes_1 <| At.aloadn dX11_becomes_4 rfl <| ?_
  obtain ⟨q1, hq1, h⟩ := bnd_e h
  refine At.cV0 (av := [vr p1]) (rest := []) mv_X8_copyOf lk_X11_397 dX11_becomes_5 rfl rfl sh_2 (Nat.le_of_ble_eq_true rfl) (by decide) ⟨rfl, rfl⟩ (rX8_copyOf sh_2 hp1 hq1) <| At.aloadn dX11_becomes_8 rfl <| At.getR fl_X11_86 sh_1 (le149 sh_1) rf_1_11 dX11_becomes_9 <| At.iconst dX11_becomes_12 (by decide) <| ?_
  obtain ⟨S2, hS2, h⟩ := lt_e h
  refine At.putI fw_X11_197 sh_59 (le149 sh_59) dX11_becomes_13 <| At.nmS hS2 <| At.aloadn dX11_becomes_16 rfl <| At.getR fl_X11_44 sh_1 (le149 sh_1) rf_1_5 dX11_becomes_17 <| ?_
  obtain ⟨q3, hq3, h⟩ := bnd_e h
  refine At.cV0 (av := []) (rest := []) mv_X5_forget lk_X11_405 dX11_becomes_20 rfl rfl sh_30 (Nat.le_of_ble_eq_true rfl) (by decide) ⟨rfl, rfl⟩ (rX5_forget hq3) <| ?_
  obtain rfl := Option.some.inj h
  exact At.vret rfl (Nat.zero_le _) (Nat.zero_le _) ⟨rfl, rfl⟩ dX11_becomes_23
def fX11_fault (p1 : Int) (S : SS) : Option Int :=
  if p1 = 0 then (
    some (S 19 9)
  ) else (
    if p1 = 1 then (
      some (S 19 10)
    ) else (
      some ((-1))
    )
  )
set_option maxRecDepth 100000 in
set_option maxHeartbeats 4000000 in
theorem rX11_fault {G : GG} {p1 : Int} {S : SS} {rr : Int} (h : fX11_fault p1 S = some rr) : RD G mX11_fault 1 [vr 1, vi p1] S (some (vi rr)) S := by
  unfold fX11_fault at h
  refine Runs.of pl_X11 (Nat.le_of_ble_eq_true rfl) ?_
  show At G mX11_fault 1 0 [(0, vr 1), (1, vi p1)] [] (mm S) 0 0 (EQ (some (vi rr)) S)
  rcases ite_e h with ⟨c2, h⟩ | ⟨c2, h⟩
  · refine At.iloadn dX11_fault_0 rfl <| At.if_ne_f (tgt := 12) dX11_fault_1 (by decide) c2 <| ?_
    refine At.aloadn dX11_fault_4 rfl <| At.getR fl_X11_35 sh_1 (le149 sh_1) rf_1_4 dX11_fault_5 <| At.getI fl_X11_116 sh_19 (le149 sh_19) dX11_fault_8 <| ?_
    obtain rfl := Option.some.inj h
    exact At.iret rfl (Nat.zero_le _) (Nat.zero_le _) ⟨rfl, rfl⟩ dX11_fault_11
  · refine At.iloadn dX11_fault_0 rfl <| At.if_ne_t (tgt := 12) dX11_fault_1 (by decide) c2 <| ?_
    rcases ite_e h with ⟨c1, h⟩ | ⟨c1, h⟩
    · refine At.iloadn dX11_fault_12 rfl <| At.iconst dX11_fault_13 (by decide) <| At.icmp_ne_f (tgt := 27) dX11_fault_14 (by decide) c1 <| ?_
      refine At.aloadn dX11_fault_17 rfl <| At.getR fl_X11_35 sh_1 (le149 sh_1) rf_1_4 dX11_fault_18 <| At.getI fl_X11_128 sh_19 (le149 sh_19) dX11_fault_21 <| At.goto (tgt := 28) dX11_fault_24 (by decide) <| ?_
      obtain rfl := Option.some.inj h
      exact At.iret rfl (Nat.zero_le _) (Nat.zero_le _) ⟨rfl, rfl⟩ dX11_fault_28
    · refine At.iloadn dX11_fault_12 rfl <| At.iconst dX11_fault_13 (by decide) <| At.icmp_ne_t (tgt := 27) dX11_fault_14 (by decide) c1 <| ?_
      refine At.iconst dX11_fault_27 (by decide) <| ?_
      obtain rfl := Option.some.inj h
      exact At.iret rfl (Nat.zero_le _) (Nat.zero_le _) ⟨rfl, rfl⟩ dX11_fault_28
def fX8_hasStreet (t : Nat) (p1 : Int) (S : SS) : Option Bool :=
  if p1 < 0 then (
    some false
  ) else (
    if (S t 6) ≤ p1 then (
      some false
    ) else (
      if 8 ≤ p1 then (
        some false
      ) else (
        some true
      )
    )
  )
set_option maxRecDepth 100000 in
set_option maxHeartbeats 4000000 in
theorem rX8_hasStreet {G : GG} {t : Nat} {p1 : Int} {S : SS} {rr : Bool} (ht : sh t = (8, 14)) (h : fX8_hasStreet t p1 S = some rr) : RD G mX8_hasStreet 1 [vr t, vi p1] S (some (vi (bI rr))) S := by
  unfold fX8_hasStreet at h
  refine Runs.of pl_X8 (Nat.le_of_ble_eq_true rfl) ?_
  show At G mX8_hasStreet 1 0 [(0, vr t), (1, vi p1)] [] (mm S) 0 0 (EQ (some (vi (bI rr))) S)
  rcases ite_e h with ⟨c3, h⟩ | ⟨c3, h⟩
  · refine At.iloadn dX8_hasStreet_0 rfl <| At.if_lt_t (tgt := 22) dX8_hasStreet_1 (by decide) c3 <| ?_
    refine At.iconst dX8_hasStreet_22 (by decide) <| ?_
    obtain rfl := Option.some.inj h
    exact At.zret (b := false) rfl (Nat.zero_le _) (Nat.zero_le _) ⟨rfl, rfl⟩ dX8_hasStreet_23
  · refine At.iloadn dX8_hasStreet_0 rfl <| At.if_lt_f (tgt := 22) dX8_hasStreet_1 (by decide) c3 <| ?_
    rcases ite_e h with ⟨c2, h⟩ | ⟨c2, h⟩
    · refine At.iloadn dX8_hasStreet_4 rfl <| At.aloadn dX8_hasStreet_5 rfl <| At.getI fl_X8_35 ht (le149 ht) dX8_hasStreet_6 <| At.icmp_ge_t (tgt := 22) dX8_hasStreet_9 (by decide) c2 <| ?_
      refine At.iconst dX8_hasStreet_22 (by decide) <| ?_
      obtain rfl := Option.some.inj h
      exact At.zret (b := false) rfl (Nat.zero_le _) (Nat.zero_le _) ⟨rfl, rfl⟩ dX8_hasStreet_23
    · refine At.iloadn dX8_hasStreet_4 rfl <| At.aloadn dX8_hasStreet_5 rfl <| At.getI fl_X8_35 ht (le149 ht) dX8_hasStreet_6 <| At.icmp_ge_f (tgt := 22) dX8_hasStreet_9 (by decide) c2 <| ?_
      rcases ite_e h with ⟨c1, h⟩ | ⟨c1, h⟩
      · refine At.iloadn dX8_hasStreet_12 rfl <| At.bipush dX8_hasStreet_13 (by decide) <| At.icmp_ge_t (tgt := 22) dX8_hasStreet_15 (by decide) c1 <| ?_
        refine At.iconst dX8_hasStreet_22 (by decide) <| ?_
        obtain rfl := Option.some.inj h
        exact At.zret (b := false) rfl (Nat.zero_le _) (Nat.zero_le _) ⟨rfl, rfl⟩ dX8_hasStreet_23
      · refine At.iloadn dX8_hasStreet_12 rfl <| At.bipush dX8_hasStreet_13 (by decide) <| At.icmp_ge_f (tgt := 22) dX8_hasStreet_15 (by decide) c1 <| ?_
        refine At.iconst dX8_hasStreet_18 (by decide) <| At.goto (tgt := 23) dX8_hasStreet_19 (by decide) <| ?_
        obtain rfl := Option.some.inj h
        exact At.zret (b := true) rfl (Nat.zero_le _) (Nat.zero_le _) ⟨rfl, rfl⟩ dX8_hasStreet_23
def fX6_signOf (t : Nat) (p1 : Int) (S : SS) : Option Int :=
  if p1 < 0 then (
    some 3
  ) else (
    if 8 ≤ p1 then (
      some 3
    ) else (
      rdA S (t + 1) 8 p1 fun v1 =>
      some v1
    )
  )
set_option maxRecDepth 100000 in
set_option maxHeartbeats 4000000 in
theorem rX6_signOf {G : GG} {t : Nat} {p1 : Int} {S : SS} {rr : Int} (ht : sh t = (6, 4)) (h : fX6_signOf t p1 S = some rr) : RD G mX6_signOf 1 [vr t, vi p1] S (some (vi rr)) S := by
  unfold fX6_signOf at h
  refine Runs.of pl_X6 (Nat.le_of_ble_eq_true rfl) ?_
  show At G mX6_signOf 1 0 [(0, vr t), (1, vi p1)] [] (mm S) 0 0 (EQ (some (vi rr)) S)
  rcases ite_e h with ⟨c4, h⟩ | ⟨c4, h⟩
  · refine At.iloadn dX6_signOf_0 rfl <| At.if_lt_t (tgt := 22) dX6_signOf_1 (by decide) c4 <| ?_
    refine At.iconst dX6_signOf_22 (by decide) <| ?_
    obtain rfl := Option.some.inj h
    exact At.iret rfl (Nat.zero_le _) (Nat.zero_le _) ⟨rfl, rfl⟩ dX6_signOf_23
  · refine At.iloadn dX6_signOf_0 rfl <| At.if_lt_f (tgt := 22) dX6_signOf_1 (by decide) c4 <| ?_
    rcases ite_e h with ⟨c3, h⟩ | ⟨c3, h⟩
    · refine At.iloadn dX6_signOf_4 rfl <| At.aloadn dX6_signOf_5 rfl <| At.getR fl_X6_9 ht (le149 ht) (rfO_6_0 ht) dX6_signOf_6 <| At.alenI (shO_6_0 ht) (le149 (shO_6_0 ht)) (by decide) (z := 8) rfl dX6_signOf_9 <| At.icmp_ge_t (tgt := 22) dX6_signOf_10 (by decide) c3 <| ?_
      refine At.iconst dX6_signOf_22 (by decide) <| ?_
      obtain rfl := Option.some.inj h
      exact At.iret rfl (Nat.zero_le _) (Nat.zero_le _) ⟨rfl, rfl⟩ dX6_signOf_23
    · refine At.iloadn dX6_signOf_4 rfl <| At.aloadn dX6_signOf_5 rfl <| At.getR fl_X6_9 ht (le149 ht) (rfO_6_0 ht) dX6_signOf_6 <| At.alenI (shO_6_0 ht) (le149 (shO_6_0 ht)) (by decide) (z := 8) rfl dX6_signOf_9 <| At.icmp_ge_f (tgt := 22) dX6_signOf_10 (by decide) c3 <| ?_
      refine At.aloadn dX6_signOf_13 rfl <| At.getR fl_X6_9 ht (le149 ht) (rfO_6_0 ht) dX6_signOf_14 <| At.iloadn dX6_signOf_17 rfl <| ?_
      obtain ⟨v1, hv1, g2, h⟩ := rdA_e h
      refine At.iald (shO_6_0 ht) (le149 (shO_6_0 ht)) g2.1 g2.2 dX6_signOf_18 <| At.nm hv1 <| At.goto (tgt := 23) dX6_signOf_19 (by decide) <| ?_
      obtain rfl := Option.some.inj h
      exact At.iret rfl (Nat.zero_le _) (Nat.zero_le _) ⟨rfl, rfl⟩ dX6_signOf_23
def fX11_street (p1 : Int) (p2 : Int) (S : SS) : Option Int :=
  Option.bind (fX8_hasStreet 2 p1 S) fun q1 =>
  if q1 = true then (
    if p2 = 0 then (
      rdA S 3 8 p1 fun v3 =>
      some v3
    ) else (
      if p2 = 1 then (
        rdA S 4 8 p1 fun v6 =>
        some v6
      ) else (
        if p2 = 2 then (
          Option.bind (fX6_signOf 7 p1 S) fun q9 =>
          some q9
        ) else (
          if p2 = 3 then (
            rdA S 5 8 p1 fun v11 =>
            some (w32 (50 + v11))
          ) else (
            some ((-2))
          )
        )
      )
    )
  ) else (
    some ((-2))
  )
set_option maxRecDepth 100000 in
set_option maxHeartbeats 4000000 in
theorem rX11_street {G : GG} {p1 : Int} {p2 : Int} {S : SS} {rr : Int} (h : fX11_street p1 p2 S = some rr) : RD G mX11_street 2 [vr 1, vi p1, vi p2] S (some (vi rr)) S := by
  unfold fX11_street at h
  refine Runs.of pl_X11 (Nat.le_of_ble_eq_true rfl) ?_
  show At G mX11_street 2 0 [(0, vr 1), (1, vi p1), (2, vi p2)] [] (mm S) 0 0 (EQ (some (vi rr)) S)
  refine At.aloadn dX11_street_0 rfl <| At.getR fl_X11_12 sh_1 (le149 sh_1) rf_1_0 dX11_street_1 <| At.iloadn dX11_street_4 rfl <| ?_
  obtain ⟨q1, hq1, h⟩ := bnd_e h
  rcases ite_e h with ⟨c13, h⟩ | ⟨c13, h⟩
  · refine At.cV1 (av := [vi p1]) (rest := []) mv_X8_hasStreet lk_X11_131 dX11_street_5 rfl rfl sh_2 (Nat.le_of_ble_eq_true rfl) (by decide) ⟨rfl, rfl⟩ (rX8_hasStreet sh_2 hq1) <| At.bifne_t (tgt := 14) dX11_street_8 (by decide) c13 <| ?_
    rcases ite_e h with ⟨c2, h⟩ | ⟨c2, h⟩
    · refine At.iloadn dX11_street_14 rfl <| At.tsIn (off := 29) (tgt := 44) dX11_street_15 (by omega) (by omega) (by rw [c2] <;> rfl) (by decide) <| ?_
      refine At.aloadn dX11_street_44 rfl <| At.getR fl_X11_12 sh_1 (le149 sh_1) rf_1_0 dX11_street_45 <| At.getR fl_X11_135 sh_2 (le149 sh_2) rf_2_0 dX11_street_48 <| At.iloadn dX11_street_51 rfl <| ?_
      obtain ⟨v3, hv3, g4, h⟩ := rdA_e h
      refine At.iald sh_3 (le149 sh_3) g4.1 g4.2 dX11_street_52 <| At.nm hv3 <| ?_
      obtain rfl := Option.some.inj h
      exact At.iret rfl (Nat.zero_le _) (Nat.zero_le _) ⟨rfl, rfl⟩ dX11_street_53
    · rcases ite_e h with ⟨c5, h⟩ | ⟨c5, h⟩
      · refine At.iloadn dX11_street_14 rfl <| At.tsIn (off := 39) (tgt := 54) dX11_street_15 (by omega) (by omega) (by rw [c5] <;> rfl) (by decide) <| ?_
        refine At.aloadn dX11_street_54 rfl <| At.getR fl_X11_12 sh_1 (le149 sh_1) rf_1_0 dX11_street_55 <| At.getR fl_X11_138 sh_2 (le149 sh_2) rf_2_1 dX11_street_58 <| At.iloadn dX11_street_61 rfl <| ?_
        obtain ⟨v6, hv6, g7, h⟩ := rdA_e h
        refine At.iald sh_4 (le149 sh_4) g7.1 g7.2 dX11_street_62 <| At.nm hv6 <| ?_
        obtain rfl := Option.some.inj h
        exact At.iret rfl (Nat.zero_le _) (Nat.zero_le _) ⟨rfl, rfl⟩ dX11_street_63
      · rcases ite_e h with ⟨c8, h⟩ | ⟨c8, h⟩
        · refine At.iloadn dX11_street_14 rfl <| At.tsIn (off := 49) (tgt := 64) dX11_street_15 (by omega) (by omega) (by rw [c8] <;> rfl) (by decide) <| ?_
          refine At.aloadn dX11_street_64 rfl <| At.getR fl_X11_20 sh_1 (le149 sh_1) rf_1_1 dX11_street_65 <| At.iloadn dX11_street_68 rfl <| ?_
          obtain ⟨q9, hq9, h⟩ := bnd_e h
          refine At.cV1 (av := [vi p1]) (rest := []) mv_X6_signOf lk_X11_141 dX11_street_69 rfl rfl sh_7 (Nat.le_of_ble_eq_true rfl) (by decide) ⟨rfl, rfl⟩ (rX6_signOf sh_7 hq9) <| ?_
          obtain rfl := Option.some.inj h
          exact At.iret rfl (Nat.zero_le _) (Nat.zero_le _) ⟨rfl, rfl⟩ dX11_street_72
        · rcases ite_e h with ⟨c10, h⟩ | ⟨c10, h⟩
          · refine At.iloadn dX11_street_14 rfl <| At.tsIn (off := 58) (tgt := 73) dX11_street_15 (by omega) (by omega) (by rw [c10] <;> rfl) (by decide) <| ?_
            refine At.bipush dX11_street_73 (by decide) <| At.aloadn dX11_street_75 rfl <| At.getR fl_X11_12 sh_1 (le149 sh_1) rf_1_0 dX11_street_76 <| At.getR fl_X11_145 sh_2 (le149 sh_2) rf_2_2 dX11_street_79 <| At.iloadn dX11_street_82 rfl <| ?_
            obtain ⟨v11, hv11, g12, h⟩ := rdA_e h
            refine At.iald sh_5 (le149 sh_5) g12.1 g12.2 dX11_street_83 <| At.nm hv11 <| At.iadd dX11_street_84 <| ?_
            obtain rfl := Option.some.inj h
            exact At.iret rfl (Nat.zero_le _) (Nat.zero_le _) ⟨rfl, rfl⟩ dX11_street_85
          · have hz : (p2 < 0 ∨ 3 < p2) := by omega
            refine At.iloadn dX11_street_14 rfl <| At.tsOut (tgt := 86) dX11_street_15 hz (by decide) <| ?_
            refine At.bipush dX11_street_86 (by decide) <| ?_
            obtain rfl := Option.some.inj h
            exact At.iret rfl (Nat.zero_le _) (Nat.zero_le _) ⟨rfl, rfl⟩ dX11_street_88
  · refine At.cV1 (av := [vi p1]) (rest := []) mv_X8_hasStreet lk_X11_131 dX11_street_5 rfl rfl sh_2 (Nat.le_of_ble_eq_true rfl) (by decide) ⟨rfl, rfl⟩ (rX8_hasStreet sh_2 hq1) <| At.bifne_f (tgt := 14) dX11_street_8 (by decide) c13 <| ?_
    refine At.bipush dX11_street_11 (by decide) <| ?_
    obtain rfl := Option.some.inj h
    exact At.iret rfl (Nat.zero_le _) (Nat.zero_le _) ⟨rfl, rfl⟩ dX11_street_13
def fX8_hasGoer (t : Nat) (p1 : Int) (S : SS) : Option Bool :=
  if p1 < 0 then (
    some false
  ) else (
    if (S t 7) ≤ p1 then (
      some false
    ) else (
      if 3 ≤ p1 then (
        some false
      ) else (
        some true
      )
    )
  )
set_option maxRecDepth 100000 in
set_option maxHeartbeats 4000000 in
theorem rX8_hasGoer {G : GG} {t : Nat} {p1 : Int} {S : SS} {rr : Bool} (ht : sh t = (8, 14)) (h : fX8_hasGoer t p1 S = some rr) : RD G mX8_hasGoer 1 [vr t, vi p1] S (some (vi (bI rr))) S := by
  unfold fX8_hasGoer at h
  refine Runs.of pl_X8 (Nat.le_of_ble_eq_true rfl) ?_
  show At G mX8_hasGoer 1 0 [(0, vr t), (1, vi p1)] [] (mm S) 0 0 (EQ (some (vi (bI rr))) S)
  rcases ite_e h with ⟨c3, h⟩ | ⟨c3, h⟩
  · refine At.iloadn dX8_hasGoer_0 rfl <| At.if_lt_t (tgt := 21) dX8_hasGoer_1 (by decide) c3 <| ?_
    refine At.iconst dX8_hasGoer_21 (by decide) <| ?_
    obtain rfl := Option.some.inj h
    exact At.zret (b := false) rfl (Nat.zero_le _) (Nat.zero_le _) ⟨rfl, rfl⟩ dX8_hasGoer_22
  · refine At.iloadn dX8_hasGoer_0 rfl <| At.if_lt_f (tgt := 21) dX8_hasGoer_1 (by decide) c3 <| ?_
    rcases ite_e h with ⟨c2, h⟩ | ⟨c2, h⟩
    · refine At.iloadn dX8_hasGoer_4 rfl <| At.aloadn dX8_hasGoer_5 rfl <| At.getI fl_X8_38 ht (le149 ht) dX8_hasGoer_6 <| At.icmp_ge_t (tgt := 21) dX8_hasGoer_9 (by decide) c2 <| ?_
      refine At.iconst dX8_hasGoer_21 (by decide) <| ?_
      obtain rfl := Option.some.inj h
      exact At.zret (b := false) rfl (Nat.zero_le _) (Nat.zero_le _) ⟨rfl, rfl⟩ dX8_hasGoer_22
    · refine At.iloadn dX8_hasGoer_4 rfl <| At.aloadn dX8_hasGoer_5 rfl <| At.getI fl_X8_38 ht (le149 ht) dX8_hasGoer_6 <| At.icmp_ge_f (tgt := 21) dX8_hasGoer_9 (by decide) c2 <| ?_
      rcases ite_e h with ⟨c1, h⟩ | ⟨c1, h⟩
      · refine At.iloadn dX8_hasGoer_12 rfl <| At.iconst dX8_hasGoer_13 (by decide) <| At.icmp_ge_t (tgt := 21) dX8_hasGoer_14 (by decide) c1 <| ?_
        refine At.iconst dX8_hasGoer_21 (by decide) <| ?_
        obtain rfl := Option.some.inj h
        exact At.zret (b := false) rfl (Nat.zero_le _) (Nat.zero_le _) ⟨rfl, rfl⟩ dX8_hasGoer_22
      · refine At.iloadn dX8_hasGoer_12 rfl <| At.iconst dX8_hasGoer_13 (by decide) <| At.icmp_ge_f (tgt := 21) dX8_hasGoer_14 (by decide) c1 <| ?_
        refine At.iconst dX8_hasGoer_17 (by decide) <| At.goto (tgt := 22) dX8_hasGoer_18 (by decide) <| ?_
        obtain rfl := Option.some.inj h
        exact At.zret (b := true) rfl (Nat.zero_le _) (Nat.zero_le _) ⟨rfl, rfl⟩ dX8_hasGoer_22
def fX6_cornerOf (t : Nat) (p1 : Int) (S : SS) : Option Int :=
  if p1 < 0 then (
    some 0
  ) else (
    if 3 ≤ p1 then (
      some 0
    ) else (
      rdA S (t + 2) 3 p1 fun v1 =>
      some v1
    )
  )
set_option maxRecDepth 100000 in
set_option maxHeartbeats 4000000 in
theorem rX6_cornerOf {G : GG} {t : Nat} {p1 : Int} {S : SS} {rr : Int} (ht : sh t = (6, 4)) (h : fX6_cornerOf t p1 S = some rr) : RD G mX6_cornerOf 1 [vr t, vi p1] S (some (vi rr)) S := by
  unfold fX6_cornerOf at h
  refine Runs.of pl_X6 (Nat.le_of_ble_eq_true rfl) ?_
  show At G mX6_cornerOf 1 0 [(0, vr t), (1, vi p1)] [] (mm S) 0 0 (EQ (some (vi rr)) S)
  rcases ite_e h with ⟨c4, h⟩ | ⟨c4, h⟩
  · refine At.iloadn dX6_cornerOf_0 rfl <| At.if_lt_t (tgt := 22) dX6_cornerOf_1 (by decide) c4 <| ?_
    refine At.iconst dX6_cornerOf_22 (by decide) <| ?_
    obtain rfl := Option.some.inj h
    exact At.iret rfl (Nat.zero_le _) (Nat.zero_le _) ⟨rfl, rfl⟩ dX6_cornerOf_23
  · refine At.iloadn dX6_cornerOf_0 rfl <| At.if_lt_f (tgt := 22) dX6_cornerOf_1 (by decide) c4 <| ?_
    rcases ite_e h with ⟨c3, h⟩ | ⟨c3, h⟩
    · refine At.iloadn dX6_cornerOf_4 rfl <| At.aloadn dX6_cornerOf_5 rfl <| At.getR fl_X6_15 ht (le149 ht) (rfO_6_1 ht) dX6_cornerOf_6 <| At.alenI (shO_6_1 ht) (le149 (shO_6_1 ht)) (by decide) (z := 3) rfl dX6_cornerOf_9 <| At.icmp_ge_t (tgt := 22) dX6_cornerOf_10 (by decide) c3 <| ?_
      refine At.iconst dX6_cornerOf_22 (by decide) <| ?_
      obtain rfl := Option.some.inj h
      exact At.iret rfl (Nat.zero_le _) (Nat.zero_le _) ⟨rfl, rfl⟩ dX6_cornerOf_23
    · refine At.iloadn dX6_cornerOf_4 rfl <| At.aloadn dX6_cornerOf_5 rfl <| At.getR fl_X6_15 ht (le149 ht) (rfO_6_1 ht) dX6_cornerOf_6 <| At.alenI (shO_6_1 ht) (le149 (shO_6_1 ht)) (by decide) (z := 3) rfl dX6_cornerOf_9 <| At.icmp_ge_f (tgt := 22) dX6_cornerOf_10 (by decide) c3 <| ?_
      refine At.aloadn dX6_cornerOf_13 rfl <| At.getR fl_X6_15 ht (le149 ht) (rfO_6_1 ht) dX6_cornerOf_14 <| At.iloadn dX6_cornerOf_17 rfl <| ?_
      obtain ⟨v1, hv1, g2, h⟩ := rdA_e h
      refine At.iald (shO_6_1 ht) (le149 (shO_6_1 ht)) g2.1 g2.2 dX6_cornerOf_18 <| At.nm hv1 <| At.goto (tgt := 23) dX6_cornerOf_19 (by decide) <| ?_
      obtain rfl := Option.some.inj h
      exact At.iret rfl (Nat.zero_le _) (Nat.zero_le _) ⟨rfl, rfl⟩ dX6_cornerOf_23
def fX6_yearOf (t : Nat) (p1 : Int) (S : SS) : Option Int :=
  if p1 < 0 then (
    some 0
  ) else (
    if 3 ≤ p1 then (
      some 0
    ) else (
      rdA S (t + 3) 3 p1 fun v1 =>
      some v1
    )
  )
set_option maxRecDepth 100000 in
set_option maxHeartbeats 4000000 in
theorem rX6_yearOf {G : GG} {t : Nat} {p1 : Int} {S : SS} {rr : Int} (ht : sh t = (6, 4)) (h : fX6_yearOf t p1 S = some rr) : RD G mX6_yearOf 1 [vr t, vi p1] S (some (vi rr)) S := by
  unfold fX6_yearOf at h
  refine Runs.of pl_X6 (Nat.le_of_ble_eq_true rfl) ?_
  show At G mX6_yearOf 1 0 [(0, vr t), (1, vi p1)] [] (mm S) 0 0 (EQ (some (vi rr)) S)
  rcases ite_e h with ⟨c4, h⟩ | ⟨c4, h⟩
  · refine At.iloadn dX6_yearOf_0 rfl <| At.if_lt_t (tgt := 22) dX6_yearOf_1 (by decide) c4 <| ?_
    refine At.iconst dX6_yearOf_22 (by decide) <| ?_
    obtain rfl := Option.some.inj h
    exact At.iret rfl (Nat.zero_le _) (Nat.zero_le _) ⟨rfl, rfl⟩ dX6_yearOf_23
  · refine At.iloadn dX6_yearOf_0 rfl <| At.if_lt_f (tgt := 22) dX6_yearOf_1 (by decide) c4 <| ?_
    rcases ite_e h with ⟨c3, h⟩ | ⟨c3, h⟩
    · refine At.iloadn dX6_yearOf_4 rfl <| At.aloadn dX6_yearOf_5 rfl <| At.getR fl_X6_18 ht (le149 ht) (rfO_6_2 ht) dX6_yearOf_6 <| At.alenI (shO_6_2 ht) (le149 (shO_6_2 ht)) (by decide) (z := 3) rfl dX6_yearOf_9 <| At.icmp_ge_t (tgt := 22) dX6_yearOf_10 (by decide) c3 <| ?_
      refine At.iconst dX6_yearOf_22 (by decide) <| ?_
      obtain rfl := Option.some.inj h
      exact At.iret rfl (Nat.zero_le _) (Nat.zero_le _) ⟨rfl, rfl⟩ dX6_yearOf_23
    · refine At.iloadn dX6_yearOf_4 rfl <| At.aloadn dX6_yearOf_5 rfl <| At.getR fl_X6_18 ht (le149 ht) (rfO_6_2 ht) dX6_yearOf_6 <| At.alenI (shO_6_2 ht) (le149 (shO_6_2 ht)) (by decide) (z := 3) rfl dX6_yearOf_9 <| At.icmp_ge_f (tgt := 22) dX6_yearOf_10 (by decide) c3 <| ?_
      refine At.aloadn dX6_yearOf_13 rfl <| At.getR fl_X6_18 ht (le149 ht) (rfO_6_2 ht) dX6_yearOf_14 <| At.iloadn dX6_yearOf_17 rfl <| ?_
      obtain ⟨v1, hv1, g2, h⟩ := rdA_e h
      refine At.iald (shO_6_2 ht) (le149 (shO_6_2 ht)) g2.1 g2.2 dX6_yearOf_18 <| At.nm hv1 <| At.goto (tgt := 23) dX6_yearOf_19 (by decide) <| ?_
      obtain rfl := Option.some.inj h
      exact At.iret rfl (Nat.zero_le _) (Nat.zero_le _) ⟨rfl, rfl⟩ dX6_yearOf_23
def fX6_spotOf (t : Nat) (p1 : Int) (S : SS) : Option Int :=
  Option.bind (fX6_cornerOf t p1 S) fun q1 =>
  Option.bind (fX6_yearOf t p1 S) fun q2 =>
  some (w32 ((w32 (q1 * 20)) + q2))
set_option maxRecDepth 100000 in
set_option maxHeartbeats 4000000 in
theorem rX6_spotOf {G : GG} {t : Nat} {p1 : Int} {S : SS} {rr : Int} (ht : sh t = (6, 4)) (h : fX6_spotOf t p1 S = some rr) : RD G mX6_spotOf 2 [vr t, vi p1] S (some (vi rr)) S := by
  unfold fX6_spotOf at h
  refine Runs.of pl_X6 (Nat.le_of_ble_eq_true rfl) ?_
  show At G mX6_spotOf 2 0 [(0, vr t), (1, vi p1)] [] (mm S) 0 0 (EQ (some (vi rr)) S)
  refine At.aloadn dX6_spotOf_0 rfl <| At.iloadn dX6_spotOf_1 rfl <| ?_
  obtain ⟨q1, hq1, h⟩ := bnd_e h
  refine At.cV1 (av := [vi p1]) (rest := []) mv_X6_cornerOf lk_X6_37 dX6_spotOf_2 rfl rfl ht (Nat.le_of_ble_eq_true rfl) (by decide) ⟨rfl, rfl⟩ (rX6_cornerOf ht hq1) <| At.bipush dX6_spotOf_5 (by decide) <| At.imul dX6_spotOf_7 <| At.aloadn dX6_spotOf_8 rfl <| At.iloadn dX6_spotOf_9 rfl <| ?_
  obtain ⟨q2, hq2, h⟩ := bnd_e h
  refine At.cV1 (av := [vi p1]) (rest := [vi (w32 (q1 * 20))]) mv_X6_yearOf lk_X6_41 dX6_spotOf_10 rfl rfl ht (Nat.le_of_ble_eq_true rfl) (by decide) ⟨rfl, rfl⟩ (rX6_yearOf ht hq2) <| At.iadd dX6_spotOf_13 <| ?_
  obtain rfl := Option.some.inj h
  exact At.iret rfl (Nat.zero_le _) (Nat.zero_le _) ⟨rfl, rfl⟩ dX6_spotOf_14
def fX11_isSpot (p0 : Int) : Option Bool :=
  if p0 < 0 then (
    some false
  ) else (
    if 120 ≤ p0 then (
      some false
    ) else (
      some true
    )
  )
set_option maxRecDepth 100000 in
set_option maxHeartbeats 4000000 in
theorem rX11_isSpot {G : GG} {p0 : Int} {S : SS} {rr : Bool} (h : fX11_isSpot p0 = some rr) : RD G mX11_isSpot 1 [vi p0] S (some (vi (bI rr))) S := by
  unfold fX11_isSpot at h
  refine Runs.of pl_X11 (Nat.le_of_ble_eq_true rfl) ?_
  show At G mX11_isSpot 1 0 [(0, vi p0)] [] (mm S) 0 0 (EQ (some (vi (bI rr))) S)
  rcases ite_e h with ⟨c2, h⟩ | ⟨c2, h⟩
  · refine At.iloadn dX11_isSpot_0 rfl <| At.if_lt_t (tgt := 14) dX11_isSpot_1 (by decide) c2 <| ?_
    refine At.iconst dX11_isSpot_14 (by decide) <| ?_
    obtain rfl := Option.some.inj h
    exact At.zret (b := false) rfl (Nat.zero_le _) (Nat.zero_le _) ⟨rfl, rfl⟩ dX11_isSpot_15
  · refine At.iloadn dX11_isSpot_0 rfl <| At.if_lt_f (tgt := 14) dX11_isSpot_1 (by decide) c2 <| ?_
    rcases ite_e h with ⟨c1, h⟩ | ⟨c1, h⟩
    · refine At.iloadn dX11_isSpot_4 rfl <| At.bipush dX11_isSpot_5 (by decide) <| At.icmp_ge_t (tgt := 14) dX11_isSpot_7 (by decide) c1 <| ?_
      refine At.iconst dX11_isSpot_14 (by decide) <| ?_
      obtain rfl := Option.some.inj h
      exact At.zret (b := false) rfl (Nat.zero_le _) (Nat.zero_le _) ⟨rfl, rfl⟩ dX11_isSpot_15
    · refine At.iloadn dX11_isSpot_4 rfl <| At.bipush dX11_isSpot_5 (by decide) <| At.icmp_ge_f (tgt := 14) dX11_isSpot_7 (by decide) c1 <| ?_
      refine At.iconst dX11_isSpot_10 (by decide) <| At.goto (tgt := 15) dX11_isSpot_11 (by decide) <| ?_
      obtain rfl := Option.some.inj h
      exact At.zret (b := true) rfl (Nat.zero_le _) (Nat.zero_le _) ⟨rfl, rfl⟩ dX11_isSpot_15
def fX5_sideOf (p1 : Int) (p2 : Int) (p3 : Int) (S : SS) : Option Int :=
  rdA S 3 8 p1 fun v1 =>
  if p2 = v1 then (
    if p3 = 0 then (
      some 0
    ) else (
      if p3 = 2 then (
        some 0
      ) else (
        some ((-1))
      )
    )
  ) else (
    rdA S 4 8 p1 fun v5 =>
    if p2 = v5 then (
      if p3 = 1 then (
        some 1
      ) else (
        if p3 = 2 then (
          some 1
        ) else (
          some ((-1))
        )
      )
    ) else (
      some ((-1))
    )
  )
set_option maxRecDepth 100000 in
set_option maxHeartbeats 4000000 in
theorem rX5_sideOf {G : GG} {p1 : Int} {p2 : Int} {p3 : Int} {S : SS} {rr : Int} (h : fX5_sideOf p1 p2 p3 S = some rr) : RD G mX5_sideOf 1 [vr 30, vi p1, vi p2, vi p3] S (some (vi rr)) S := by
  unfold fX5_sideOf at h
  refine Runs.of pl_X5 (Nat.le_of_ble_eq_true rfl) ?_
  show At G mX5_sideOf 1 0 [(0, vr 30), (1, vi p1), (2, vi p2), (3, vi p3)] [] (mm S) 0 0 (EQ (some (vi rr)) S)
  refine At.iloadn dX5_sideOf_0 rfl <| At.aloadn dX5_sideOf_1 rfl <| At.getR fl_X5_26 sh_30 (le149 sh_30) rf_30_0 dX5_sideOf_2 <| At.getR fl_X5_68 sh_2 (le149 sh_2) rf_2_0 dX5_sideOf_5 <| At.iloadn dX5_sideOf_8 rfl <| ?_
  obtain ⟨v1, hv1, g2, h⟩ := rdA_e h
  rcases ite_e h with ⟨c10, h⟩ | ⟨c10, h⟩
  · refine At.iald sh_3 (le149 sh_3) g2.1 g2.2 dX5_sideOf_9 <| At.nm hv1 <| At.icmp_ne_f (tgt := 28) dX5_sideOf_10 (by decide) c10 <| ?_
    rcases ite_e h with ⟨c4, h⟩ | ⟨c4, h⟩
    · refine At.iloadn dX5_sideOf_13 rfl <| At.if_eq_t (tgt := 22) dX5_sideOf_14 (by decide) c4 <| ?_
      refine At.iconst dX5_sideOf_22 (by decide) <| At.goto (tgt := 27) dX5_sideOf_23 (by decide) <| ?_
      obtain rfl := Option.some.inj h
      exact At.iret rfl (Nat.zero_le _) (Nat.zero_le _) ⟨rfl, rfl⟩ dX5_sideOf_27
    · refine At.iloadn dX5_sideOf_13 rfl <| At.if_eq_f (tgt := 22) dX5_sideOf_14 (by decide) c4 <| ?_
      rcases ite_e h with ⟨c3, h⟩ | ⟨c3, h⟩
      · refine At.iloadn dX5_sideOf_17 rfl <| At.iconst dX5_sideOf_18 (by decide) <| At.icmp_ne_f (tgt := 26) dX5_sideOf_19 (by decide) c3 <| ?_
        refine At.iconst dX5_sideOf_22 (by decide) <| At.goto (tgt := 27) dX5_sideOf_23 (by decide) <| ?_
        obtain rfl := Option.some.inj h
        exact At.iret rfl (Nat.zero_le _) (Nat.zero_le _) ⟨rfl, rfl⟩ dX5_sideOf_27
      · refine At.iloadn dX5_sideOf_17 rfl <| At.iconst dX5_sideOf_18 (by decide) <| At.icmp_ne_t (tgt := 26) dX5_sideOf_19 (by decide) c3 <| ?_
        refine At.iconst dX5_sideOf_26 (by decide) <| ?_
        obtain rfl := Option.some.inj h
        exact At.iret rfl (Nat.zero_le _) (Nat.zero_le _) ⟨rfl, rfl⟩ dX5_sideOf_27
  · refine At.iald sh_3 (le149 sh_3) g2.1 g2.2 dX5_sideOf_9 <| At.nm hv1 <| At.icmp_ne_t (tgt := 28) dX5_sideOf_10 (by decide) c10 <| ?_
    refine At.iloadn dX5_sideOf_28 rfl <| At.aloadn dX5_sideOf_29 rfl <| At.getR fl_X5_26 sh_30 (le149 sh_30) rf_30_0 dX5_sideOf_30 <| At.getR fl_X5_65 sh_2 (le149 sh_2) rf_2_1 dX5_sideOf_33 <| At.iloadn dX5_sideOf_36 rfl <| ?_
    obtain ⟨v5, hv5, g6, h⟩ := rdA_e h
    rcases ite_e h with ⟨c9, h⟩ | ⟨c9, h⟩
    · refine At.iald sh_4 (le149 sh_4) g6.1 g6.2 dX5_sideOf_37 <| At.nm hv5 <| At.icmp_ne_f (tgt := 57) dX5_sideOf_38 (by decide) c9 <| ?_
      rcases ite_e h with ⟨c8, h⟩ | ⟨c8, h⟩
      · refine At.iloadn dX5_sideOf_41 rfl <| At.iconst dX5_sideOf_42 (by decide) <| At.icmp_eq_t (tgt := 51) dX5_sideOf_43 (by decide) c8 <| ?_
        refine At.iconst dX5_sideOf_51 (by decide) <| At.goto (tgt := 56) dX5_sideOf_52 (by decide) <| ?_
        obtain rfl := Option.some.inj h
        exact At.iret rfl (Nat.zero_le _) (Nat.zero_le _) ⟨rfl, rfl⟩ dX5_sideOf_56
      · refine At.iloadn dX5_sideOf_41 rfl <| At.iconst dX5_sideOf_42 (by decide) <| At.icmp_eq_f (tgt := 51) dX5_sideOf_43 (by decide) c8 <| ?_
        rcases ite_e h with ⟨c7, h⟩ | ⟨c7, h⟩
        · refine At.iloadn dX5_sideOf_46 rfl <| At.iconst dX5_sideOf_47 (by decide) <| At.icmp_ne_f (tgt := 55) dX5_sideOf_48 (by decide) c7 <| ?_
          refine At.iconst dX5_sideOf_51 (by decide) <| At.goto (tgt := 56) dX5_sideOf_52 (by decide) <| ?_
          obtain rfl := Option.some.inj h
          exact At.iret rfl (Nat.zero_le _) (Nat.zero_le _) ⟨rfl, rfl⟩ dX5_sideOf_56
        · refine At.iloadn dX5_sideOf_46 rfl <| At.iconst dX5_sideOf_47 (by decide) <| At.icmp_ne_t (tgt := 55) dX5_sideOf_48 (by decide) c7 <| ?_
          refine At.iconst dX5_sideOf_55 (by decide) <| ?_
          obtain rfl := Option.some.inj h
          exact At.iret rfl (Nat.zero_le _) (Nat.zero_le _) ⟨rfl, rfl⟩ dX5_sideOf_56
    · refine At.iald sh_4 (le149 sh_4) g6.1 g6.2 dX5_sideOf_37 <| At.nm hv5 <| At.icmp_ne_t (tgt := 57) dX5_sideOf_38 (by decide) c9 <| ?_
      refine At.iconst dX5_sideOf_57 (by decide) <| ?_
      obtain rfl := Option.some.inj h
      exact At.iret rfl (Nat.zero_le _) (Nat.zero_le _) ⟨rfl, rfl⟩ dX5_sideOf_58
def fX4_setGoing (p1 : Int) (p2 : Int) (p3 : Int) (p4 : Int) (p5 : Int) (p6 : Int) (S : SS) : Option SS :=
  lt (up S 31 6 p1) fun S1 =>
  lt (up S1 31 1 p2) fun S2 =>
  lt (up S2 31 2 p3) fun S3 =>
  lt (up S3 31 4 p4) fun S4 =>
  lt (up S4 31 3 p5) fun S5 =>
  lt (up S5 31 5 p6) fun S6 =>
  some S6
set_option maxRecDepth 100000 in
set_option maxHeartbeats 4000000 in
theorem rX4_setGoing {G : GG} {p1 : Int} {p2 : Int} {p3 : Int} {p4 : Int} {p5 : Int} {p6 : Int} {S : SS} {rr : SS} (h : fX4_setGoing p1 p2 p3 p4 p5 p6 S = some rr) : RD G mX4_setGoing 1 [vr 31, vi p1, vi p2, vi p3, vi p4, vi p5, vi p6] S none rr := by
  unfold fX4_setGoing at h
  refine Runs.of pl_X4 (Nat.le_of_ble_eq_true rfl) ?_
  show At G mX4_setGoing 1 0 [(0, vr 31), (1, vi p1), (2, vi p2), (3, vi p3), (4, vi p4), (5, vi p5), (6, vi p6)] [] (mm S) 0 0 (EQ none rr)
  refine At.aloadn dX4_setGoing_0 rfl <| At.iloadn dX4_setGoing_1 rfl <| ?_
  obtain ⟨S1, hS1, h⟩ := lt_e h
  refine At.putI fw_X4_23 sh_31 (le149 sh_31) dX4_setGoing_2 <| At.nmS hS1 <| At.aloadn dX4_setGoing_5 rfl <| At.iloadn dX4_setGoing_6 rfl <| ?_
  obtain ⟨S2, hS2, h⟩ := lt_e h
  refine At.putI fw_X4_27 sh_31 (le149 sh_31) dX4_setGoing_7 <| At.nmS hS2 <| At.aloadn dX4_setGoing_10 rfl <| At.iloadn dX4_setGoing_11 rfl <| ?_
  obtain ⟨S3, hS3, h⟩ := lt_e h
  refine At.putI fw_X4_30 sh_31 (le149 sh_31) dX4_setGoing_12 <| At.nmS hS3 <| At.aloadn dX4_setGoing_15 rfl <| At.iload dX4_setGoing_16 rfl <| ?_
  obtain ⟨S4, hS4, h⟩ := lt_e h
  refine At.putI fw_X4_33 sh_31 (le149 sh_31) dX4_setGoing_18 <| At.nmS hS4 <| At.aloadn dX4_setGoing_21 rfl <| At.iload dX4_setGoing_22 rfl <| ?_
  obtain ⟨S5, hS5, h⟩ := lt_e h
  refine At.putI fw_X4_36 sh_31 (le149 sh_31) dX4_setGoing_24 <| At.nmS hS5 <| At.aloadn dX4_setGoing_27 rfl <| At.iload dX4_setGoing_28 rfl <| ?_
  obtain ⟨S6, hS6, h⟩ := lt_e h
  refine At.putI fw_X4_39 sh_31 (le149 sh_31) dX4_setGoing_30 <| At.nmS hS6 <| ?_
  obtain rfl := Option.some.inj h
  exact At.vret rfl (Nat.zero_le _) (Nat.zero_le _) ⟨rfl, rfl⟩ dX4_setGoing_33
def fX4_joined (p0 : Int) (p1 : Int) (p2 : Int) : Option Int :=
  if p0 = 60 then (
    if p2 ≤ p1 then (
      some 0
    ) else (
      some 1
    )
  ) else (
    if p0 = 61 then (
      if p1 = p2 then (
        some 1
      ) else (
        some 0
      )
    ) else (
      if p0 = 62 then (
        if p1 ≤ p2 then (
          some 0
        ) else (
          some 1
        )
      ) else (
        if p0 = 1016 then (
          some (jand p1 p2)
        ) else (
          if p0 = 1017 then (
            some (jor p1 p2)
          ) else (
            lt (w64 (p1 * p2)) fun x9 =>
            Option.bind (
              if p0 = 42 then (
                some x9
              ) else (
                Option.bind (
                  if p0 = 43 then (
                    some (w32 (p1 + p2))
                  ) else (
                    some (w32 (p1 - p2))
                  )
                  : Option (Int)) fun q11 =>
                some q11
              )
              : Option (Int)) fun q10 =>
            if (lc q10 1000000) ≤ 0 then (
              if 0 ≤ (lc q10 ((-1000000))) then (
                some (w32 q10)
              ) else (
                some ((-1000000))
              )
            ) else (
              some 1000000
            )
          )
        )
      )
    )
  )
set_option maxRecDepth 100000 in
set_option maxHeartbeats 4000000 in
theorem rX4_joined {G : GG} {p0 : Int} {p1 : Int} {p2 : Int} {S : SS} {rr : Int} (h : fX4_joined p0 p1 p2 = some rr) : RD G mX4_joined 1 [vi p0, vi p1, vi p2] S (some (vi rr)) S := by
  unfold fX4_joined at h
  refine Runs.of pl_X4 (Nat.le_of_ble_eq_true rfl) ?_
  show At G mX4_joined 1 0 [(0, vi p0), (1, vi p1), (2, vi p2)] [] (mm S) 0 0 (EQ (some (vi rr)) S)
  rcases ite_e h with ⟨c1, h⟩ | ⟨c1, h⟩
  · refine At.iloadn dX4_joined_0 rfl <| At.lsw (off := 62) (tgt := 63) dX4_joined_1 (by decide) (by rw [c1] <;> rfl) (by decide) <| ?_
    rcases ite_e h with ⟨c2, h⟩ | ⟨c2, h⟩
    · refine At.iloadn dX4_joined_63 rfl <| At.iloadn dX4_joined_64 rfl <| At.icmp_ge_t (tgt := 72) dX4_joined_65 (by decide) c2 <| ?_
      refine At.iconst dX4_joined_72 (by decide) <| ?_
      obtain rfl := Option.some.inj h
      exact At.iret rfl (Nat.zero_le _) (Nat.zero_le _) ⟨rfl, rfl⟩ dX4_joined_73
    · refine At.iloadn dX4_joined_63 rfl <| At.iloadn dX4_joined_64 rfl <| At.icmp_ge_f (tgt := 72) dX4_joined_65 (by decide) c2 <| ?_
      refine At.iconst dX4_joined_68 (by decide) <| At.goto (tgt := 73) dX4_joined_69 (by decide) <| ?_
      obtain rfl := Option.some.inj h
      exact At.iret rfl (Nat.zero_le _) (Nat.zero_le _) ⟨rfl, rfl⟩ dX4_joined_73
  · rcases ite_e h with ⟨c3, h⟩ | ⟨c3, h⟩
    · refine At.iloadn dX4_joined_0 rfl <| At.lsw (off := 51) (tgt := 52) dX4_joined_1 (by decide) (by rw [c3] <;> rfl) (by decide) <| ?_
      rcases ite_e h with ⟨c4, h⟩ | ⟨c4, h⟩
      · refine At.iloadn dX4_joined_52 rfl <| At.iloadn dX4_joined_53 rfl <| At.icmp_ne_f (tgt := 61) dX4_joined_54 (by decide) c4 <| ?_
        refine At.iconst dX4_joined_57 (by decide) <| At.goto (tgt := 62) dX4_joined_58 (by decide) <| ?_
        obtain rfl := Option.some.inj h
        exact At.iret rfl (Nat.zero_le _) (Nat.zero_le _) ⟨rfl, rfl⟩ dX4_joined_62
      · refine At.iloadn dX4_joined_52 rfl <| At.iloadn dX4_joined_53 rfl <| At.icmp_ne_t (tgt := 61) dX4_joined_54 (by decide) c4 <| ?_
        refine At.iconst dX4_joined_61 (by decide) <| ?_
        obtain rfl := Option.some.inj h
        exact At.iret rfl (Nat.zero_le _) (Nat.zero_le _) ⟨rfl, rfl⟩ dX4_joined_62
    · rcases ite_e h with ⟨c5, h⟩ | ⟨c5, h⟩
      · refine At.iloadn dX4_joined_0 rfl <| At.lsw (off := 73) (tgt := 74) dX4_joined_1 (by decide) (by rw [c5] <;> rfl) (by decide) <| ?_
        rcases ite_e h with ⟨c6, h⟩ | ⟨c6, h⟩
        · refine At.iloadn dX4_joined_74 rfl <| At.iloadn dX4_joined_75 rfl <| At.icmp_le_t (tgt := 83) dX4_joined_76 (by decide) c6 <| ?_
          refine At.iconst dX4_joined_83 (by decide) <| ?_
          obtain rfl := Option.some.inj h
          exact At.iret rfl (Nat.zero_le _) (Nat.zero_le _) ⟨rfl, rfl⟩ dX4_joined_84
        · refine At.iloadn dX4_joined_74 rfl <| At.iloadn dX4_joined_75 rfl <| At.icmp_le_f (tgt := 83) dX4_joined_76 (by decide) c6 <| ?_
          refine At.iconst dX4_joined_79 (by decide) <| At.goto (tgt := 84) dX4_joined_80 (by decide) <| ?_
          obtain rfl := Option.some.inj h
          exact At.iret rfl (Nat.zero_le _) (Nat.zero_le _) ⟨rfl, rfl⟩ dX4_joined_84
      · rcases ite_e h with ⟨c7, h⟩ | ⟨c7, h⟩
        · refine At.iloadn dX4_joined_0 rfl <| At.lsw (off := 84) (tgt := 85) dX4_joined_1 (by decide) (by rw [c7] <;> rfl) (by decide) <| ?_
          refine At.iloadn dX4_joined_85 rfl <| At.iloadn dX4_joined_86 rfl <| At.iand dX4_joined_87 <| ?_
          obtain rfl := Option.some.inj h
          exact At.iret rfl (Nat.zero_le _) (Nat.zero_le _) ⟨rfl, rfl⟩ dX4_joined_88
        · rcases ite_e h with ⟨c8, h⟩ | ⟨c8, h⟩
          · refine At.iloadn dX4_joined_0 rfl <| At.lsw (off := 88) (tgt := 89) dX4_joined_1 (by decide) (by rw [c8] <;> rfl) (by decide) <| ?_
            refine At.iloadn dX4_joined_89 rfl <| At.iloadn dX4_joined_90 rfl <| At.ior dX4_joined_91 <| ?_
            obtain rfl := Option.some.inj h
            exact At.iret rfl (Nat.zero_le _) (Nat.zero_le _) ⟨rfl, rfl⟩ dX4_joined_92
          · refine At.iloadn dX4_joined_0 rfl <| At.lsw (off := 92) (tgt := 93) dX4_joined_1 (by decide) (by simp [Op.lookupswitch.offset, Ne.symm c1, Ne.symm c3, Ne.symm c5, Ne.symm c7, Ne.symm c8]) (by decide) <| ?_
            refine At.iloadn dX4_joined_93 rfl <| At.i2l dX4_joined_94 <| At.iloadn dX4_joined_95 rfl <| At.i2l dX4_joined_96 <| At.lmul dX4_joined_97 <| ?_
            obtain ⟨x9, hx9, h⟩ := lt_e h
            obtain ⟨q10, hj123, h⟩ := bnd_e h
            have K123 : At G mX4_joined 1 123 [(3, vl q10)] [] (mm S) 0 0 (EQ (some (vi rr)) S) := by
              rcases ite_e h with ⟨c15, h⟩ | ⟨c15, h⟩
              · refine At.lloadn dX4_joined_123 rfl <| At.ldc2 dX4_joined_124 kl_X4_42 (by decide) <| At.lcmp dX4_joined_127 <| At.if_le_t (tgt := 134) dX4_joined_128 (by decide) c15 <| ?_
                rcases ite_e h with ⟨c14, h⟩ | ⟨c14, h⟩
                · refine At.lloadn dX4_joined_134 rfl <| At.ldc2 dX4_joined_135 kl_X4_45 (by decide) <| At.lcmp dX4_joined_138 <| At.if_ge_t (tgt := 147) dX4_joined_139 (by decide) c14 <| ?_
                  refine At.lloadn dX4_joined_147 rfl <| At.l2i dX4_joined_148 <| ?_
                  obtain rfl := Option.some.inj h
                  exact At.iret rfl (Nat.zero_le _) (Nat.zero_le _) ⟨rfl, rfl⟩ dX4_joined_149
                · refine At.lloadn dX4_joined_134 rfl <| At.ldc2 dX4_joined_135 kl_X4_45 (by decide) <| At.lcmp dX4_joined_138 <| At.if_ge_f (tgt := 147) dX4_joined_139 (by decide) c14 <| ?_
                  refine At.ldc dX4_joined_142 ki_X4_47 (by decide) <| At.goto (tgt := 149) dX4_joined_144 (by decide) <| ?_
                  obtain rfl := Option.some.inj h
                  exact At.iret rfl (Nat.zero_le _) (Nat.zero_le _) ⟨rfl, rfl⟩ dX4_joined_149
              · refine At.lloadn dX4_joined_123 rfl <| At.ldc2 dX4_joined_124 kl_X4_42 (by decide) <| At.lcmp dX4_joined_127 <| At.if_le_f (tgt := 134) dX4_joined_128 (by decide) c15 <| ?_
                refine At.ldc dX4_joined_131 ki_X4_44 (by decide) <| ?_
                obtain rfl := Option.some.inj h
                exact At.iret rfl (Nat.zero_le _) (Nat.zero_le _) ⟨rfl, rfl⟩ dX4_joined_133
            clear h; have h := hj123; clear hj123
            rcases ite_e h with ⟨c13, h⟩ | ⟨c13, h⟩
            · refine At.nml hx9 <| At.lstoren (ls' := [(3, vl x9), (0, vi p0), (1, vi p1), (2, vi p2)]) dX4_joined_98 (by decide) rfl <| At.iloadn dX4_joined_99 rfl <| At.bipush dX4_joined_100 (by decide) <| At.icmp_eq_t (tgt := 123) dX4_joined_102 (by decide) c13 <| ?_
              obtain rfl := Option.some.inj h
              exact At.sub [0] rfl K123
            · refine At.nml hx9 <| At.lstoren (ls' := [(3, vl x9), (0, vi p0), (1, vi p1), (2, vi p2)]) dX4_joined_98 (by decide) rfl <| At.iloadn dX4_joined_99 rfl <| At.bipush dX4_joined_100 (by decide) <| At.icmp_eq_f (tgt := 123) dX4_joined_102 (by decide) c13 <| ?_
              obtain ⟨q11, hj122, h⟩ := bnd_e h
              have K122 : At G mX4_joined 1 122 [] [vl q11] (mm S) 0 0 (EQ (some (vi rr)) S) := by
                refine At.lstoren (ls' := [(3, vl q11)]) dX4_joined_122 (by decide) rfl <| ?_
                obtain rfl := Option.some.inj h
                exact At.sub [0] rfl K123
              clear h; have h := hj122; clear hj122
              rcases ite_e h with ⟨c12, h⟩ | ⟨c12, h⟩
              · refine At.iloadn dX4_joined_105 rfl <| At.bipush dX4_joined_106 (by decide) <| At.icmp_ne_f (tgt := 118) dX4_joined_108 (by decide) c12 <| ?_
                refine At.iloadn dX4_joined_111 rfl <| At.iloadn dX4_joined_112 rfl <| At.iadd dX4_joined_113 <| At.i2l dX4_joined_114 <| At.goto (tgt := 122) dX4_joined_115 (by decide) <| ?_
                obtain rfl := Option.some.inj h
                exact At.sub [] rfl K122
              · refine At.iloadn dX4_joined_105 rfl <| At.bipush dX4_joined_106 (by decide) <| At.icmp_ne_t (tgt := 118) dX4_joined_108 (by decide) c12 <| ?_
                refine At.iloadn dX4_joined_118 rfl <| At.iloadn dX4_joined_119 rfl <| At.isub dX4_joined_120 <| At.i2l dX4_joined_121 <| ?_
                obtain rfl := Option.some.inj h
                exact At.sub [] rfl K122
def fX4_meaning (p1 : Int) (S : SS) : Option Int :=
  if p1 = 1001 then (
    some (S 31 1)
  ) else (
    if p1 = 1003 then (
      some (S 31 3)
    ) else (
      if p1 = 1004 then (
        some (S 31 5)
      ) else (
        if p1 = 1007 then (
          some (S 31 2)
        ) else (
          if p1 = 1014 then (
            some (S 31 4)
          ) else (
            some (S 31 6)
          )
        )
      )
    )
  )
set_option maxRecDepth 100000 in
set_option maxHeartbeats 4000000 in
theorem rX4_meaning {G : GG} {p1 : Int} {S : SS} {rr : Int} (h : fX4_meaning p1 S = some rr) : RD G mX4_meaning 1 [vr 31, vi p1] S (some (vi rr)) S := by
  unfold fX4_meaning at h
  refine Runs.of pl_X4 (Nat.le_of_ble_eq_true rfl) ?_
  show At G mX4_meaning 1 0 [(0, vr 31), (1, vi p1)] [] (mm S) 0 0 (EQ (some (vi rr)) S)
  rcases ite_e h with ⟨c1, h⟩ | ⟨c1, h⟩
  · refine At.iloadn dX4_meaning_0 rfl <| At.tsIn (off := 71) (tgt := 72) dX4_meaning_1 (by omega) (by omega) (by rw [c1] <;> rfl) (by decide) <| ?_
    refine At.aloadn dX4_meaning_72 rfl <| At.getI fl_X4_27 sh_31 (le149 sh_31) dX4_meaning_73 <| ?_
    obtain rfl := Option.some.inj h
    exact At.iret rfl (Nat.zero_le _) (Nat.zero_le _) ⟨rfl, rfl⟩ dX4_meaning_76
  · rcases ite_e h with ⟨c2, h⟩ | ⟨c2, h⟩
    · refine At.iloadn dX4_meaning_0 rfl <| At.tsIn (off := 81) (tgt := 82) dX4_meaning_1 (by omega) (by omega) (by rw [c2] <;> rfl) (by decide) <| ?_
      refine At.aloadn dX4_meaning_82 rfl <| At.getI fl_X4_36 sh_31 (le149 sh_31) dX4_meaning_83 <| ?_
      obtain rfl := Option.some.inj h
      exact At.iret rfl (Nat.zero_le _) (Nat.zero_le _) ⟨rfl, rfl⟩ dX4_meaning_86
    · rcases ite_e h with ⟨c3, h⟩ | ⟨c3, h⟩
      · refine At.iloadn dX4_meaning_0 rfl <| At.tsIn (off := 91) (tgt := 92) dX4_meaning_1 (by omega) (by omega) (by rw [c3] <;> rfl) (by decide) <| ?_
        refine At.aloadn dX4_meaning_92 rfl <| At.getI fl_X4_39 sh_31 (le149 sh_31) dX4_meaning_93 <| ?_
        obtain rfl := Option.some.inj h
        exact At.iret rfl (Nat.zero_le _) (Nat.zero_le _) ⟨rfl, rfl⟩ dX4_meaning_96
      · rcases ite_e h with ⟨c4, h⟩ | ⟨c4, h⟩
        · refine At.iloadn dX4_meaning_0 rfl <| At.tsIn (off := 76) (tgt := 77) dX4_meaning_1 (by omega) (by omega) (by rw [c4] <;> rfl) (by decide) <| ?_
          refine At.aloadn dX4_meaning_77 rfl <| At.getI fl_X4_30 sh_31 (le149 sh_31) dX4_meaning_78 <| ?_
          obtain rfl := Option.some.inj h
          exact At.iret rfl (Nat.zero_le _) (Nat.zero_le _) ⟨rfl, rfl⟩ dX4_meaning_81
        · rcases ite_e h with ⟨c5, h⟩ | ⟨c5, h⟩
          · refine At.iloadn dX4_meaning_0 rfl <| At.tsIn (off := 86) (tgt := 87) dX4_meaning_1 (by omega) (by omega) (by rw [c5] <;> rfl) (by decide) <| ?_
            refine At.aloadn dX4_meaning_87 rfl <| At.getI fl_X4_33 sh_31 (le149 sh_31) dX4_meaning_88 <| ?_
            obtain rfl := Option.some.inj h
            exact At.iret rfl (Nat.zero_le _) (Nat.zero_le _) ⟨rfl, rfl⟩ dX4_meaning_91
          · rcases (show (p1 < 1001 ∨ 1014 < p1) ∨ p1 = 1002 ∨ p1 = 1005 ∨ p1 = 1006 ∨ p1 = 1008 ∨ p1 = 1009 ∨ p1 = 1010 ∨ p1 = 1011 ∨ p1 = 1012 ∨ p1 = 1013 by omega) with hz | hz | hz | hz | hz | hz | hz | hz | hz | hz
            · refine At.iloadn dX4_meaning_0 rfl <| At.tsOut (tgt := 97) dX4_meaning_1 hz (by decide) <| ?_
              refine At.aloadn dX4_meaning_97 rfl <| At.getI fl_X4_23 sh_31 (le149 sh_31) dX4_meaning_98 <| ?_
              obtain rfl := Option.some.inj h
              exact At.iret rfl (Nat.zero_le _) (Nat.zero_le _) ⟨rfl, rfl⟩ dX4_meaning_101
            · refine At.iloadn dX4_meaning_0 rfl <| At.tsIn (off := 96) (tgt := 97) dX4_meaning_1 (by omega) (by omega) (by rw [hz] <;> rfl) (by decide) <| ?_
              refine At.aloadn dX4_meaning_97 rfl <| At.getI fl_X4_23 sh_31 (le149 sh_31) dX4_meaning_98 <| ?_
              obtain rfl := Option.some.inj h
              exact At.iret rfl (Nat.zero_le _) (Nat.zero_le _) ⟨rfl, rfl⟩ dX4_meaning_101
            · refine At.iloadn dX4_meaning_0 rfl <| At.tsIn (off := 96) (tgt := 97) dX4_meaning_1 (by omega) (by omega) (by rw [hz] <;> rfl) (by decide) <| ?_
              refine At.aloadn dX4_meaning_97 rfl <| At.getI fl_X4_23 sh_31 (le149 sh_31) dX4_meaning_98 <| ?_
              obtain rfl := Option.some.inj h
              exact At.iret rfl (Nat.zero_le _) (Nat.zero_le _) ⟨rfl, rfl⟩ dX4_meaning_101
            · refine At.iloadn dX4_meaning_0 rfl <| At.tsIn (off := 96) (tgt := 97) dX4_meaning_1 (by omega) (by omega) (by rw [hz] <;> rfl) (by decide) <| ?_
              refine At.aloadn dX4_meaning_97 rfl <| At.getI fl_X4_23 sh_31 (le149 sh_31) dX4_meaning_98 <| ?_
              obtain rfl := Option.some.inj h
              exact At.iret rfl (Nat.zero_le _) (Nat.zero_le _) ⟨rfl, rfl⟩ dX4_meaning_101
            · refine At.iloadn dX4_meaning_0 rfl <| At.tsIn (off := 96) (tgt := 97) dX4_meaning_1 (by omega) (by omega) (by rw [hz] <;> rfl) (by decide) <| ?_
              refine At.aloadn dX4_meaning_97 rfl <| At.getI fl_X4_23 sh_31 (le149 sh_31) dX4_meaning_98 <| ?_
              obtain rfl := Option.some.inj h
              exact At.iret rfl (Nat.zero_le _) (Nat.zero_le _) ⟨rfl, rfl⟩ dX4_meaning_101
            · refine At.iloadn dX4_meaning_0 rfl <| At.tsIn (off := 96) (tgt := 97) dX4_meaning_1 (by omega) (by omega) (by rw [hz] <;> rfl) (by decide) <| ?_
              refine At.aloadn dX4_meaning_97 rfl <| At.getI fl_X4_23 sh_31 (le149 sh_31) dX4_meaning_98 <| ?_
              obtain rfl := Option.some.inj h
              exact At.iret rfl (Nat.zero_le _) (Nat.zero_le _) ⟨rfl, rfl⟩ dX4_meaning_101
            · refine At.iloadn dX4_meaning_0 rfl <| At.tsIn (off := 96) (tgt := 97) dX4_meaning_1 (by omega) (by omega) (by rw [hz] <;> rfl) (by decide) <| ?_
              refine At.aloadn dX4_meaning_97 rfl <| At.getI fl_X4_23 sh_31 (le149 sh_31) dX4_meaning_98 <| ?_
              obtain rfl := Option.some.inj h
              exact At.iret rfl (Nat.zero_le _) (Nat.zero_le _) ⟨rfl, rfl⟩ dX4_meaning_101
            · refine At.iloadn dX4_meaning_0 rfl <| At.tsIn (off := 96) (tgt := 97) dX4_meaning_1 (by omega) (by omega) (by rw [hz] <;> rfl) (by decide) <| ?_
              refine At.aloadn dX4_meaning_97 rfl <| At.getI fl_X4_23 sh_31 (le149 sh_31) dX4_meaning_98 <| ?_
              obtain rfl := Option.some.inj h
              exact At.iret rfl (Nat.zero_le _) (Nat.zero_le _) ⟨rfl, rfl⟩ dX4_meaning_101
            · refine At.iloadn dX4_meaning_0 rfl <| At.tsIn (off := 96) (tgt := 97) dX4_meaning_1 (by omega) (by omega) (by rw [hz] <;> rfl) (by decide) <| ?_
              refine At.aloadn dX4_meaning_97 rfl <| At.getI fl_X4_23 sh_31 (le149 sh_31) dX4_meaning_98 <| ?_
              obtain rfl := Option.some.inj h
              exact At.iret rfl (Nat.zero_le _) (Nat.zero_le _) ⟨rfl, rfl⟩ dX4_meaning_101
            · refine At.iloadn dX4_meaning_0 rfl <| At.tsIn (off := 96) (tgt := 97) dX4_meaning_1 (by omega) (by omega) (by rw [hz] <;> rfl) (by decide) <| ?_
              refine At.aloadn dX4_meaning_97 rfl <| At.getI fl_X4_23 sh_31 (le149 sh_31) dX4_meaning_98 <| ?_
              obtain rfl := Option.some.inj h
              exact At.iret rfl (Nat.zero_le _) (Nat.zero_le _) ⟨rfl, rfl⟩ dX4_meaning_101
def fX4_valueOf_900_L6 (l1 : Nat) (l3 : Int) : Nat → Int → Int → SS → Option (Int × SS)
  | 0, _, _, _ => none
  | n + 1, l4, l5, S =>
    if l3 ≤ l5 then (
      some (l4, S)
    ) else (
      if l5 < 0 then (
        some (l4, S)
      ) else (
        if 900 ≤ l5 then (
          some (l4, S)
        ) else (
          rdA S l1 900 l5 fun v1 =>
          Option.bind (
            if 2000 ≤ v1 then (
              if v1 = 3015 then (
                if l4 < 1 then (
                  some (l4, S)
                ) else (
                  rdA S 32 64 (w32 (l4 - 1)) fun v4 =>
                  wrA S 32 64 (w32 (l4 - 1)) (w32 (1 - v4)) fun S6 =>
                  some (l4, S6)
                )
              ) else (
                if v1 = 3010 then (
                  if l4 < 3 then (
                    some (l4, S)
                  ) else (
                    rdA S 32 64 (w32 (l4 - 3)) fun v9 =>
                    Option.bind (
                      if v9 = 0 then (
                        rdA S 32 64 (w32 (l4 - 1)) fun v12 =>
                        some v12
                      ) else (
                        rdA S 32 64 (w32 (l4 - 2)) fun v14 =>
                        some v14
                      )
                      : Option (Int)) fun q11 =>
                    wrA S 32 64 (w32 (l4 - 3)) q11 fun S17 =>
                    lt (w32 (l4 + (-2))) fun x19 =>
                    some (x19, S17)
                  )
                ) else (
                  if l4 < 2 then (
                    some (l4, S)
                  ) else (
                    rdA S 32 64 (w32 (l4 - 2)) fun v21 =>
                    rdA S 32 64 (w32 (l4 - 1)) fun v23 =>
                    Option.bind (fX4_joined (w32 (v1 - 2000)) v21 v23) fun q25 =>
                    wrA S 32 64 (w32 (l4 - 2)) q25 fun S26 =>
                    lt (w32 (l4 + (-1))) fun x28 =>
                    some (x28, S26)
                  )
                )
              )
            ) else (
              if 64 ≤ l4 then (
                some (l4, S)
              ) else (
                Option.bind (
                  if 1000 ≤ v1 then (
                    Option.bind (fX4_meaning v1 S) fun q33 =>
                    some q33
                  ) else (
                    some v1
                  )
                  : Option (Int)) fun q32 =>
                wrA S 32 64 l4 q32 fun S35 =>
                lt (w32 (l4 + 1)) fun x37 =>
                some (x37, S35)
              )
            )
            : Option (Int × SS)) fun q3 =>
          lt (w32 (l5 + 1)) fun x40 =>
          fX4_valueOf_900_L6 l1 l3 n q3.1 x40 q3.2
        )
      )
    )
def fX4_valueOf_900 (p1 : Nat) (p2 : Int) (p3 : Int) (S : SS) : Option (Int × SS) :=
  Option.bind (fX4_valueOf_900_L6 p1 p3 FU 0 p2 S) fun q1 =>
  if q1.1 ≤ 0 then (
    some (0, q1.2)
  ) else (
    rdA q1.2 32 64 0 fun v3 =>
    some (v3, q1.2)
  )
set_option maxRecDepth 100000 in
set_option maxHeartbeats 4000000 in
theorem lX4_valueOf_900_L6 {G : GG} {Φ : Option VV → MM → Prop} {l1 : Nat} {l3 : Int} (hl1 : sh l1 = (20, 900)) : ∀ (n : Nat) (l4 : Int) (l5 : Int) (S : SS) (q : Int × SS), fX4_valueOf_900_L6 l1 l3 n l4 l5 S = some q → At G mX4_valueOf 2 230 [(0, vr 31), (4, vi q.1)] [] (mm q.2) 0 0 Φ → At G mX4_valueOf 2 6 [(0, vr 31), (1, vr l1), (3, vi l3), (4, vi l4), (5, vi l5)] [] (mm S) 0 0 Φ := by
  intro n
  induction n with
  | zero =>
    intro _ _ _ _ h
    cases h
  | succ n ih =>
    intro l4 l5 S q h K230
    unfold fX4_valueOf_900_L6 at h
    rcases ite_e h with ⟨c43, h⟩ | ⟨c43, h⟩
    · refine At.iload dX4_valueOf_6 rfl <| At.iloadn dX4_valueOf_8 rfl <| At.icmp_ge_t (tgt := 230) dX4_valueOf_9 (by decide) c43 <| ?_
      obtain rfl := Option.some.inj h
      exact At.sub [0, 3] rfl K230
    · refine At.iload dX4_valueOf_6 rfl <| At.iloadn dX4_valueOf_8 rfl <| At.icmp_ge_f (tgt := 230) dX4_valueOf_9 (by decide) c43 <| ?_
      rcases ite_e h with ⟨c42, h⟩ | ⟨c42, h⟩
      · refine At.iload dX4_valueOf_12 rfl <| At.if_lt_t (tgt := 230) dX4_valueOf_14 (by decide) c42 <| ?_
        obtain rfl := Option.some.inj h
        exact At.sub [0, 3] rfl K230
      · refine At.iload dX4_valueOf_12 rfl <| At.if_lt_f (tgt := 230) dX4_valueOf_14 (by decide) c42 <| ?_
        rcases ite_e h with ⟨c41, h⟩ | ⟨c41, h⟩
        · refine At.iload dX4_valueOf_17 rfl <| At.aloadn dX4_valueOf_19 rfl <| At.alenI hl1 (le149 hl1) (by decide) (z := 900) rfl dX4_valueOf_20 <| At.icmp_ge_t (tgt := 230) dX4_valueOf_21 (by decide) c41 <| ?_
          obtain rfl := Option.some.inj h
          exact At.sub [0, 3] rfl K230
        · refine At.iload dX4_valueOf_17 rfl <| At.aloadn dX4_valueOf_19 rfl <| At.alenI hl1 (le149 hl1) (by decide) (z := 900) rfl dX4_valueOf_20 <| At.icmp_ge_f (tgt := 230) dX4_valueOf_21 (by decide) c41 <| ?_
          refine At.aloadn dX4_valueOf_24 rfl <| At.iload dX4_valueOf_25 rfl <| ?_
          obtain ⟨v1, hv1, g2, h⟩ := rdA_e h
          obtain ⟨q3, hj224, h⟩ := bnd_e h
          have K224 : At G mX4_valueOf 2 224 [(0, vr 31), (1, vr l1), (3, vi l3), (4, vi q3.1), (5, vi l5)] [] (mm q3.2) 0 0 Φ := by
            obtain ⟨x40, hx40, h⟩ := lt_e h
            refine At.iinc (ls' := [(5, vi x40), (0, vr 31), (1, vr l1), (3, vi l3), (4, vi q3.1)]) dX4_valueOf_224 rfl (by decide) (by rw [hx40]; rfl) <| At.goto (tgt := 6) dX4_valueOf_227 (by decide) <| ?_
            exact At.sub [1, 2, 3, 4, 0] rfl (ih _ _ _ _ h K230)
          clear h; have h := hj224; clear hj224
          rcases ite_e h with ⟨c39, h⟩ | ⟨c39, h⟩
          · refine At.iald hl1 (le149 hl1) g2.1 g2.2 dX4_valueOf_27 <| At.nm hv1 <| At.istore (ls' := [(6, vi v1), (0, vr 31), (1, vr l1), (3, vi l3), (4, vi l4), (5, vi l5)]) dX4_valueOf_28 (by decide) rfl <| At.iload dX4_valueOf_30 rfl <| At.sipush dX4_valueOf_32 (by decide) <| At.icmp_ge_t (tgt := 80) dX4_valueOf_35 (by decide) c39 <| ?_
            rcases ite_e h with ⟨c31, h⟩ | ⟨c31, h⟩
            · refine At.iload dX4_valueOf_80 rfl <| At.sipush dX4_valueOf_82 (by decide) <| At.icmp_ne_f (tgt := 117) dX4_valueOf_85 (by decide) c31 <| ?_
              rcases ite_e h with ⟨c8, h⟩ | ⟨c8, h⟩
              · refine At.iload dX4_valueOf_88 rfl <| At.iconst dX4_valueOf_90 (by decide) <| At.icmp_lt_t (tgt := 224) dX4_valueOf_91 (by decide) c8 <| ?_
                obtain rfl := Option.some.inj h
                exact At.sub [1, 2, 3, 4, 5] rfl K224
              · refine At.iload dX4_valueOf_88 rfl <| At.iconst dX4_valueOf_90 (by decide) <| At.icmp_lt_f (tgt := 224) dX4_valueOf_91 (by decide) c8 <| ?_
                refine At.aloadn dX4_valueOf_94 rfl <| At.getR fl_X4_9 sh_31 (le149 sh_31) rf_31_0 dX4_valueOf_95 <| At.iload dX4_valueOf_98 rfl <| At.iconst dX4_valueOf_100 (by decide) <| At.isub dX4_valueOf_101 <| At.iconst dX4_valueOf_102 (by decide) <| At.aloadn dX4_valueOf_103 rfl <| At.getR fl_X4_9 sh_31 (le149 sh_31) rf_31_0 dX4_valueOf_104 <| At.iload dX4_valueOf_107 rfl <| At.iconst dX4_valueOf_109 (by decide) <| At.isub dX4_valueOf_110 <| ?_
                obtain ⟨v4, hv4, g5, h⟩ := rdA_e h
                refine At.iald sh_32 (le149 sh_32) g5.1 g5.2 dX4_valueOf_111 <| At.nm hv4 <| At.isub dX4_valueOf_112 <| ?_
                obtain ⟨S6, hS6, g7, h⟩ := wrA_e h
                refine At.iast sh_32 (le149 sh_32) g7.1 g7.2 dX4_valueOf_113 <| At.nmS hS6 <| At.goto (tgt := 224) dX4_valueOf_114 (by decide) <| ?_
                obtain rfl := Option.some.inj h
                exact At.sub [1, 2, 3, 4, 5] rfl K224
            · refine At.iload dX4_valueOf_80 rfl <| At.sipush dX4_valueOf_82 (by decide) <| At.icmp_ne_t (tgt := 117) dX4_valueOf_85 (by decide) c31 <| ?_
              rcases ite_e h with ⟨c30, h⟩ | ⟨c30, h⟩
              · refine At.iload dX4_valueOf_117 rfl <| At.sipush dX4_valueOf_119 (by decide) <| At.icmp_ne_f (tgt := 179) dX4_valueOf_122 (by decide) c30 <| ?_
                rcases ite_e h with ⟨c20, h⟩ | ⟨c20, h⟩
                · refine At.iload dX4_valueOf_125 rfl <| At.iconst dX4_valueOf_127 (by decide) <| At.icmp_lt_t (tgt := 224) dX4_valueOf_128 (by decide) c20 <| ?_
                  obtain rfl := Option.some.inj h
                  exact At.sub [1, 2, 3, 4, 5] rfl K224
                · refine At.iload dX4_valueOf_125 rfl <| At.iconst dX4_valueOf_127 (by decide) <| At.icmp_lt_f (tgt := 224) dX4_valueOf_128 (by decide) c20 <| ?_
                  refine At.aloadn dX4_valueOf_131 rfl <| At.getR fl_X4_9 sh_31 (le149 sh_31) rf_31_0 dX4_valueOf_132 <| At.iload dX4_valueOf_135 rfl <| At.iconst dX4_valueOf_137 (by decide) <| At.isub dX4_valueOf_138 <| At.aloadn dX4_valueOf_139 rfl <| At.getR fl_X4_9 sh_31 (le149 sh_31) rf_31_0 dX4_valueOf_140 <| At.iload dX4_valueOf_143 rfl <| At.iconst dX4_valueOf_145 (by decide) <| At.isub dX4_valueOf_146 <| ?_
                  obtain ⟨v9, hv9, g10, h⟩ := rdA_e h
                  obtain ⟨q11, hj172, h⟩ := bnd_e h
                  have K172 : At G mX4_valueOf 2 172 [(0, vr 31), (1, vr l1), (3, vi l3), (4, vi l4), (5, vi l5)] [vi q11, vi (w32 (l4 - 3)), vr 32] (mm S) 0 0 Φ := by
                    obtain ⟨S17, hS17, g18, h⟩ := wrA_e h
                    refine At.iast sh_32 (le149 sh_32) g18.1 g18.2 dX4_valueOf_172 <| At.nmS hS17 <| ?_
                    obtain ⟨x19, hx19, h⟩ := lt_e h
                    refine At.iinc (ls' := [(4, vi x19), (0, vr 31), (1, vr l1), (3, vi l3), (5, vi l5)]) dX4_valueOf_173 rfl (by decide) (by rw [hx19]; rfl) <| At.goto (tgt := 224) dX4_valueOf_176 (by decide) <| ?_
                    obtain rfl := Option.some.inj h
                    exact At.sub [1, 2, 3, 0, 4] rfl K224
                  clear h; have h := hj172; clear hj172
                  rcases ite_e h with ⟨c16, h⟩ | ⟨c16, h⟩
                  · refine At.iald sh_32 (le149 sh_32) g10.1 g10.2 dX4_valueOf_147 <| At.nm hv9 <| At.if_ne_f (tgt := 163) dX4_valueOf_148 (by decide) c16 <| ?_
                    refine At.aloadn dX4_valueOf_151 rfl <| At.getR fl_X4_9 sh_31 (le149 sh_31) rf_31_0 dX4_valueOf_152 <| At.iload dX4_valueOf_155 rfl <| At.iconst dX4_valueOf_157 (by decide) <| At.isub dX4_valueOf_158 <| ?_
                    obtain ⟨v12, hv12, g13, h⟩ := rdA_e h
                    refine At.iald sh_32 (le149 sh_32) g13.1 g13.2 dX4_valueOf_159 <| At.nm hv12 <| At.goto (tgt := 172) dX4_valueOf_160 (by decide) <| ?_
                    obtain rfl := Option.some.inj h
                    exact At.sub [1, 2, 3, 4, 5] rfl K172
                  · refine At.iald sh_32 (le149 sh_32) g10.1 g10.2 dX4_valueOf_147 <| At.nm hv9 <| At.if_ne_t (tgt := 163) dX4_valueOf_148 (by decide) c16 <| ?_
                    refine At.aloadn dX4_valueOf_163 rfl <| At.getR fl_X4_9 sh_31 (le149 sh_31) rf_31_0 dX4_valueOf_164 <| At.iload dX4_valueOf_167 rfl <| At.iconst dX4_valueOf_169 (by decide) <| At.isub dX4_valueOf_170 <| ?_
                    obtain ⟨v14, hv14, g15, h⟩ := rdA_e h
                    refine At.iald sh_32 (le149 sh_32) g15.1 g15.2 dX4_valueOf_171 <| At.nm hv14 <| ?_
                    obtain rfl := Option.some.inj h
                    exact At.sub [1, 2, 3, 4, 5] rfl K172
              · refine At.iload dX4_valueOf_117 rfl <| At.sipush dX4_valueOf_119 (by decide) <| At.icmp_ne_t (tgt := 179) dX4_valueOf_122 (by decide) c30 <| ?_
                rcases ite_e h with ⟨c29, h⟩ | ⟨c29, h⟩
                · refine At.iload dX4_valueOf_179 rfl <| At.iconst dX4_valueOf_181 (by decide) <| At.icmp_lt_t (tgt := 224) dX4_valueOf_182 (by decide) c29 <| ?_
                  obtain rfl := Option.some.inj h
                  exact At.sub [1, 2, 3, 4, 5] rfl K224
                · refine At.iload dX4_valueOf_179 rfl <| At.iconst dX4_valueOf_181 (by decide) <| At.icmp_lt_f (tgt := 224) dX4_valueOf_182 (by decide) c29 <| ?_
                  refine At.aloadn dX4_valueOf_185 rfl <| At.getR fl_X4_9 sh_31 (le149 sh_31) rf_31_0 dX4_valueOf_186 <| At.iload dX4_valueOf_189 rfl <| At.iconst dX4_valueOf_191 (by decide) <| At.isub dX4_valueOf_192 <| At.iload dX4_valueOf_193 rfl <| At.sipush dX4_valueOf_195 (by decide) <| At.isub dX4_valueOf_198 <| At.aloadn dX4_valueOf_199 rfl <| At.getR fl_X4_9 sh_31 (le149 sh_31) rf_31_0 dX4_valueOf_200 <| At.iload dX4_valueOf_203 rfl <| At.iconst dX4_valueOf_205 (by decide) <| At.isub dX4_valueOf_206 <| ?_
                  obtain ⟨v21, hv21, g22, h⟩ := rdA_e h
                  refine At.iald sh_32 (le149 sh_32) g22.1 g22.2 dX4_valueOf_207 <| At.nm hv21 <| At.aloadn dX4_valueOf_208 rfl <| At.getR fl_X4_9 sh_31 (le149 sh_31) rf_31_0 dX4_valueOf_209 <| At.iload dX4_valueOf_212 rfl <| At.iconst dX4_valueOf_214 (by decide) <| At.isub dX4_valueOf_215 <| ?_
                  obtain ⟨v23, hv23, g24, h⟩ := rdA_e h
                  refine At.iald sh_32 (le149 sh_32) g24.1 g24.2 dX4_valueOf_216 <| At.nm hv23 <| ?_
                  obtain ⟨q25, hq25, h⟩ := bnd_e h
                  refine At.cS1 (av := [vi (w32 (v1 - 2000)), vi v21, vi v23]) (rest := [vi (w32 (l4 - 2)), vr 32]) ms_X4_joined lk_X4_19 dX4_valueOf_217 rfl rfl (Nat.le_of_ble_eq_true rfl) (by decide) ⟨rfl, rfl⟩ (rX4_joined hq25) <| ?_
                  obtain ⟨S26, hS26, g27, h⟩ := wrA_e h
                  refine At.iast sh_32 (le149 sh_32) g27.1 g27.2 dX4_valueOf_220 <| At.nmS hS26 <| ?_
                  obtain ⟨x28, hx28, h⟩ := lt_e h
                  refine At.iinc (ls' := [(4, vi x28), (6, vi v1), (0, vr 31), (1, vr l1), (3, vi l3), (5, vi l5)]) dX4_valueOf_221 rfl (by decide) (by rw [hx28]; rfl) <| ?_
                  obtain rfl := Option.some.inj h
                  exact At.sub [2, 3, 4, 0, 5] rfl K224
          · refine At.iald hl1 (le149 hl1) g2.1 g2.2 dX4_valueOf_27 <| At.nm hv1 <| At.istore (ls' := [(6, vi v1), (0, vr 31), (1, vr l1), (3, vi l3), (4, vi l4), (5, vi l5)]) dX4_valueOf_28 (by decide) rfl <| At.iload dX4_valueOf_30 rfl <| At.sipush dX4_valueOf_32 (by decide) <| At.icmp_ge_f (tgt := 80) dX4_valueOf_35 (by decide) c39 <| ?_
            rcases ite_e h with ⟨c38, h⟩ | ⟨c38, h⟩
            · refine At.iload dX4_valueOf_38 rfl <| At.aloadn dX4_valueOf_40 rfl <| At.getR fl_X4_9 sh_31 (le149 sh_31) rf_31_0 dX4_valueOf_41 <| At.alenI sh_32 (le149 sh_32) (by decide) (z := 64) rfl dX4_valueOf_44 <| At.icmp_ge_t (tgt := 224) dX4_valueOf_45 (by decide) c38 <| ?_
              obtain rfl := Option.some.inj h
              exact At.sub [1, 2, 3, 4, 5] rfl K224
            · refine At.iload dX4_valueOf_38 rfl <| At.aloadn dX4_valueOf_40 rfl <| At.getR fl_X4_9 sh_31 (le149 sh_31) rf_31_0 dX4_valueOf_41 <| At.alenI sh_32 (le149 sh_32) (by decide) (z := 64) rfl dX4_valueOf_44 <| At.icmp_ge_f (tgt := 224) dX4_valueOf_45 (by decide) c38 <| ?_
              obtain ⟨q32, hj73, h⟩ := bnd_e h
              have K73 : At G mX4_valueOf 2 73 [(0, vr 31), (1, vr l1), (3, vi l3), (4, vi l4), (5, vi l5)] [vi q32, vi l4, vr 32] (mm S) 0 0 Φ := by
                obtain ⟨S35, hS35, g36, h⟩ := wrA_e h
                refine At.iast sh_32 (le149 sh_32) g36.1 g36.2 dX4_valueOf_73 <| At.nmS hS35 <| ?_
                obtain ⟨x37, hx37, h⟩ := lt_e h
                refine At.iinc (ls' := [(4, vi x37), (0, vr 31), (1, vr l1), (3, vi l3), (5, vi l5)]) dX4_valueOf_74 rfl (by decide) (by rw [hx37]; rfl) <| At.goto (tgt := 224) dX4_valueOf_77 (by decide) <| ?_
                obtain rfl := Option.some.inj h
                exact At.sub [1, 2, 3, 0, 4] rfl K224
              clear h; have h := hj73; clear hj73
              rcases ite_e h with ⟨c34, h⟩ | ⟨c34, h⟩
              · refine At.aloadn dX4_valueOf_48 rfl <| At.getR fl_X4_9 sh_31 (le149 sh_31) rf_31_0 dX4_valueOf_49 <| At.iload dX4_valueOf_52 rfl <| At.iload dX4_valueOf_54 rfl <| At.sipush dX4_valueOf_56 (by decide) <| At.icmp_ge_t (tgt := 67) dX4_valueOf_59 (by decide) c34 <| ?_
                refine At.aloadn dX4_valueOf_67 rfl <| At.iload dX4_valueOf_68 rfl <| ?_
                obtain ⟨q33, hq33, h⟩ := bnd_e h
                refine At.cV1 (av := [vi v1]) (rest := [vi l4, vr 32]) mv_X4_meaning lk_X4_15 dX4_valueOf_70 rfl rfl sh_31 (Nat.le_of_ble_eq_true rfl) (by decide) ⟨rfl, rfl⟩ (rX4_meaning hq33) <| ?_
                obtain rfl := Option.some.inj h
                exact At.sub [1, 2, 3, 4, 5] rfl K73
              · refine At.aloadn dX4_valueOf_48 rfl <| At.getR fl_X4_9 sh_31 (le149 sh_31) rf_31_0 dX4_valueOf_49 <| At.iload dX4_valueOf_52 rfl <| At.iload dX4_valueOf_54 rfl <| At.sipush dX4_valueOf_56 (by decide) <| At.icmp_ge_f (tgt := 67) dX4_valueOf_59 (by decide) c34 <| ?_
                refine At.iload dX4_valueOf_62 rfl <| At.goto (tgt := 73) dX4_valueOf_64 (by decide) <| ?_
                obtain rfl := Option.some.inj h
                exact At.sub [1, 2, 3, 4, 5] rfl K73
set_option maxRecDepth 100000 in
set_option maxHeartbeats 4000000 in
theorem rX4_valueOf_900 {G : GG} {p1 : Nat} {p2 : Int} {p3 : Int} {S : SS} {rr : (Int × SS)} (hp1 : sh p1 = (20, 900)) (h : fX4_valueOf_900 p1 p2 p3 S = some rr) : RD G mX4_valueOf 2 [vr 31, vr p1, vi p2, vi p3] S (some (vi rr.1)) rr.2 := by
  unfold fX4_valueOf_900 at h
  refine Runs.of pl_X4 (Nat.le_of_ble_eq_true rfl) ?_
  show At G mX4_valueOf 2 0 [(0, vr 31), (1, vr p1), (2, vi p2), (3, vi p3)] [] (mm S) 0 0 (EQ (some (vi rr.1)) rr.2)
  refine At.iconst dX4_valueOf_0 (by decide) <| At.istore (ls' := [(4, vi 0), (0, vr 31), (1, vr p1), (2, vi p2), (3, vi p3)]) dX4_valueOf_1 (by decide) rfl <| At.iloadn dX4_valueOf_3 rfl <| At.istore (ls' := [(5, vi p2), (4, vi 0), (0, vr 31), (1, vr p1), (2, vi p2), (3, vi p3)]) dX4_valueOf_4 (by decide) rfl <| ?_
  obtain ⟨q1, ho2, h⟩ := bnd_e h
  refine At.sub [2, 3, 5, 1, 0] rfl (lX4_valueOf_900_L6 hp1 FU _ _ _ q1 ho2 ?_)
  rcases ite_e h with ⟨c5, h⟩ | ⟨c5, h⟩
  · refine At.iload dX4_valueOf_230 rfl <| At.if_le_t (tgt := 244) dX4_valueOf_232 (by decide) c5 <| ?_
    refine At.iconst dX4_valueOf_244 (by decide) <| ?_
    obtain rfl := Option.some.inj h
    exact At.iret rfl (Nat.zero_le _) (Nat.zero_le _) ⟨rfl, rfl⟩ dX4_valueOf_245
  · refine At.iload dX4_valueOf_230 rfl <| At.if_le_f (tgt := 244) dX4_valueOf_232 (by decide) c5 <| ?_
    refine At.aloadn dX4_valueOf_235 rfl <| At.getR fl_X4_9 sh_31 (le149 sh_31) rf_31_0 dX4_valueOf_236 <| At.iconst dX4_valueOf_239 (by decide) <| ?_
    obtain ⟨v3, hv3, g4, h⟩ := rdA_e h
    refine At.iald sh_32 (le149 sh_32) g4.1 g4.2 dX4_valueOf_240 <| At.nm hv3 <| At.goto (tgt := 245) dX4_valueOf_241 (by decide) <| ?_
    obtain rfl := Option.some.inj h
    exact At.iret rfl (Nat.zero_le _) (Nat.zero_le _) ⟨rfl, rfl⟩ dX4_valueOf_245
def fX11_isYear (p0 : Int) : Option Bool :=
  if p0 < 0 then (
    some false
  ) else (
    if 20 ≤ p0 then (
      some false
    ) else (
      some true
    )
  )
set_option maxRecDepth 100000 in
set_option maxHeartbeats 4000000 in
theorem rX11_isYear {G : GG} {p0 : Int} {S : SS} {rr : Bool} (h : fX11_isYear p0 = some rr) : RD G mX11_isYear 1 [vi p0] S (some (vi (bI rr))) S := by
  unfold fX11_isYear at h
  refine Runs.of pl_X11 (Nat.le_of_ble_eq_true rfl) ?_
  show At G mX11_isYear 1 0 [(0, vi p0)] [] (mm S) 0 0 (EQ (some (vi (bI rr))) S)
  rcases ite_e h with ⟨c2, h⟩ | ⟨c2, h⟩
  · refine At.iloadn dX11_isYear_0 rfl <| At.if_lt_t (tgt := 14) dX11_isYear_1 (by decide) c2 <| ?_
    refine At.iconst dX11_isYear_14 (by decide) <| ?_
    obtain rfl := Option.some.inj h
    exact At.zret (b := false) rfl (Nat.zero_le _) (Nat.zero_le _) ⟨rfl, rfl⟩ dX11_isYear_15
  · refine At.iloadn dX11_isYear_0 rfl <| At.if_lt_f (tgt := 14) dX11_isYear_1 (by decide) c2 <| ?_
    rcases ite_e h with ⟨c1, h⟩ | ⟨c1, h⟩
    · refine At.iloadn dX11_isYear_4 rfl <| At.bipush dX11_isYear_5 (by decide) <| At.icmp_ge_t (tgt := 14) dX11_isYear_7 (by decide) c1 <| ?_
      refine At.iconst dX11_isYear_14 (by decide) <| ?_
      obtain rfl := Option.some.inj h
      exact At.zret (b := false) rfl (Nat.zero_le _) (Nat.zero_le _) ⟨rfl, rfl⟩ dX11_isYear_15
    · refine At.iloadn dX11_isYear_4 rfl <| At.bipush dX11_isYear_5 (by decide) <| At.icmp_ge_f (tgt := 14) dX11_isYear_7 (by decide) c1 <| ?_
      refine At.iconst dX11_isYear_10 (by decide) <| At.goto (tgt := 15) dX11_isYear_11 (by decide) <| ?_
      obtain rfl := Option.some.inj h
      exact At.zret (b := true) rfl (Nat.zero_le _) (Nat.zero_le _) ⟨rfl, rfl⟩ dX11_isYear_15
def fX5_yearAfter (p1 : Int) (p2 : Int) (p3 : Int) (p4 : Int) (p5 : Int) (S : SS) : Option (Int × SS) :=
  lt (w32 ((w32 ((w32 ((w32 ((w32 ((w32 (p1 * 8)) + p2)) * 2)) + p3)) * 20)) + p4)) fun x1 =>
  Option.bind (
    if p5 = (S 30 3) then (
      if x1 < 0 then (
        some 0
      ) else (
        if 960 ≤ x1 then (
          some 0
        ) else (
          some 1
        )
      )
    ) else (
      some 0
    )
    : Option (Int)) fun q2 =>
  if q2 = 0 then (
    rdA S 5 8 p2 fun v6 =>
    Option.bind (fX4_setGoing p1 p2 v6 p3 p4 p5 S) fun q8 =>
    lt ((-3)) fun x9 =>
    Option.bind (
      if (q8 2 12) = (q8 2 13) then (
        Option.bind (
          if p3 = 0 then (
            rdA q8 5 8 p2 fun v12 =>
            some v12
          ) else (
            rdA q8 5 8 p2 fun v14 =>
            some (w32 (-v14))
          )
          : Option (Int)) fun q11 =>
        Option.bind (
          if (q8 2 10) = (q8 2 11) then (
            some (q11, q8)
          ) else (
            Option.bind (fX4_valueOf_900 6 (q8 2 10) (q8 2 11) q8) fun q18 =>
            some (q18.1, q18.2)
          )
          : Option (Int × SS)) fun q17 =>
        Option.bind (fX11_isYear (w32 (p4 + q17.1))) fun q20 =>
        Option.bind (
          if q20 = true then (
            some (w32 (p4 + q17.1))
          ) else (
            some ((-4))
          )
          : Option (Int)) fun q21 =>
        some (q21, q17.2)
      ) else (
        Option.bind (fX4_valueOf_900 6 (q8 2 12) (q8 2 13) q8) fun q23 =>
        if q23.1 = 0 then (
          some (x9, q23.2)
        ) else (
          Option.bind (
            if p3 = 0 then (
              rdA q23.2 5 8 p2 fun v25 =>
              some v25
            ) else (
              rdA q23.2 5 8 p2 fun v27 =>
              some (w32 (-v27))
            )
            : Option (Int)) fun q24 =>
          Option.bind (
            if (q23.2 2 10) = (q23.2 2 11) then (
              some (q24, q23.2)
            ) else (
              Option.bind (fX4_valueOf_900 6 (q23.2 2 10) (q23.2 2 11) q23.2) fun q31 =>
              some (q31.1, q31.2)
            )
            : Option (Int × SS)) fun q30 =>
          Option.bind (fX11_isYear (w32 (p4 + q30.1))) fun q33 =>
          Option.bind (
            if q33 = true then (
              some (w32 (p4 + q30.1))
            ) else (
              some ((-4))
            )
            : Option (Int)) fun q34 =>
          some (q34, q30.2)
        )
      )
      : Option (Int × SS)) fun q10 =>
    Option.bind (
      if q2 = 0 then (
        some q10.2
      ) else (
        wrA q10.2 33 960 x1 (w32 (q10.1 + 10)) fun S39 =>
        some S39
      )
      : Option (SS)) fun q38 =>
    some (q10.1, q38)
  ) else (
    rdA S 33 960 x1 fun v42 =>
    if v42 = 0 then (
      rdA S 5 8 p2 fun v44 =>
      Option.bind (fX4_setGoing p1 p2 v44 p3 p4 p5 S) fun q46 =>
      lt ((-3)) fun x47 =>
      Option.bind (
        if (q46 2 12) = (q46 2 13) then (
          Option.bind (
            if p3 = 0 then (
              rdA q46 5 8 p2 fun v50 =>
              some v50
            ) else (
              rdA q46 5 8 p2 fun v52 =>
              some (w32 (-v52))
            )
            : Option (Int)) fun q49 =>
          Option.bind (
            if (q46 2 10) = (q46 2 11) then (
              some (q49, q46)
            ) else (
              Option.bind (fX4_valueOf_900 6 (q46 2 10) (q46 2 11) q46) fun q56 =>
              some (q56.1, q56.2)
            )
            : Option (Int × SS)) fun q55 =>
          Option.bind (fX11_isYear (w32 (p4 + q55.1))) fun q58 =>
          Option.bind (
            if q58 = true then (
              some (w32 (p4 + q55.1))
            ) else (
              some ((-4))
            )
            : Option (Int)) fun q59 =>
          some (q59, q55.2)
        ) else (
          Option.bind (fX4_valueOf_900 6 (q46 2 12) (q46 2 13) q46) fun q61 =>
          if q61.1 = 0 then (
            some (x47, q61.2)
          ) else (
            Option.bind (
              if p3 = 0 then (
                rdA q61.2 5 8 p2 fun v63 =>
                some v63
              ) else (
                rdA q61.2 5 8 p2 fun v65 =>
                some (w32 (-v65))
              )
              : Option (Int)) fun q62 =>
            Option.bind (
              if (q61.2 2 10) = (q61.2 2 11) then (
                some (q62, q61.2)
              ) else (
                Option.bind (fX4_valueOf_900 6 (q61.2 2 10) (q61.2 2 11) q61.2) fun q69 =>
                some (q69.1, q69.2)
              )
              : Option (Int × SS)) fun q68 =>
            Option.bind (fX11_isYear (w32 (p4 + q68.1))) fun q71 =>
            Option.bind (
              if q71 = true then (
                some (w32 (p4 + q68.1))
              ) else (
                some ((-4))
              )
              : Option (Int)) fun q72 =>
            some (q72, q68.2)
          )
        )
        : Option (Int × SS)) fun q48 =>
      Option.bind (
        if q2 = 0 then (
          some q48.2
        ) else (
          wrA q48.2 33 960 x1 (w32 (q48.1 + 10)) fun S77 =>
          some S77
        )
        : Option (SS)) fun q76 =>
      some (q48.1, q76)
    ) else (
      rdA S 33 960 x1 fun v80 =>
      some (w32 (v80 - 10), S)
    )
  )
set_option maxRecDepth 100000 in
set_option maxHeartbeats 4000000 in
theorem rX5_yearAfter {G : GG} {p1 : Int} {p2 : Int} {p3 : Int} {p4 : Int} {p5 : Int} {S : SS} {rr : (Int × SS)} (h : fX5_yearAfter p1 p2 p3 p4 p5 S = some rr) : RD G mX5_yearAfter 3 [vr 30, vi p1, vi p2, vi p3, vi p4, vi p5] S (some (vi rr.1)) rr.2 := by
  unfold fX5_yearAfter at h
  refine Runs.of pl_X5 (Nat.le_of_ble_eq_true rfl) ?_
  show At G mX5_yearAfter 3 0 [(0, vr 30), (1, vi p1), (2, vi p2), (3, vi p3), (4, vi p4), (5, vi p5)] [] (mm S) 0 0 (EQ (some (vi rr.1)) rr.2)
  refine At.iloadn dX5_yearAfter_0 rfl <| At.bipush dX5_yearAfter_1 (by decide) <| At.imul dX5_yearAfter_3 <| At.iloadn dX5_yearAfter_4 rfl <| At.iadd dX5_yearAfter_5 <| At.iconst dX5_yearAfter_6 (by decide) <| At.imul dX5_yearAfter_7 <| At.iloadn dX5_yearAfter_8 rfl <| At.iadd dX5_yearAfter_9 <| At.bipush dX5_yearAfter_10 (by decide) <| At.imul dX5_yearAfter_12 <| At.iload dX5_yearAfter_13 rfl <| At.iadd dX5_yearAfter_15 <| ?_
  obtain ⟨x1, hx1, h⟩ := lt_e h
  obtain ⟨q2, hj47, h⟩ := bnd_e h
  have K47 : At G mX5_yearAfter 3 47 [(0, vr 30), (1, vi p1), (2, vi p2), (3, vi p3), (4, vi p4), (5, vi p5), (6, vi x1)] [vi q2] (mm S) 0 0 (EQ (some (vi rr.1)) rr.2) := by
    rcases ite_e h with ⟨c83, h⟩ | ⟨c83, h⟩
    · refine At.istore (ls' := [(7, vi q2), (0, vr 30), (1, vi p1), (2, vi p2), (3, vi p3), (4, vi p4), (5, vi p5), (6, vi x1)]) dX5_yearAfter_47 (by decide) rfl <| At.iload dX5_yearAfter_49 rfl <| At.if_eq_t (tgt := 75) dX5_yearAfter_51 (by decide) c83 <| ?_
      refine At.aloadn dX5_yearAfter_75 rfl <| At.getR fl_X5_12 sh_30 (le149 sh_30) rf_30_1 dX5_yearAfter_76 <| At.iloadn dX5_yearAfter_79 rfl <| At.iloadn dX5_yearAfter_80 rfl <| At.aloadn dX5_yearAfter_81 rfl <| At.getR fl_X5_26 sh_30 (le149 sh_30) rf_30_0 dX5_yearAfter_82 <| At.getR fl_X5_74 sh_2 (le149 sh_2) rf_2_2 dX5_yearAfter_85 <| At.iloadn dX5_yearAfter_88 rfl <| ?_
      obtain ⟨v6, hv6, g7, h⟩ := rdA_e h
      refine At.iald sh_5 (le149 sh_5) g7.1 g7.2 dX5_yearAfter_89 <| At.nm hv6 <| At.iloadn dX5_yearAfter_90 rfl <| At.iload dX5_yearAfter_91 rfl <| At.iload dX5_yearAfter_93 rfl <| ?_
      obtain ⟨q8, hq8, h⟩ := bnd_e h
      refine At.cV0 (av := [vi p1, vi p2, vi v6, vi p3, vi p4, vi p5]) (rest := []) mv_X4_setGoing lk_X5_77 dX5_yearAfter_95 rfl rfl sh_31 (Nat.le_of_ble_eq_true rfl) (by decide) ⟨rfl, rfl⟩ (rX4_setGoing hq8) <| At.bipush dX5_yearAfter_98 (by decide) <| ?_
      obtain ⟨x9, hx9, h⟩ := lt_e h
      obtain ⟨q10, hj248, h⟩ := bnd_e h
      have K248 : At G mX5_yearAfter 3 248 [(0, vr 30), (6, vi x1), (7, vi q2), (8, vi q10.1)] [] (mm q10.2) 0 0 (EQ (some (vi rr.1)) rr.2) := by
        obtain ⟨q38, hj265, h⟩ := bnd_e h
        have K265 : At G mX5_yearAfter 3 265 [(8, vi q10.1)] [] (mm q38) 0 0 (EQ (some (vi rr.1)) rr.2) := by
          refine At.iload dX5_yearAfter_265 rfl <| ?_
          obtain rfl := Option.some.inj h
          exact At.iret rfl (Nat.zero_le _) (Nat.zero_le _) ⟨rfl, rfl⟩ dX5_yearAfter_267
        clear h; have h := hj265; clear hj265
        rcases ite_e h with ⟨c41, h⟩ | ⟨c41, h⟩
        · refine At.iload dX5_yearAfter_248 rfl <| At.if_eq_t (tgt := 265) dX5_yearAfter_250 (by decide) c41 <| ?_
          obtain rfl := Option.some.inj h
          exact At.sub [3] rfl K265
        · refine At.iload dX5_yearAfter_248 rfl <| At.if_eq_f (tgt := 265) dX5_yearAfter_250 (by decide) c41 <| ?_
          refine At.aloadn dX5_yearAfter_253 rfl <| At.getR fl_X5_18 sh_30 (le149 sh_30) rf_30_2 dX5_yearAfter_254 <| At.iload dX5_yearAfter_257 rfl <| At.iload dX5_yearAfter_259 rfl <| At.bipush dX5_yearAfter_261 (by decide) <| At.iadd dX5_yearAfter_263 <| ?_
          obtain ⟨S39, hS39, g40, h⟩ := wrA_e h
          refine At.iast sh_33 (le149 sh_33) g40.1 g40.2 dX5_yearAfter_264 <| At.nmS hS39 <| ?_
          obtain rfl := Option.some.inj h
          exact At.sub [3] rfl K265
      clear h; have h := hj248; clear hj248
      rcases ite_e h with ⟨c37, h⟩ | ⟨c37, h⟩
      · refine At.nm hx9 <| At.istore (ls' := [(8, vi x9), (7, vi q2), (0, vr 30), (1, vi p1), (2, vi p2), (3, vi p3), (4, vi p4), (5, vi p5), (6, vi x1)]) dX5_yearAfter_100 (by decide) rfl <| At.aloadn dX5_yearAfter_102 rfl <| At.getR fl_X5_26 sh_30 (le149 sh_30) rf_30_0 dX5_yearAfter_103 <| At.getI fl_X5_81 sh_2 (le149 sh_2) dX5_yearAfter_106 <| At.aloadn dX5_yearAfter_109 rfl <| At.getR fl_X5_26 sh_30 (le149 sh_30) rf_30_0 dX5_yearAfter_110 <| At.getI fl_X5_84 sh_2 (le149 sh_2) dX5_yearAfter_113 <| At.icmp_eq_t (tgt := 150) dX5_yearAfter_116 (by decide) c37 <| ?_
        obtain ⟨q11, hj176, h⟩ := bnd_e h
        have K176 : At G mX5_yearAfter 3 176 [(0, vr 30), (4, vi p4), (6, vi x1), (7, vi q2)] [vi q11] (mm q8) 0 0 (EQ (some (vi rr.1)) rr.2) := by
          obtain ⟨q17, hj225, h⟩ := bnd_e h
          have K225 : At G mX5_yearAfter 3 225 [(0, vr 30), (4, vi p4), (6, vi x1), (7, vi q2), (9, vi q17.1)] [] (mm q17.2) 0 0 (EQ (some (vi rr.1)) rr.2) := by
            refine At.iload dX5_yearAfter_225 rfl <| At.iload dX5_yearAfter_227 rfl <| At.iadd dX5_yearAfter_229 <| ?_
            obtain ⟨q20, hq20, h⟩ := bnd_e h
            obtain ⟨q21, hj246, h⟩ := bnd_e h
            have K246 : At G mX5_yearAfter 3 246 [(0, vr 30), (6, vi x1), (7, vi q2)] [vi q21] (mm q17.2) 0 0 (EQ (some (vi rr.1)) rr.2) := by
              refine At.istore (ls' := [(8, vi q21), (0, vr 30), (6, vi x1), (7, vi q2)]) dX5_yearAfter_246 (by decide) rfl <| ?_
              obtain rfl := Option.some.inj h
              exact At.sub [1, 2, 3, 0] rfl K248
            clear h; have h := hj246; clear hj246
            rcases ite_e h with ⟨c22, h⟩ | ⟨c22, h⟩
            · refine At.cS1 (av := [vi (w32 (p4 + q17.1))]) (rest := []) ms_X11_isYear lk_X5_100 dX5_yearAfter_230 rfl rfl (Nat.le_of_ble_eq_true rfl) (by decide) ⟨rfl, rfl⟩ (rX11_isYear hq20) <| At.bifeq_f (tgt := 244) dX5_yearAfter_233 (by decide) c22 <| ?_
              refine At.iload dX5_yearAfter_236 rfl <| At.iload dX5_yearAfter_238 rfl <| At.iadd dX5_yearAfter_240 <| At.goto (tgt := 246) dX5_yearAfter_241 (by decide) <| ?_
              obtain rfl := Option.some.inj h
              exact At.sub [0, 2, 3] rfl K246
            · refine At.cS1 (av := [vi (w32 (p4 + q17.1))]) (rest := []) ms_X11_isYear lk_X5_100 dX5_yearAfter_230 rfl rfl (Nat.le_of_ble_eq_true rfl) (by decide) ⟨rfl, rfl⟩ (rX11_isYear hq20) <| At.bifeq_t (tgt := 244) dX5_yearAfter_233 (by decide) c22 <| ?_
              refine At.bipush dX5_yearAfter_244 (by decide) <| ?_
              obtain rfl := Option.some.inj h
              exact At.sub [0, 2, 3] rfl K246
          clear h; have h := hj225; clear hj225
          rcases ite_e h with ⟨c19, h⟩ | ⟨c19, h⟩
          · refine At.istore (ls' := [(9, vi q11), (0, vr 30), (4, vi p4), (6, vi x1), (7, vi q2)]) dX5_yearAfter_176 (by decide) rfl <| At.aloadn dX5_yearAfter_178 rfl <| At.getR fl_X5_26 sh_30 (le149 sh_30) rf_30_0 dX5_yearAfter_179 <| At.getI fl_X5_94 sh_2 (le149 sh_2) dX5_yearAfter_182 <| At.aloadn dX5_yearAfter_185 rfl <| At.getR fl_X5_26 sh_30 (le149 sh_30) rf_30_0 dX5_yearAfter_186 <| At.getI fl_X5_97 sh_2 (le149 sh_2) dX5_yearAfter_189 <| At.icmp_eq_t (tgt := 225) dX5_yearAfter_192 (by decide) c19 <| ?_
            obtain rfl := Option.some.inj h
            exact At.sub [1, 2, 3, 4, 0] rfl K225
          · refine At.istore (ls' := [(9, vi q11), (0, vr 30), (4, vi p4), (6, vi x1), (7, vi q2)]) dX5_yearAfter_176 (by decide) rfl <| At.aloadn dX5_yearAfter_178 rfl <| At.getR fl_X5_26 sh_30 (le149 sh_30) rf_30_0 dX5_yearAfter_179 <| At.getI fl_X5_94 sh_2 (le149 sh_2) dX5_yearAfter_182 <| At.aloadn dX5_yearAfter_185 rfl <| At.getR fl_X5_26 sh_30 (le149 sh_30) rf_30_0 dX5_yearAfter_186 <| At.getI fl_X5_97 sh_2 (le149 sh_2) dX5_yearAfter_189 <| At.icmp_eq_f (tgt := 225) dX5_yearAfter_192 (by decide) c19 <| ?_
            refine At.aloadn dX5_yearAfter_195 rfl <| At.getR fl_X5_12 sh_30 (le149 sh_30) rf_30_1 dX5_yearAfter_196 <| At.aloadn dX5_yearAfter_199 rfl <| At.getR fl_X5_26 sh_30 (le149 sh_30) rf_30_0 dX5_yearAfter_200 <| At.getR fl_X5_87 sh_2 (le149 sh_2) rf_2_3 dX5_yearAfter_203 <| At.aloadn dX5_yearAfter_206 rfl <| At.getR fl_X5_26 sh_30 (le149 sh_30) rf_30_0 dX5_yearAfter_207 <| At.getI fl_X5_94 sh_2 (le149 sh_2) dX5_yearAfter_210 <| At.aloadn dX5_yearAfter_213 rfl <| At.getR fl_X5_26 sh_30 (le149 sh_30) rf_30_0 dX5_yearAfter_214 <| At.getI fl_X5_97 sh_2 (le149 sh_2) dX5_yearAfter_217 <| ?_
            obtain ⟨q18, hq18, h⟩ := bnd_e h
            refine At.cV1 (av := [vr 6, vi (q8 2 10), vi (q8 2 11)]) (rest := []) mv_X4_valueOf lk_X5_90 dX5_yearAfter_220 rfl rfl sh_31 (Nat.le_of_ble_eq_true rfl) (by decide) ⟨rfl, rfl⟩ (rX4_valueOf_900 sh_6 hq18) <| At.istore (ls' := [(9, vi q18.1), (0, vr 30), (4, vi p4), (6, vi x1), (7, vi q2)]) dX5_yearAfter_223 (by decide) rfl <| ?_
            obtain rfl := Option.some.inj h
            exact At.sub [1, 2, 3, 4, 0] rfl K225
        clear h; have h := hj176; clear hj176
        rcases ite_e h with ⟨c16, h⟩ | ⟨c16, h⟩
        · refine At.iloadn dX5_yearAfter_150 rfl <| At.if_ne_f (tgt := 166) dX5_yearAfter_151 (by decide) c16 <| ?_
          refine At.aloadn dX5_yearAfter_154 rfl <| At.getR fl_X5_26 sh_30 (le149 sh_30) rf_30_0 dX5_yearAfter_155 <| At.getR fl_X5_74 sh_2 (le149 sh_2) rf_2_2 dX5_yearAfter_158 <| At.iloadn dX5_yearAfter_161 rfl <| ?_
          obtain ⟨v12, hv12, g13, h⟩ := rdA_e h
          refine At.iald sh_5 (le149 sh_5) g13.1 g13.2 dX5_yearAfter_162 <| At.nm hv12 <| At.goto (tgt := 176) dX5_yearAfter_163 (by decide) <| ?_
          obtain rfl := Option.some.inj h
          exact At.sub [2, 6, 8, 1] rfl K176
        · refine At.iloadn dX5_yearAfter_150 rfl <| At.if_ne_t (tgt := 166) dX5_yearAfter_151 (by decide) c16 <| ?_
          refine At.aloadn dX5_yearAfter_166 rfl <| At.getR fl_X5_26 sh_30 (le149 sh_30) rf_30_0 dX5_yearAfter_167 <| At.getR fl_X5_74 sh_2 (le149 sh_2) rf_2_2 dX5_yearAfter_170 <| At.iloadn dX5_yearAfter_173 rfl <| ?_
          obtain ⟨v14, hv14, g15, h⟩ := rdA_e h
          refine At.iald sh_5 (le149 sh_5) g15.1 g15.2 dX5_yearAfter_174 <| At.nm hv14 <| At.ineg dX5_yearAfter_175 <| ?_
          obtain rfl := Option.some.inj h
          exact At.sub [2, 6, 8, 1] rfl K176
      · refine At.nm hx9 <| At.istore (ls' := [(8, vi x9), (7, vi q2), (0, vr 30), (1, vi p1), (2, vi p2), (3, vi p3), (4, vi p4), (5, vi p5), (6, vi x1)]) dX5_yearAfter_100 (by decide) rfl <| At.aloadn dX5_yearAfter_102 rfl <| At.getR fl_X5_26 sh_30 (le149 sh_30) rf_30_0 dX5_yearAfter_103 <| At.getI fl_X5_81 sh_2 (le149 sh_2) dX5_yearAfter_106 <| At.aloadn dX5_yearAfter_109 rfl <| At.getR fl_X5_26 sh_30 (le149 sh_30) rf_30_0 dX5_yearAfter_110 <| At.getI fl_X5_84 sh_2 (le149 sh_2) dX5_yearAfter_113 <| At.icmp_eq_f (tgt := 150) dX5_yearAfter_116 (by decide) c37 <| ?_
        refine At.aloadn dX5_yearAfter_119 rfl <| At.getR fl_X5_12 sh_30 (le149 sh_30) rf_30_1 dX5_yearAfter_120 <| At.aloadn dX5_yearAfter_123 rfl <| At.getR fl_X5_26 sh_30 (le149 sh_30) rf_30_0 dX5_yearAfter_124 <| At.getR fl_X5_87 sh_2 (le149 sh_2) rf_2_3 dX5_yearAfter_127 <| At.aloadn dX5_yearAfter_130 rfl <| At.getR fl_X5_26 sh_30 (le149 sh_30) rf_30_0 dX5_yearAfter_131 <| At.getI fl_X5_81 sh_2 (le149 sh_2) dX5_yearAfter_134 <| At.aloadn dX5_yearAfter_137 rfl <| At.getR fl_X5_26 sh_30 (le149 sh_30) rf_30_0 dX5_yearAfter_138 <| At.getI fl_X5_84 sh_2 (le149 sh_2) dX5_yearAfter_141 <| ?_
        obtain ⟨q23, hq23, h⟩ := bnd_e h
        rcases ite_e h with ⟨c36, h⟩ | ⟨c36, h⟩
        · refine At.cV1 (av := [vr 6, vi (q8 2 12), vi (q8 2 13)]) (rest := []) mv_X4_valueOf lk_X5_90 dX5_yearAfter_144 rfl rfl sh_31 (Nat.le_of_ble_eq_true rfl) (by decide) ⟨rfl, rfl⟩ (rX4_valueOf_900 sh_6 hq23) <| At.if_eq_t (tgt := 248) dX5_yearAfter_147 (by decide) c36 <| ?_
          obtain rfl := Option.some.inj h
          exact At.sub [2, 8, 1, 0] rfl K248
        · refine At.cV1 (av := [vr 6, vi (q8 2 12), vi (q8 2 13)]) (rest := []) mv_X4_valueOf lk_X5_90 dX5_yearAfter_144 rfl rfl sh_31 (Nat.le_of_ble_eq_true rfl) (by decide) ⟨rfl, rfl⟩ (rX4_valueOf_900 sh_6 hq23) <| At.if_eq_f (tgt := 248) dX5_yearAfter_147 (by decide) c36 <| ?_
          obtain ⟨q24, hj176, h⟩ := bnd_e h
          have K176 : At G mX5_yearAfter 3 176 [(0, vr 30), (4, vi p4), (6, vi x1), (7, vi q2)] [vi q24] (mm q23.2) 0 0 (EQ (some (vi rr.1)) rr.2) := by
            obtain ⟨q30, hj225, h⟩ := bnd_e h
            have K225 : At G mX5_yearAfter 3 225 [(0, vr 30), (4, vi p4), (6, vi x1), (7, vi q2), (9, vi q30.1)] [] (mm q30.2) 0 0 (EQ (some (vi rr.1)) rr.2) := by
              refine At.iload dX5_yearAfter_225 rfl <| At.iload dX5_yearAfter_227 rfl <| At.iadd dX5_yearAfter_229 <| ?_
              obtain ⟨q33, hq33, h⟩ := bnd_e h
              obtain ⟨q34, hj246, h⟩ := bnd_e h
              have K246 : At G mX5_yearAfter 3 246 [(0, vr 30), (6, vi x1), (7, vi q2)] [vi q34] (mm q30.2) 0 0 (EQ (some (vi rr.1)) rr.2) := by
                refine At.istore (ls' := [(8, vi q34), (0, vr 30), (6, vi x1), (7, vi q2)]) dX5_yearAfter_246 (by decide) rfl <| ?_
                obtain rfl := Option.some.inj h
                exact At.sub [1, 2, 3, 0] rfl K248
              clear h; have h := hj246; clear hj246
              rcases ite_e h with ⟨c35, h⟩ | ⟨c35, h⟩
              · refine At.cS1 (av := [vi (w32 (p4 + q30.1))]) (rest := []) ms_X11_isYear lk_X5_100 dX5_yearAfter_230 rfl rfl (Nat.le_of_ble_eq_true rfl) (by decide) ⟨rfl, rfl⟩ (rX11_isYear hq33) <| At.bifeq_f (tgt := 244) dX5_yearAfter_233 (by decide) c35 <| ?_
                refine At.iload dX5_yearAfter_236 rfl <| At.iload dX5_yearAfter_238 rfl <| At.iadd dX5_yearAfter_240 <| At.goto (tgt := 246) dX5_yearAfter_241 (by decide) <| ?_
                obtain rfl := Option.some.inj h
                exact At.sub [0, 2, 3] rfl K246
              · refine At.cS1 (av := [vi (w32 (p4 + q30.1))]) (rest := []) ms_X11_isYear lk_X5_100 dX5_yearAfter_230 rfl rfl (Nat.le_of_ble_eq_true rfl) (by decide) ⟨rfl, rfl⟩ (rX11_isYear hq33) <| At.bifeq_t (tgt := 244) dX5_yearAfter_233 (by decide) c35 <| ?_
                refine At.bipush dX5_yearAfter_244 (by decide) <| ?_
                obtain rfl := Option.some.inj h
                exact At.sub [0, 2, 3] rfl K246
            clear h; have h := hj225; clear hj225
            rcases ite_e h with ⟨c32, h⟩ | ⟨c32, h⟩
            · refine At.istore (ls' := [(9, vi q24), (0, vr 30), (4, vi p4), (6, vi x1), (7, vi q2)]) dX5_yearAfter_176 (by decide) rfl <| At.aloadn dX5_yearAfter_178 rfl <| At.getR fl_X5_26 sh_30 (le149 sh_30) rf_30_0 dX5_yearAfter_179 <| At.getI fl_X5_94 sh_2 (le149 sh_2) dX5_yearAfter_182 <| At.aloadn dX5_yearAfter_185 rfl <| At.getR fl_X5_26 sh_30 (le149 sh_30) rf_30_0 dX5_yearAfter_186 <| At.getI fl_X5_97 sh_2 (le149 sh_2) dX5_yearAfter_189 <| At.icmp_eq_t (tgt := 225) dX5_yearAfter_192 (by decide) c32 <| ?_
              obtain rfl := Option.some.inj h
              exact At.sub [1, 2, 3, 4, 0] rfl K225
            · refine At.istore (ls' := [(9, vi q24), (0, vr 30), (4, vi p4), (6, vi x1), (7, vi q2)]) dX5_yearAfter_176 (by decide) rfl <| At.aloadn dX5_yearAfter_178 rfl <| At.getR fl_X5_26 sh_30 (le149 sh_30) rf_30_0 dX5_yearAfter_179 <| At.getI fl_X5_94 sh_2 (le149 sh_2) dX5_yearAfter_182 <| At.aloadn dX5_yearAfter_185 rfl <| At.getR fl_X5_26 sh_30 (le149 sh_30) rf_30_0 dX5_yearAfter_186 <| At.getI fl_X5_97 sh_2 (le149 sh_2) dX5_yearAfter_189 <| At.icmp_eq_f (tgt := 225) dX5_yearAfter_192 (by decide) c32 <| ?_
              refine At.aloadn dX5_yearAfter_195 rfl <| At.getR fl_X5_12 sh_30 (le149 sh_30) rf_30_1 dX5_yearAfter_196 <| At.aloadn dX5_yearAfter_199 rfl <| At.getR fl_X5_26 sh_30 (le149 sh_30) rf_30_0 dX5_yearAfter_200 <| At.getR fl_X5_87 sh_2 (le149 sh_2) rf_2_3 dX5_yearAfter_203 <| At.aloadn dX5_yearAfter_206 rfl <| At.getR fl_X5_26 sh_30 (le149 sh_30) rf_30_0 dX5_yearAfter_207 <| At.getI fl_X5_94 sh_2 (le149 sh_2) dX5_yearAfter_210 <| At.aloadn dX5_yearAfter_213 rfl <| At.getR fl_X5_26 sh_30 (le149 sh_30) rf_30_0 dX5_yearAfter_214 <| At.getI fl_X5_97 sh_2 (le149 sh_2) dX5_yearAfter_217 <| ?_
              obtain ⟨q31, hq31, h⟩ := bnd_e h
              refine At.cV1 (av := [vr 6, vi (q23.2 2 10), vi (q23.2 2 11)]) (rest := []) mv_X4_valueOf lk_X5_90 dX5_yearAfter_220 rfl rfl sh_31 (Nat.le_of_ble_eq_true rfl) (by decide) ⟨rfl, rfl⟩ (rX4_valueOf_900 sh_6 hq31) <| At.istore (ls' := [(9, vi q31.1), (0, vr 30), (4, vi p4), (6, vi x1), (7, vi q2)]) dX5_yearAfter_223 (by decide) rfl <| ?_
              obtain rfl := Option.some.inj h
              exact At.sub [1, 2, 3, 4, 0] rfl K225
          clear h; have h := hj176; clear hj176
          rcases ite_e h with ⟨c29, h⟩ | ⟨c29, h⟩
          · refine At.iloadn dX5_yearAfter_150 rfl <| At.if_ne_f (tgt := 166) dX5_yearAfter_151 (by decide) c29 <| ?_
            refine At.aloadn dX5_yearAfter_154 rfl <| At.getR fl_X5_26 sh_30 (le149 sh_30) rf_30_0 dX5_yearAfter_155 <| At.getR fl_X5_74 sh_2 (le149 sh_2) rf_2_2 dX5_yearAfter_158 <| At.iloadn dX5_yearAfter_161 rfl <| ?_
            obtain ⟨v25, hv25, g26, h⟩ := rdA_e h
            refine At.iald sh_5 (le149 sh_5) g26.1 g26.2 dX5_yearAfter_162 <| At.nm hv25 <| At.goto (tgt := 176) dX5_yearAfter_163 (by decide) <| ?_
            obtain rfl := Option.some.inj h
            exact At.sub [2, 6, 8, 1] rfl K176
          · refine At.iloadn dX5_yearAfter_150 rfl <| At.if_ne_t (tgt := 166) dX5_yearAfter_151 (by decide) c29 <| ?_
            refine At.aloadn dX5_yearAfter_166 rfl <| At.getR fl_X5_26 sh_30 (le149 sh_30) rf_30_0 dX5_yearAfter_167 <| At.getR fl_X5_74 sh_2 (le149 sh_2) rf_2_2 dX5_yearAfter_170 <| At.iloadn dX5_yearAfter_173 rfl <| ?_
            obtain ⟨v27, hv27, g28, h⟩ := rdA_e h
            refine At.iald sh_5 (le149 sh_5) g28.1 g28.2 dX5_yearAfter_174 <| At.nm hv27 <| At.ineg dX5_yearAfter_175 <| ?_
            obtain rfl := Option.some.inj h
            exact At.sub [2, 6, 8, 1] rfl K176
    · refine At.istore (ls' := [(7, vi q2), (0, vr 30), (1, vi p1), (2, vi p2), (3, vi p3), (4, vi p4), (5, vi p5), (6, vi x1)]) dX5_yearAfter_47 (by decide) rfl <| At.iload dX5_yearAfter_49 rfl <| At.if_eq_f (tgt := 75) dX5_yearAfter_51 (by decide) c83 <| ?_
      refine At.aloadn dX5_yearAfter_54 rfl <| At.getR fl_X5_18 sh_30 (le149 sh_30) rf_30_2 dX5_yearAfter_55 <| At.iload dX5_yearAfter_58 rfl <| ?_
      obtain ⟨v42, hv42, g43, h⟩ := rdA_e h
      rcases ite_e h with ⟨c82, h⟩ | ⟨c82, h⟩
      · refine At.iald sh_33 (le149 sh_33) g43.1 g43.2 dX5_yearAfter_60 <| At.nm hv42 <| At.if_eq_t (tgt := 75) dX5_yearAfter_61 (by decide) c82 <| ?_
        refine At.aloadn dX5_yearAfter_75 rfl <| At.getR fl_X5_12 sh_30 (le149 sh_30) rf_30_1 dX5_yearAfter_76 <| At.iloadn dX5_yearAfter_79 rfl <| At.iloadn dX5_yearAfter_80 rfl <| At.aloadn dX5_yearAfter_81 rfl <| At.getR fl_X5_26 sh_30 (le149 sh_30) rf_30_0 dX5_yearAfter_82 <| At.getR fl_X5_74 sh_2 (le149 sh_2) rf_2_2 dX5_yearAfter_85 <| At.iloadn dX5_yearAfter_88 rfl <| ?_
        obtain ⟨v44, hv44, g45, h⟩ := rdA_e h
        refine At.iald sh_5 (le149 sh_5) g45.1 g45.2 dX5_yearAfter_89 <| At.nm hv44 <| At.iloadn dX5_yearAfter_90 rfl <| At.iload dX5_yearAfter_91 rfl <| At.iload dX5_yearAfter_93 rfl <| ?_
        obtain ⟨q46, hq46, h⟩ := bnd_e h
        refine At.cV0 (av := [vi p1, vi p2, vi v44, vi p3, vi p4, vi p5]) (rest := []) mv_X4_setGoing lk_X5_77 dX5_yearAfter_95 rfl rfl sh_31 (Nat.le_of_ble_eq_true rfl) (by decide) ⟨rfl, rfl⟩ (rX4_setGoing hq46) <| At.bipush dX5_yearAfter_98 (by decide) <| ?_
        obtain ⟨x47, hx47, h⟩ := lt_e h
        obtain ⟨q48, hj248, h⟩ := bnd_e h
        have K248 : At G mX5_yearAfter 3 248 [(0, vr 30), (6, vi x1), (7, vi q2), (8, vi q48.1)] [] (mm q48.2) 0 0 (EQ (some (vi rr.1)) rr.2) := by
          obtain ⟨q76, hj265, h⟩ := bnd_e h
          have K265 : At G mX5_yearAfter 3 265 [(8, vi q48.1)] [] (mm q76) 0 0 (EQ (some (vi rr.1)) rr.2) := by
            refine At.iload dX5_yearAfter_265 rfl <| ?_
            obtain rfl := Option.some.inj h
            exact At.iret rfl (Nat.zero_le _) (Nat.zero_le _) ⟨rfl, rfl⟩ dX5_yearAfter_267
          clear h; have h := hj265; clear hj265
          rcases ite_e h with ⟨c79, h⟩ | ⟨c79, h⟩
          · refine At.iload dX5_yearAfter_248 rfl <| At.if_eq_t (tgt := 265) dX5_yearAfter_250 (by decide) c79 <| ?_
            obtain rfl := Option.some.inj h
            exact At.sub [3] rfl K265
          · refine At.iload dX5_yearAfter_248 rfl <| At.if_eq_f (tgt := 265) dX5_yearAfter_250 (by decide) c79 <| ?_
            refine At.aloadn dX5_yearAfter_253 rfl <| At.getR fl_X5_18 sh_30 (le149 sh_30) rf_30_2 dX5_yearAfter_254 <| At.iload dX5_yearAfter_257 rfl <| At.iload dX5_yearAfter_259 rfl <| At.bipush dX5_yearAfter_261 (by decide) <| At.iadd dX5_yearAfter_263 <| ?_
            obtain ⟨S77, hS77, g78, h⟩ := wrA_e h
            refine At.iast sh_33 (le149 sh_33) g78.1 g78.2 dX5_yearAfter_264 <| At.nmS hS77 <| ?_
            obtain rfl := Option.some.inj h
            exact At.sub [3] rfl K265
        clear h; have h := hj248; clear hj248
        rcases ite_e h with ⟨c75, h⟩ | ⟨c75, h⟩
        · refine At.nm hx47 <| At.istore (ls' := [(8, vi x47), (7, vi q2), (0, vr 30), (1, vi p1), (2, vi p2), (3, vi p3), (4, vi p4), (5, vi p5), (6, vi x1)]) dX5_yearAfter_100 (by decide) rfl <| At.aloadn dX5_yearAfter_102 rfl <| At.getR fl_X5_26 sh_30 (le149 sh_30) rf_30_0 dX5_yearAfter_103 <| At.getI fl_X5_81 sh_2 (le149 sh_2) dX5_yearAfter_106 <| At.aloadn dX5_yearAfter_109 rfl <| At.getR fl_X5_26 sh_30 (le149 sh_30) rf_30_0 dX5_yearAfter_110 <| At.getI fl_X5_84 sh_2 (le149 sh_2) dX5_yearAfter_113 <| At.icmp_eq_t (tgt := 150) dX5_yearAfter_116 (by decide) c75 <| ?_
          obtain ⟨q49, hj176, h⟩ := bnd_e h
          have K176 : At G mX5_yearAfter 3 176 [(0, vr 30), (4, vi p4), (6, vi x1), (7, vi q2)] [vi q49] (mm q46) 0 0 (EQ (some (vi rr.1)) rr.2) := by
            obtain ⟨q55, hj225, h⟩ := bnd_e h
            have K225 : At G mX5_yearAfter 3 225 [(0, vr 30), (4, vi p4), (6, vi x1), (7, vi q2), (9, vi q55.1)] [] (mm q55.2) 0 0 (EQ (some (vi rr.1)) rr.2) := by
              refine At.iload dX5_yearAfter_225 rfl <| At.iload dX5_yearAfter_227 rfl <| At.iadd dX5_yearAfter_229 <| ?_
              obtain ⟨q58, hq58, h⟩ := bnd_e h
              obtain ⟨q59, hj246, h⟩ := bnd_e h
              have K246 : At G mX5_yearAfter 3 246 [(0, vr 30), (6, vi x1), (7, vi q2)] [vi q59] (mm q55.2) 0 0 (EQ (some (vi rr.1)) rr.2) := by
                refine At.istore (ls' := [(8, vi q59), (0, vr 30), (6, vi x1), (7, vi q2)]) dX5_yearAfter_246 (by decide) rfl <| ?_
                obtain rfl := Option.some.inj h
                exact At.sub [1, 2, 3, 0] rfl K248
              clear h; have h := hj246; clear hj246
              rcases ite_e h with ⟨c60, h⟩ | ⟨c60, h⟩
              · refine At.cS1 (av := [vi (w32 (p4 + q55.1))]) (rest := []) ms_X11_isYear lk_X5_100 dX5_yearAfter_230 rfl rfl (Nat.le_of_ble_eq_true rfl) (by decide) ⟨rfl, rfl⟩ (rX11_isYear hq58) <| At.bifeq_f (tgt := 244) dX5_yearAfter_233 (by decide) c60 <| ?_
                refine At.iload dX5_yearAfter_236 rfl <| At.iload dX5_yearAfter_238 rfl <| At.iadd dX5_yearAfter_240 <| At.goto (tgt := 246) dX5_yearAfter_241 (by decide) <| ?_
                obtain rfl := Option.some.inj h
                exact At.sub [0, 2, 3] rfl K246
              · refine At.cS1 (av := [vi (w32 (p4 + q55.1))]) (rest := []) ms_X11_isYear lk_X5_100 dX5_yearAfter_230 rfl rfl (Nat.le_of_ble_eq_true rfl) (by decide) ⟨rfl, rfl⟩ (rX11_isYear hq58) <| At.bifeq_t (tgt := 244) dX5_yearAfter_233 (by decide) c60 <| ?_
                refine At.bipush dX5_yearAfter_244 (by decide) <| ?_
                obtain rfl := Option.some.inj h
                exact At.sub [0, 2, 3] rfl K246
            clear h; have h := hj225; clear hj225
            rcases ite_e h with ⟨c57, h⟩ | ⟨c57, h⟩
            · refine At.istore (ls' := [(9, vi q49), (0, vr 30), (4, vi p4), (6, vi x1), (7, vi q2)]) dX5_yearAfter_176 (by decide) rfl <| At.aloadn dX5_yearAfter_178 rfl <| At.getR fl_X5_26 sh_30 (le149 sh_30) rf_30_0 dX5_yearAfter_179 <| At.getI fl_X5_94 sh_2 (le149 sh_2) dX5_yearAfter_182 <| At.aloadn dX5_yearAfter_185 rfl <| At.getR fl_X5_26 sh_30 (le149 sh_30) rf_30_0 dX5_yearAfter_186 <| At.getI fl_X5_97 sh_2 (le149 sh_2) dX5_yearAfter_189 <| At.icmp_eq_t (tgt := 225) dX5_yearAfter_192 (by decide) c57 <| ?_
              obtain rfl := Option.some.inj h
              exact At.sub [1, 2, 3, 4, 0] rfl K225
            · refine At.istore (ls' := [(9, vi q49), (0, vr 30), (4, vi p4), (6, vi x1), (7, vi q2)]) dX5_yearAfter_176 (by decide) rfl <| At.aloadn dX5_yearAfter_178 rfl <| At.getR fl_X5_26 sh_30 (le149 sh_30) rf_30_0 dX5_yearAfter_179 <| At.getI fl_X5_94 sh_2 (le149 sh_2) dX5_yearAfter_182 <| At.aloadn dX5_yearAfter_185 rfl <| At.getR fl_X5_26 sh_30 (le149 sh_30) rf_30_0 dX5_yearAfter_186 <| At.getI fl_X5_97 sh_2 (le149 sh_2) dX5_yearAfter_189 <| At.icmp_eq_f (tgt := 225) dX5_yearAfter_192 (by decide) c57 <| ?_
              refine At.aloadn dX5_yearAfter_195 rfl <| At.getR fl_X5_12 sh_30 (le149 sh_30) rf_30_1 dX5_yearAfter_196 <| At.aloadn dX5_yearAfter_199 rfl <| At.getR fl_X5_26 sh_30 (le149 sh_30) rf_30_0 dX5_yearAfter_200 <| At.getR fl_X5_87 sh_2 (le149 sh_2) rf_2_3 dX5_yearAfter_203 <| At.aloadn dX5_yearAfter_206 rfl <| At.getR fl_X5_26 sh_30 (le149 sh_30) rf_30_0 dX5_yearAfter_207 <| At.getI fl_X5_94 sh_2 (le149 sh_2) dX5_yearAfter_210 <| At.aloadn dX5_yearAfter_213 rfl <| At.getR fl_X5_26 sh_30 (le149 sh_30) rf_30_0 dX5_yearAfter_214 <| At.getI fl_X5_97 sh_2 (le149 sh_2) dX5_yearAfter_217 <| ?_
              obtain ⟨q56, hq56, h⟩ := bnd_e h
              refine At.cV1 (av := [vr 6, vi (q46 2 10), vi (q46 2 11)]) (rest := []) mv_X4_valueOf lk_X5_90 dX5_yearAfter_220 rfl rfl sh_31 (Nat.le_of_ble_eq_true rfl) (by decide) ⟨rfl, rfl⟩ (rX4_valueOf_900 sh_6 hq56) <| At.istore (ls' := [(9, vi q56.1), (0, vr 30), (4, vi p4), (6, vi x1), (7, vi q2)]) dX5_yearAfter_223 (by decide) rfl <| ?_
              obtain rfl := Option.some.inj h
              exact At.sub [1, 2, 3, 4, 0] rfl K225
          clear h; have h := hj176; clear hj176
          rcases ite_e h with ⟨c54, h⟩ | ⟨c54, h⟩
          · refine At.iloadn dX5_yearAfter_150 rfl <| At.if_ne_f (tgt := 166) dX5_yearAfter_151 (by decide) c54 <| ?_
            refine At.aloadn dX5_yearAfter_154 rfl <| At.getR fl_X5_26 sh_30 (le149 sh_30) rf_30_0 dX5_yearAfter_155 <| At.getR fl_X5_74 sh_2 (le149 sh_2) rf_2_2 dX5_yearAfter_158 <| At.iloadn dX5_yearAfter_161 rfl <| ?_
            obtain ⟨v50, hv50, g51, h⟩ := rdA_e h
            refine At.iald sh_5 (le149 sh_5) g51.1 g51.2 dX5_yearAfter_162 <| At.nm hv50 <| At.goto (tgt := 176) dX5_yearAfter_163 (by decide) <| ?_
            obtain rfl := Option.some.inj h
            exact At.sub [2, 6, 8, 1] rfl K176
          · refine At.iloadn dX5_yearAfter_150 rfl <| At.if_ne_t (tgt := 166) dX5_yearAfter_151 (by decide) c54 <| ?_
            refine At.aloadn dX5_yearAfter_166 rfl <| At.getR fl_X5_26 sh_30 (le149 sh_30) rf_30_0 dX5_yearAfter_167 <| At.getR fl_X5_74 sh_2 (le149 sh_2) rf_2_2 dX5_yearAfter_170 <| At.iloadn dX5_yearAfter_173 rfl <| ?_
            obtain ⟨v52, hv52, g53, h⟩ := rdA_e h
            refine At.iald sh_5 (le149 sh_5) g53.1 g53.2 dX5_yearAfter_174 <| At.nm hv52 <| At.ineg dX5_yearAfter_175 <| ?_
            obtain rfl := Option.some.inj h
            exact At.sub [2, 6, 8, 1] rfl K176
        · refine At.nm hx47 <| At.istore (ls' := [(8, vi x47), (7, vi q2), (0, vr 30), (1, vi p1), (2, vi p2), (3, vi p3), (4, vi p4), (5, vi p5), (6, vi x1)]) dX5_yearAfter_100 (by decide) rfl <| At.aloadn dX5_yearAfter_102 rfl <| At.getR fl_X5_26 sh_30 (le149 sh_30) rf_30_0 dX5_yearAfter_103 <| At.getI fl_X5_81 sh_2 (le149 sh_2) dX5_yearAfter_106 <| At.aloadn dX5_yearAfter_109 rfl <| At.getR fl_X5_26 sh_30 (le149 sh_30) rf_30_0 dX5_yearAfter_110 <| At.getI fl_X5_84 sh_2 (le149 sh_2) dX5_yearAfter_113 <| At.icmp_eq_f (tgt := 150) dX5_yearAfter_116 (by decide) c75 <| ?_
          refine At.aloadn dX5_yearAfter_119 rfl <| At.getR fl_X5_12 sh_30 (le149 sh_30) rf_30_1 dX5_yearAfter_120 <| At.aloadn dX5_yearAfter_123 rfl <| At.getR fl_X5_26 sh_30 (le149 sh_30) rf_30_0 dX5_yearAfter_124 <| At.getR fl_X5_87 sh_2 (le149 sh_2) rf_2_3 dX5_yearAfter_127 <| At.aloadn dX5_yearAfter_130 rfl <| At.getR fl_X5_26 sh_30 (le149 sh_30) rf_30_0 dX5_yearAfter_131 <| At.getI fl_X5_81 sh_2 (le149 sh_2) dX5_yearAfter_134 <| At.aloadn dX5_yearAfter_137 rfl <| At.getR fl_X5_26 sh_30 (le149 sh_30) rf_30_0 dX5_yearAfter_138 <| At.getI fl_X5_84 sh_2 (le149 sh_2) dX5_yearAfter_141 <| ?_
          obtain ⟨q61, hq61, h⟩ := bnd_e h
          rcases ite_e h with ⟨c74, h⟩ | ⟨c74, h⟩
          · refine At.cV1 (av := [vr 6, vi (q46 2 12), vi (q46 2 13)]) (rest := []) mv_X4_valueOf lk_X5_90 dX5_yearAfter_144 rfl rfl sh_31 (Nat.le_of_ble_eq_true rfl) (by decide) ⟨rfl, rfl⟩ (rX4_valueOf_900 sh_6 hq61) <| At.if_eq_t (tgt := 248) dX5_yearAfter_147 (by decide) c74 <| ?_
            obtain rfl := Option.some.inj h
            exact At.sub [2, 8, 1, 0] rfl K248
          · refine At.cV1 (av := [vr 6, vi (q46 2 12), vi (q46 2 13)]) (rest := []) mv_X4_valueOf lk_X5_90 dX5_yearAfter_144 rfl rfl sh_31 (Nat.le_of_ble_eq_true rfl) (by decide) ⟨rfl, rfl⟩ (rX4_valueOf_900 sh_6 hq61) <| At.if_eq_f (tgt := 248) dX5_yearAfter_147 (by decide) c74 <| ?_
            obtain ⟨q62, hj176, h⟩ := bnd_e h
            have K176 : At G mX5_yearAfter 3 176 [(0, vr 30), (4, vi p4), (6, vi x1), (7, vi q2)] [vi q62] (mm q61.2) 0 0 (EQ (some (vi rr.1)) rr.2) := by
              obtain ⟨q68, hj225, h⟩ := bnd_e h
              have K225 : At G mX5_yearAfter 3 225 [(0, vr 30), (4, vi p4), (6, vi x1), (7, vi q2), (9, vi q68.1)] [] (mm q68.2) 0 0 (EQ (some (vi rr.1)) rr.2) := by
                refine At.iload dX5_yearAfter_225 rfl <| At.iload dX5_yearAfter_227 rfl <| At.iadd dX5_yearAfter_229 <| ?_
                obtain ⟨q71, hq71, h⟩ := bnd_e h
                obtain ⟨q72, hj246, h⟩ := bnd_e h
                have K246 : At G mX5_yearAfter 3 246 [(0, vr 30), (6, vi x1), (7, vi q2)] [vi q72] (mm q68.2) 0 0 (EQ (some (vi rr.1)) rr.2) := by
                  refine At.istore (ls' := [(8, vi q72), (0, vr 30), (6, vi x1), (7, vi q2)]) dX5_yearAfter_246 (by decide) rfl <| ?_
                  obtain rfl := Option.some.inj h
                  exact At.sub [1, 2, 3, 0] rfl K248
                clear h; have h := hj246; clear hj246
                rcases ite_e h with ⟨c73, h⟩ | ⟨c73, h⟩
                · refine At.cS1 (av := [vi (w32 (p4 + q68.1))]) (rest := []) ms_X11_isYear lk_X5_100 dX5_yearAfter_230 rfl rfl (Nat.le_of_ble_eq_true rfl) (by decide) ⟨rfl, rfl⟩ (rX11_isYear hq71) <| At.bifeq_f (tgt := 244) dX5_yearAfter_233 (by decide) c73 <| ?_
                  refine At.iload dX5_yearAfter_236 rfl <| At.iload dX5_yearAfter_238 rfl <| At.iadd dX5_yearAfter_240 <| At.goto (tgt := 246) dX5_yearAfter_241 (by decide) <| ?_
                  obtain rfl := Option.some.inj h
                  exact At.sub [0, 2, 3] rfl K246
                · refine At.cS1 (av := [vi (w32 (p4 + q68.1))]) (rest := []) ms_X11_isYear lk_X5_100 dX5_yearAfter_230 rfl rfl (Nat.le_of_ble_eq_true rfl) (by decide) ⟨rfl, rfl⟩ (rX11_isYear hq71) <| At.bifeq_t (tgt := 244) dX5_yearAfter_233 (by decide) c73 <| ?_
                  refine At.bipush dX5_yearAfter_244 (by decide) <| ?_
                  obtain rfl := Option.some.inj h
                  exact At.sub [0, 2, 3] rfl K246
              clear h; have h := hj225; clear hj225
              rcases ite_e h with ⟨c70, h⟩ | ⟨c70, h⟩
              · refine At.istore (ls' := [(9, vi q62), (0, vr 30), (4, vi p4), (6, vi x1), (7, vi q2)]) dX5_yearAfter_176 (by decide) rfl <| At.aloadn dX5_yearAfter_178 rfl <| At.getR fl_X5_26 sh_30 (le149 sh_30) rf_30_0 dX5_yearAfter_179 <| At.getI fl_X5_94 sh_2 (le149 sh_2) dX5_yearAfter_182 <| At.aloadn dX5_yearAfter_185 rfl <| At.getR fl_X5_26 sh_30 (le149 sh_30) rf_30_0 dX5_yearAfter_186 <| At.getI fl_X5_97 sh_2 (le149 sh_2) dX5_yearAfter_189 <| At.icmp_eq_t (tgt := 225) dX5_yearAfter_192 (by decide) c70 <| ?_
                obtain rfl := Option.some.inj h
                exact At.sub [1, 2, 3, 4, 0] rfl K225
              · refine At.istore (ls' := [(9, vi q62), (0, vr 30), (4, vi p4), (6, vi x1), (7, vi q2)]) dX5_yearAfter_176 (by decide) rfl <| At.aloadn dX5_yearAfter_178 rfl <| At.getR fl_X5_26 sh_30 (le149 sh_30) rf_30_0 dX5_yearAfter_179 <| At.getI fl_X5_94 sh_2 (le149 sh_2) dX5_yearAfter_182 <| At.aloadn dX5_yearAfter_185 rfl <| At.getR fl_X5_26 sh_30 (le149 sh_30) rf_30_0 dX5_yearAfter_186 <| At.getI fl_X5_97 sh_2 (le149 sh_2) dX5_yearAfter_189 <| At.icmp_eq_f (tgt := 225) dX5_yearAfter_192 (by decide) c70 <| ?_
                refine At.aloadn dX5_yearAfter_195 rfl <| At.getR fl_X5_12 sh_30 (le149 sh_30) rf_30_1 dX5_yearAfter_196 <| At.aloadn dX5_yearAfter_199 rfl <| At.getR fl_X5_26 sh_30 (le149 sh_30) rf_30_0 dX5_yearAfter_200 <| At.getR fl_X5_87 sh_2 (le149 sh_2) rf_2_3 dX5_yearAfter_203 <| At.aloadn dX5_yearAfter_206 rfl <| At.getR fl_X5_26 sh_30 (le149 sh_30) rf_30_0 dX5_yearAfter_207 <| At.getI fl_X5_94 sh_2 (le149 sh_2) dX5_yearAfter_210 <| At.aloadn dX5_yearAfter_213 rfl <| At.getR fl_X5_26 sh_30 (le149 sh_30) rf_30_0 dX5_yearAfter_214 <| At.getI fl_X5_97 sh_2 (le149 sh_2) dX5_yearAfter_217 <| ?_
                obtain ⟨q69, hq69, h⟩ := bnd_e h
                refine At.cV1 (av := [vr 6, vi (q61.2 2 10), vi (q61.2 2 11)]) (rest := []) mv_X4_valueOf lk_X5_90 dX5_yearAfter_220 rfl rfl sh_31 (Nat.le_of_ble_eq_true rfl) (by decide) ⟨rfl, rfl⟩ (rX4_valueOf_900 sh_6 hq69) <| At.istore (ls' := [(9, vi q69.1), (0, vr 30), (4, vi p4), (6, vi x1), (7, vi q2)]) dX5_yearAfter_223 (by decide) rfl <| ?_
                obtain rfl := Option.some.inj h
                exact At.sub [1, 2, 3, 4, 0] rfl K225
            clear h; have h := hj176; clear hj176
            rcases ite_e h with ⟨c67, h⟩ | ⟨c67, h⟩
            · refine At.iloadn dX5_yearAfter_150 rfl <| At.if_ne_f (tgt := 166) dX5_yearAfter_151 (by decide) c67 <| ?_
              refine At.aloadn dX5_yearAfter_154 rfl <| At.getR fl_X5_26 sh_30 (le149 sh_30) rf_30_0 dX5_yearAfter_155 <| At.getR fl_X5_74 sh_2 (le149 sh_2) rf_2_2 dX5_yearAfter_158 <| At.iloadn dX5_yearAfter_161 rfl <| ?_
              obtain ⟨v63, hv63, g64, h⟩ := rdA_e h
              refine At.iald sh_5 (le149 sh_5) g64.1 g64.2 dX5_yearAfter_162 <| At.nm hv63 <| At.goto (tgt := 176) dX5_yearAfter_163 (by decide) <| ?_
              obtain rfl := Option.some.inj h
              exact At.sub [2, 6, 8, 1] rfl K176
            · refine At.iloadn dX5_yearAfter_150 rfl <| At.if_ne_t (tgt := 166) dX5_yearAfter_151 (by decide) c67 <| ?_
              refine At.aloadn dX5_yearAfter_166 rfl <| At.getR fl_X5_26 sh_30 (le149 sh_30) rf_30_0 dX5_yearAfter_167 <| At.getR fl_X5_74 sh_2 (le149 sh_2) rf_2_2 dX5_yearAfter_170 <| At.iloadn dX5_yearAfter_173 rfl <| ?_
              obtain ⟨v65, hv65, g66, h⟩ := rdA_e h
              refine At.iald sh_5 (le149 sh_5) g66.1 g66.2 dX5_yearAfter_174 <| At.nm hv65 <| At.ineg dX5_yearAfter_175 <| ?_
              obtain rfl := Option.some.inj h
              exact At.sub [2, 6, 8, 1] rfl K176
      · refine At.iald sh_33 (le149 sh_33) g43.1 g43.2 dX5_yearAfter_60 <| At.nm hv42 <| At.if_eq_f (tgt := 75) dX5_yearAfter_61 (by decide) c82 <| ?_
        refine At.aloadn dX5_yearAfter_64 rfl <| At.getR fl_X5_18 sh_30 (le149 sh_30) rf_30_2 dX5_yearAfter_65 <| At.iload dX5_yearAfter_68 rfl <| ?_
        obtain ⟨v80, hv80, g81, h⟩ := rdA_e h
        refine At.iald sh_33 (le149 sh_33) g81.1 g81.2 dX5_yearAfter_70 <| At.nm hv80 <| At.bipush dX5_yearAfter_71 (by decide) <| At.isub dX5_yearAfter_73 <| ?_
        obtain rfl := Option.some.inj h
        exact At.iret rfl (Nat.zero_le _) (Nat.zero_le _) ⟨rfl, rfl⟩ dX5_yearAfter_74
  clear h; have h := hj47; clear hj47
  rcases ite_e h with ⟨c5, h⟩ | ⟨c5, h⟩
  · refine At.nm hx1 <| At.istore (ls' := [(6, vi x1), (0, vr 30), (1, vi p1), (2, vi p2), (3, vi p3), (4, vi p4), (5, vi p5)]) dX5_yearAfter_16 (by decide) rfl <| At.iload dX5_yearAfter_18 rfl <| At.aloadn dX5_yearAfter_20 rfl <| At.getI fl_X5_22 sh_30 (le149 sh_30) dX5_yearAfter_21 <| At.icmp_ne_f (tgt := 46) dX5_yearAfter_24 (by decide) c5 <| ?_
    rcases ite_e h with ⟨c4, h⟩ | ⟨c4, h⟩
    · refine At.iload dX5_yearAfter_27 rfl <| At.if_lt_t (tgt := 46) dX5_yearAfter_29 (by decide) c4 <| ?_
      refine At.iconst dX5_yearAfter_46 (by decide) <| ?_
      obtain rfl := Option.some.inj h
      exact At.sub [1, 2, 3, 4, 5, 6, 0] rfl K47
    · refine At.iload dX5_yearAfter_27 rfl <| At.if_lt_f (tgt := 46) dX5_yearAfter_29 (by decide) c4 <| ?_
      rcases ite_e h with ⟨c3, h⟩ | ⟨c3, h⟩
      · refine At.iload dX5_yearAfter_32 rfl <| At.aloadn dX5_yearAfter_34 rfl <| At.getR fl_X5_18 sh_30 (le149 sh_30) rf_30_2 dX5_yearAfter_35 <| At.alenI sh_33 (le149 sh_33) (by decide) (z := 960) rfl dX5_yearAfter_38 <| At.icmp_ge_t (tgt := 46) dX5_yearAfter_39 (by decide) c3 <| ?_
        refine At.iconst dX5_yearAfter_46 (by decide) <| ?_
        obtain rfl := Option.some.inj h
        exact At.sub [1, 2, 3, 4, 5, 6, 0] rfl K47
      · refine At.iload dX5_yearAfter_32 rfl <| At.aloadn dX5_yearAfter_34 rfl <| At.getR fl_X5_18 sh_30 (le149 sh_30) rf_30_2 dX5_yearAfter_35 <| At.alenI sh_33 (le149 sh_33) (by decide) (z := 960) rfl dX5_yearAfter_38 <| At.icmp_ge_f (tgt := 46) dX5_yearAfter_39 (by decide) c3 <| ?_
        refine At.iconst dX5_yearAfter_42 (by decide) <| At.goto (tgt := 47) dX5_yearAfter_43 (by decide) <| ?_
        obtain rfl := Option.some.inj h
        exact At.sub [1, 2, 3, 4, 5, 6, 0] rfl K47
  · refine At.nm hx1 <| At.istore (ls' := [(6, vi x1), (0, vr 30), (1, vi p1), (2, vi p2), (3, vi p3), (4, vi p4), (5, vi p5)]) dX5_yearAfter_16 (by decide) rfl <| At.iload dX5_yearAfter_18 rfl <| At.aloadn dX5_yearAfter_20 rfl <| At.getI fl_X5_22 sh_30 (le149 sh_30) dX5_yearAfter_21 <| At.icmp_ne_t (tgt := 46) dX5_yearAfter_24 (by decide) c5 <| ?_
    refine At.iconst dX5_yearAfter_46 (by decide) <| ?_
    obtain rfl := Option.some.inj h
    exact At.sub [1, 2, 3, 4, 5, 6, 0] rfl K47
def fX5_after (p1 : Int) (p2 : Int) (p3 : Int) (p4 : Nat) (S : SS) : Option (Int × SS) :=
  Option.bind (fX8_hasGoer 2 p1 S) fun q1 =>
  if q1 = true then (
    Option.bind (fX8_hasStreet 2 p2 S) fun q2 =>
    if q2 = true then (
      Option.bind (fX11_isSpot p3) fun q3 =>
      if q3 = true then (
        Option.bind (fX6_signOf p4 p2 S) fun q4 =>
        Option.bind (fX5_sideOf p2 (w32 (Int.tdiv p3 20)) q4 S) fun q5 =>
        if q5 = ((-1)) then (
          some ((-2), S)
        ) else (
          Option.bind (fX5_yearAfter p1 p2 q5 (Int.tmod p3 20) (S p4 3) S) fun q6 =>
          if 0 ≤ q6.1 then (
            Option.bind (
              if q5 = 0 then (
                rdA q6.2 4 8 p2 fun v8 =>
                some v8
              ) else (
                rdA q6.2 3 8 p2 fun v10 =>
                some v10
              )
              : Option (Int)) fun q7 =>
            some (w32 ((w32 (q7 * 20)) + q6.1), q6.2)
          ) else (
            some (q6.1, q6.2)
          )
        )
      ) else (
        some ((-1), S)
      )
    ) else (
      some ((-1), S)
    )
  ) else (
    some ((-1), S)
  )
set_option maxRecDepth 100000 in
set_option maxHeartbeats 4000000 in
theorem rX5_after {G : GG} {p1 : Int} {p2 : Int} {p3 : Int} {p4 : Nat} {S : SS} {rr : (Int × SS)} (hp4 : sh p4 = (6, 4)) (h : fX5_after p1 p2 p3 p4 S = some rr) : RD G mX5_after 4 [vr 30, vi p1, vi p2, vi p3, vr p4] S (some (vi rr.1)) rr.2 := by
  unfold fX5_after at h
  refine Runs.of pl_X5 (Nat.le_of_ble_eq_true rfl) ?_
  show At G mX5_after 4 0 [(0, vr 30), (1, vi p1), (2, vi p2), (3, vi p3), (4, vr p4)] [] (mm S) 0 0 (EQ (some (vi rr.1)) rr.2)
  refine At.aloadn dX5_after_0 rfl <| At.getR fl_X5_26 sh_30 (le149 sh_30) rf_30_0 dX5_after_1 <| At.iloadn dX5_after_4 rfl <| ?_
  obtain ⟨q1, hq1, h⟩ := bnd_e h
  rcases ite_e h with ⟨c17, h⟩ | ⟨c17, h⟩
  · refine At.cV1 (av := [vi p1]) (rest := []) mv_X8_hasGoer lk_X5_36 dX5_after_5 rfl rfl sh_2 (Nat.le_of_ble_eq_true rfl) (by decide) ⟨rfl, rfl⟩ (rX8_hasGoer sh_2 hq1) <| At.bifeq_f (tgt := 29) dX5_after_8 (by decide) c17 <| ?_
    refine At.aloadn dX5_after_11 rfl <| At.getR fl_X5_26 sh_30 (le149 sh_30) rf_30_0 dX5_after_12 <| At.iloadn dX5_after_15 rfl <| ?_
    obtain ⟨q2, hq2, h⟩ := bnd_e h
    rcases ite_e h with ⟨c16, h⟩ | ⟨c16, h⟩
    · refine At.cV1 (av := [vi p2]) (rest := []) mv_X8_hasStreet lk_X5_42 dX5_after_16 rfl rfl sh_2 (Nat.le_of_ble_eq_true rfl) (by decide) ⟨rfl, rfl⟩ (rX8_hasStreet sh_2 hq2) <| At.bifeq_f (tgt := 29) dX5_after_19 (by decide) c16 <| ?_
      refine At.iloadn dX5_after_22 rfl <| ?_
      obtain ⟨q3, hq3, h⟩ := bnd_e h
      rcases ite_e h with ⟨c15, h⟩ | ⟨c15, h⟩
      · refine At.cS1 (av := [vi p3]) (rest := []) ms_X11_isSpot lk_X5_45 dX5_after_23 rfl rfl (Nat.le_of_ble_eq_true rfl) (by decide) ⟨rfl, rfl⟩ (rX11_isSpot hq3) <| At.bifne_t (tgt := 31) dX5_after_26 (by decide) c15 <| ?_
        refine At.aloadn dX5_after_31 rfl <| At.iloadn dX5_after_32 rfl <| At.iloadn dX5_after_33 rfl <| At.bipush dX5_after_34 (by decide) <| At.idiv dX5_after_36 (by decide) <| At.aload dX5_after_37 rfl <| At.iloadn dX5_after_39 rfl <| ?_
        obtain ⟨q4, hq4, h⟩ := bnd_e h
        refine At.cV1 (av := [vi p2]) (rest := [vi (w32 (Int.tdiv p3 20)), vi p2, vr 30]) mv_X6_signOf lk_X5_48 dX5_after_40 rfl rfl hp4 (Nat.le_of_ble_eq_true rfl) (by decide) ⟨rfl, rfl⟩ (rX6_signOf hp4 hq4) <| ?_
        obtain ⟨q5, hq5, h⟩ := bnd_e h
        rcases ite_e h with ⟨c14, h⟩ | ⟨c14, h⟩
        · refine At.cV1 (av := [vi p2, vi (w32 (Int.tdiv p3 20)), vi q4]) (rest := []) mv_X5_sideOf lk_X5_54 dX5_after_43 rfl rfl sh_30 (Nat.le_of_ble_eq_true rfl) (by decide) ⟨rfl, rfl⟩ (rX5_sideOf hq5) <| At.istore (ls' := [(5, vi q5), (0, vr 30), (1, vi p1), (2, vi p2), (3, vi p3), (4, vr p4)]) dX5_after_46 (by decide) rfl <| At.iload dX5_after_48 rfl <| At.iconst dX5_after_50 (by decide) <| At.icmp_ne_f (tgt := 57) dX5_after_51 (by decide) c14 <| ?_
          refine At.bipush dX5_after_54 (by decide) <| ?_
          obtain rfl := Option.some.inj h
          exact At.iret rfl (Nat.zero_le _) (Nat.zero_le _) ⟨rfl, rfl⟩ dX5_after_56
        · refine At.cV1 (av := [vi p2, vi (w32 (Int.tdiv p3 20)), vi q4]) (rest := []) mv_X5_sideOf lk_X5_54 dX5_after_43 rfl rfl sh_30 (Nat.le_of_ble_eq_true rfl) (by decide) ⟨rfl, rfl⟩ (rX5_sideOf hq5) <| At.istore (ls' := [(5, vi q5), (0, vr 30), (1, vi p1), (2, vi p2), (3, vi p3), (4, vr p4)]) dX5_after_46 (by decide) rfl <| At.iload dX5_after_48 rfl <| At.iconst dX5_after_50 (by decide) <| At.icmp_ne_t (tgt := 57) dX5_after_51 (by decide) c14 <| ?_
          refine At.aloadn dX5_after_57 rfl <| At.iloadn dX5_after_58 rfl <| At.iloadn dX5_after_59 rfl <| At.iload dX5_after_60 rfl <| At.iloadn dX5_after_62 rfl <| At.bipush dX5_after_63 (by decide) <| At.irem dX5_after_65 (by decide) <| At.aload dX5_after_66 rfl <| At.getI fl_X5_58 hp4 (le149 hp4) dX5_after_68 <| ?_
          obtain ⟨q6, hq6, h⟩ := bnd_e h
          rcases ite_e h with ⟨c13, h⟩ | ⟨c13, h⟩
          · refine At.cV1 (av := [vi p1, vi p2, vi q5, vi (Int.tmod p3 20), vi (S p4 3)]) (rest := []) mv_X5_yearAfter lk_X5_61 dX5_after_71 rfl rfl sh_30 (Nat.le_of_ble_eq_true rfl) (by decide) ⟨rfl, rfl⟩ (rX5_yearAfter hq6) <| At.istore (ls' := [(6, vi q6.1), (5, vi q5), (0, vr 30), (1, vi p1), (2, vi p2), (3, vi p3), (4, vr p4)]) dX5_after_74 (by decide) rfl <| At.iload dX5_after_76 rfl <| At.if_ge_t (tgt := 84) dX5_after_78 (by decide) c13 <| ?_
            obtain ⟨q7, hj110, h⟩ := bnd_e h
            have K110 : At G mX5_after 4 110 [(6, vi q6.1)] [vi q7] (mm q6.2) 0 0 (EQ (some (vi rr.1)) rr.2) := by
              refine At.istore (ls' := [(7, vi q7), (6, vi q6.1)]) dX5_after_110 (by decide) rfl <| At.iload dX5_after_112 rfl <| At.bipush dX5_after_114 (by decide) <| At.imul dX5_after_116 <| At.iload dX5_after_117 rfl <| At.iadd dX5_after_119 <| ?_
              obtain rfl := Option.some.inj h
              exact At.iret rfl (Nat.zero_le _) (Nat.zero_le _) ⟨rfl, rfl⟩ dX5_after_120
            clear h; have h := hj110; clear hj110
            rcases ite_e h with ⟨c12, h⟩ | ⟨c12, h⟩
            · refine At.iload dX5_after_84 rfl <| At.if_ne_f (tgt := 101) dX5_after_86 (by decide) c12 <| ?_
              refine At.aloadn dX5_after_89 rfl <| At.getR fl_X5_26 sh_30 (le149 sh_30) rf_30_0 dX5_after_90 <| At.getR fl_X5_65 sh_2 (le149 sh_2) rf_2_1 dX5_after_93 <| At.iloadn dX5_after_96 rfl <| ?_
              obtain ⟨v8, hv8, g9, h⟩ := rdA_e h
              refine At.iald sh_4 (le149 sh_4) g9.1 g9.2 dX5_after_97 <| At.nm hv8 <| At.goto (tgt := 110) dX5_after_98 (by decide) <| ?_
              obtain rfl := Option.some.inj h
              exact At.sub [0] rfl K110
            · refine At.iload dX5_after_84 rfl <| At.if_ne_t (tgt := 101) dX5_after_86 (by decide) c12 <| ?_
              refine At.aloadn dX5_after_101 rfl <| At.getR fl_X5_26 sh_30 (le149 sh_30) rf_30_0 dX5_after_102 <| At.getR fl_X5_68 sh_2 (le149 sh_2) rf_2_0 dX5_after_105 <| At.iloadn dX5_after_108 rfl <| ?_
              obtain ⟨v10, hv10, g11, h⟩ := rdA_e h
              refine At.iald sh_3 (le149 sh_3) g11.1 g11.2 dX5_after_109 <| At.nm hv10 <| ?_
              obtain rfl := Option.some.inj h
              exact At.sub [0] rfl K110
          · refine At.cV1 (av := [vi p1, vi p2, vi q5, vi (Int.tmod p3 20), vi (S p4 3)]) (rest := []) mv_X5_yearAfter lk_X5_61 dX5_after_71 rfl rfl sh_30 (Nat.le_of_ble_eq_true rfl) (by decide) ⟨rfl, rfl⟩ (rX5_yearAfter hq6) <| At.istore (ls' := [(6, vi q6.1), (5, vi q5), (0, vr 30), (1, vi p1), (2, vi p2), (3, vi p3), (4, vr p4)]) dX5_after_74 (by decide) rfl <| At.iload dX5_after_76 rfl <| At.if_ge_f (tgt := 84) dX5_after_78 (by decide) c13 <| ?_
            refine At.iload dX5_after_81 rfl <| ?_
            obtain rfl := Option.some.inj h
            exact At.iret rfl (Nat.zero_le _) (Nat.zero_le _) ⟨rfl, rfl⟩ dX5_after_83
      · refine At.cS1 (av := [vi p3]) (rest := []) ms_X11_isSpot lk_X5_45 dX5_after_23 rfl rfl (Nat.le_of_ble_eq_true rfl) (by decide) ⟨rfl, rfl⟩ (rX11_isSpot hq3) <| At.bifne_f (tgt := 31) dX5_after_26 (by decide) c15 <| ?_
        refine At.iconst dX5_after_29 (by decide) <| ?_
        obtain rfl := Option.some.inj h
        exact At.iret rfl (Nat.zero_le _) (Nat.zero_le _) ⟨rfl, rfl⟩ dX5_after_30
    · refine At.cV1 (av := [vi p2]) (rest := []) mv_X8_hasStreet lk_X5_42 dX5_after_16 rfl rfl sh_2 (Nat.le_of_ble_eq_true rfl) (by decide) ⟨rfl, rfl⟩ (rX8_hasStreet sh_2 hq2) <| At.bifeq_t (tgt := 29) dX5_after_19 (by decide) c16 <| ?_
      refine At.iconst dX5_after_29 (by decide) <| ?_
      obtain rfl := Option.some.inj h
      exact At.iret rfl (Nat.zero_le _) (Nat.zero_le _) ⟨rfl, rfl⟩ dX5_after_30
  · refine At.cV1 (av := [vi p1]) (rest := []) mv_X8_hasGoer lk_X5_36 dX5_after_5 rfl rfl sh_2 (Nat.le_of_ble_eq_true rfl) (by decide) ⟨rfl, rfl⟩ (rX8_hasGoer sh_2 hq1) <| At.bifeq_t (tgt := 29) dX5_after_8 (by decide) c17 <| ?_
    refine At.iconst dX5_after_29 (by decide) <| ?_
    obtain rfl := Option.some.inj h
    exact At.iret rfl (Nat.zero_le _) (Nat.zero_le _) ⟨rfl, rfl⟩ dX5_after_30
def fX11_streetsOpenTo_L4 (l1 : Int) : Nat → Int → Int → SS → Option (Int × SS)
  | 0, _, _, _ => none
  | n + 1, l2, l3, S =>
    if (S 2 6) ≤ l3 then (
      some (l2, S)
    ) else (
      Option.bind (fX6_spotOf 7 l1 S) fun q1 =>
      Option.bind (fX5_after l1 l3 q1 7 S) fun q2 =>
      Option.bind (
        if q2.1 < 0 then (
          some l2
        ) else (
          lt (jor l2 (jshl 1 l3)) fun x4 =>
          some x4
        )
        : Option (Int)) fun q3 =>
      lt (w32 (l3 + 1)) fun x6 =>
      fX11_streetsOpenTo_L4 l1 n q3 x6 q2.2
    )
def fX11_streetsOpenTo (p1 : Int) (S : SS) : Option (Int × SS) :=
  Option.bind (fX11_streetsOpenTo_L4 p1 FU 0 0 S) fun q1 =>
  some (q1.1, q1.2)
set_option maxRecDepth 100000 in
set_option maxHeartbeats 4000000 in
theorem lX11_streetsOpenTo_L4 {G : GG} {Φ : Option VV → MM → Prop} {l1 : Int} : ∀ (n : Nat) (l2 : Int) (l3 : Int) (S : SS) (q : Int × SS), fX11_streetsOpenTo_L4 l1 n l2 l3 S = some q → At G mX11_streetsOpenTo 5 51 [(2, vi q.1)] [] (mm q.2) 0 0 Φ → At G mX11_streetsOpenTo 5 4 [(0, vr 1), (1, vi l1), (2, vi l2), (3, vi l3)] [] (mm S) 0 0 Φ := by
  intro n
  induction n with
  | zero =>
    intro _ _ _ _ h
    cases h
  | succ n ih =>
    intro l2 l3 S q h K51
    unfold fX11_streetsOpenTo_L4 at h
    rcases ite_e h with ⟨c7, h⟩ | ⟨c7, h⟩
    · refine At.iloadn dX11_streetsOpenTo_4 rfl <| At.aloadn dX11_streetsOpenTo_5 rfl <| At.getR fl_X11_12 sh_1 (le149 sh_1) rf_1_0 dX11_streetsOpenTo_6 <| At.getI fl_X11_160 sh_2 (le149 sh_2) dX11_streetsOpenTo_9 <| At.icmp_ge_t (tgt := 51) dX11_streetsOpenTo_12 (by decide) c7 <| ?_
      obtain rfl := Option.some.inj h
      exact At.sub [2] rfl K51
    · refine At.iloadn dX11_streetsOpenTo_4 rfl <| At.aloadn dX11_streetsOpenTo_5 rfl <| At.getR fl_X11_12 sh_1 (le149 sh_1) rf_1_0 dX11_streetsOpenTo_6 <| At.getI fl_X11_160 sh_2 (le149 sh_2) dX11_streetsOpenTo_9 <| At.icmp_ge_f (tgt := 51) dX11_streetsOpenTo_12 (by decide) c7 <| ?_
      refine At.aloadn dX11_streetsOpenTo_15 rfl <| At.getR fl_X11_44 sh_1 (le149 sh_1) rf_1_5 dX11_streetsOpenTo_16 <| At.iloadn dX11_streetsOpenTo_19 rfl <| At.iloadn dX11_streetsOpenTo_20 rfl <| At.aloadn dX11_streetsOpenTo_21 rfl <| At.getR fl_X11_20 sh_1 (le149 sh_1) rf_1_1 dX11_streetsOpenTo_22 <| At.iloadn dX11_streetsOpenTo_25 rfl <| ?_
      obtain ⟨q1, hq1, h⟩ := bnd_e h
      refine At.cV1 (av := [vi l1]) (rest := [vi l3, vi l1, vr 30]) mv_X6_spotOf lk_X11_163 dX11_streetsOpenTo_26 rfl rfl sh_7 (Nat.le_of_ble_eq_true rfl) (by decide) ⟨rfl, rfl⟩ (rX6_spotOf sh_7 hq1) <| At.aloadn dX11_streetsOpenTo_29 rfl <| At.getR fl_X11_20 sh_1 (le149 sh_1) rf_1_1 dX11_streetsOpenTo_30 <| ?_
      obtain ⟨q2, hq2, h⟩ := bnd_e h
      obtain ⟨q3, hj45, h⟩ := bnd_e h
      have K45 : At G mX11_streetsOpenTo 5 45 [(0, vr 1), (1, vi l1), (2, vi q3), (3, vi l3)] [] (mm q2.2) 0 0 Φ := by
        obtain ⟨x6, hx6, h⟩ := lt_e h
        refine At.iinc (ls' := [(3, vi x6), (0, vr 1), (1, vi l1), (2, vi q3)]) dX11_streetsOpenTo_45 rfl (by decide) (by rw [hx6]; rfl) <| At.goto (tgt := 4) dX11_streetsOpenTo_48 (by decide) <| ?_
        exact At.sub [1, 2, 3, 0] rfl (ih _ _ _ _ h K51)
      clear h; have h := hj45; clear hj45
      rcases ite_e h with ⟨c5, h⟩ | ⟨c5, h⟩
      · refine At.cV1 (av := [vi l1, vi l3, vi q1, vr 7]) (rest := []) mv_X5_after lk_X11_166 dX11_streetsOpenTo_33 rfl rfl sh_30 (Nat.le_of_ble_eq_true rfl) (by decide) ⟨rfl, rfl⟩ (rX5_after sh_7 hq2) <| At.if_lt_t (tgt := 45) dX11_streetsOpenTo_36 (by decide) c5 <| ?_
        obtain rfl := Option.some.inj h
        exact At.sub [0, 1, 2, 3] rfl K45
      · refine At.cV1 (av := [vi l1, vi l3, vi q1, vr 7]) (rest := []) mv_X5_after lk_X11_166 dX11_streetsOpenTo_33 rfl rfl sh_30 (Nat.le_of_ble_eq_true rfl) (by decide) ⟨rfl, rfl⟩ (rX5_after sh_7 hq2) <| At.if_lt_f (tgt := 45) dX11_streetsOpenTo_36 (by decide) c5 <| ?_
        refine At.iloadn dX11_streetsOpenTo_39 rfl <| At.iconst dX11_streetsOpenTo_40 (by decide) <| At.iloadn dX11_streetsOpenTo_41 rfl <| At.ishl dX11_streetsOpenTo_42 <| At.ior dX11_streetsOpenTo_43 <| ?_
        obtain ⟨x4, hx4, h⟩ := lt_e h
        refine At.nm hx4 <| At.istoren (ls' := [(2, vi x4), (0, vr 1), (1, vi l1), (3, vi l3)]) dX11_streetsOpenTo_44 (by decide) rfl <| ?_
        obtain rfl := Option.some.inj h
        exact At.sub [1, 2, 0, 3] rfl K45
set_option maxRecDepth 100000 in
set_option maxHeartbeats 4000000 in
theorem rX11_streetsOpenTo {G : GG} {p1 : Int} {S : SS} {rr : (Int × SS)} (h : fX11_streetsOpenTo p1 S = some rr) : RD G mX11_streetsOpenTo 5 [vr 1, vi p1] S (some (vi rr.1)) rr.2 := by
  unfold fX11_streetsOpenTo at h
  refine Runs.of pl_X11 (Nat.le_of_ble_eq_true rfl) ?_
  show At G mX11_streetsOpenTo 5 0 [(0, vr 1), (1, vi p1)] [] (mm S) 0 0 (EQ (some (vi rr.1)) rr.2)
  refine At.iconst dX11_streetsOpenTo_0 (by decide) <| At.istoren (ls' := [(2, vi 0), (0, vr 1), (1, vi p1)]) dX11_streetsOpenTo_1 (by decide) rfl <| At.iconst dX11_streetsOpenTo_2 (by decide) <| At.istoren (ls' := [(3, vi 0), (2, vi 0), (0, vr 1), (1, vi p1)]) dX11_streetsOpenTo_3 (by decide) rfl <| ?_
  obtain ⟨q1, ho2, h⟩ := bnd_e h
  refine At.sub [2, 3, 1, 0] rfl (lX11_streetsOpenTo_L4 FU _ _ _ q1 ho2 ?_)
  refine At.iloadn dX11_streetsOpenTo_51 rfl <| ?_
  obtain rfl := Option.some.inj h
  exact At.iret rfl (Nat.zero_le _) (Nat.zero_le _) ⟨rfl, rfl⟩ dX11_streetsOpenTo_52
def fX11_goer (p1 : Int) (p2 : Int) (S : SS) : Option (Int × SS) :=
  Option.bind (fX8_hasGoer 2 p1 S) fun q1 =>
  if q1 = true then (
    if p2 = 0 then (
      Option.bind (fX6_cornerOf 7 p1 S) fun q3 =>
      some (q3, S)
    ) else (
      if p2 = 1 then (
        Option.bind (fX6_yearOf 7 p1 S) fun q5 =>
        some (q5, S)
      ) else (
        if p2 = 2 then (
          Option.bind (fX11_streetsOpenTo p1 S) fun q7 =>
          some (q7.1, q7.2)
        ) else (
          some ((-2), S)
        )
      )
    )
  ) else (
    some ((-2), S)
  )
set_option maxRecDepth 100000 in
set_option maxHeartbeats 4000000 in
theorem rX11_goer {G : GG} {p1 : Int} {p2 : Int} {S : SS} {rr : (Int × SS)} (h : fX11_goer p1 p2 S = some rr) : RD G mX11_goer 6 [vr 1, vi p1, vi p2] S (some (vi rr.1)) rr.2 := by
  unfold fX11_goer at h
  refine Runs.of pl_X11 (Nat.le_of_ble_eq_true rfl) ?_
  show At G mX11_goer 6 0 [(0, vr 1), (1, vi p1), (2, vi p2)] [] (mm S) 0 0 (EQ (some (vi rr.1)) rr.2)
  refine At.aloadn dX11_goer_0 rfl <| At.getR fl_X11_12 sh_1 (le149 sh_1) rf_1_0 dX11_goer_1 <| At.iloadn dX11_goer_4 rfl <| ?_
  obtain ⟨q1, hq1, h⟩ := bnd_e h
  rcases ite_e h with ⟨c8, h⟩ | ⟨c8, h⟩
  · refine At.cV1 (av := [vi p1]) (rest := []) mv_X8_hasGoer lk_X11_148 dX11_goer_5 rfl rfl sh_2 (Nat.le_of_ble_eq_true rfl) (by decide) ⟨rfl, rfl⟩ (rX8_hasGoer sh_2 hq1) <| At.bifne_t (tgt := 14) dX11_goer_8 (by decide) c8 <| ?_
    rcases ite_e h with ⟨c2, h⟩ | ⟨c2, h⟩
    · refine At.iloadn dX11_goer_14 rfl <| At.tsIn (off := 25) (tgt := 40) dX11_goer_15 (by omega) (by omega) (by rw [c2] <;> rfl) (by decide) <| ?_
      refine At.aloadn dX11_goer_40 rfl <| At.getR fl_X11_20 sh_1 (le149 sh_1) rf_1_1 dX11_goer_41 <| At.iloadn dX11_goer_44 rfl <| ?_
      obtain ⟨q3, hq3, h⟩ := bnd_e h
      refine At.cV1 (av := [vi p1]) (rest := []) mv_X6_cornerOf lk_X11_151 dX11_goer_45 rfl rfl sh_7 (Nat.le_of_ble_eq_true rfl) (by decide) ⟨rfl, rfl⟩ (rX6_cornerOf sh_7 hq3) <| ?_
      obtain rfl := Option.some.inj h
      exact At.iret rfl (Nat.zero_le _) (Nat.zero_le _) ⟨rfl, rfl⟩ dX11_goer_48
    · rcases ite_e h with ⟨c4, h⟩ | ⟨c4, h⟩
      · refine At.iloadn dX11_goer_14 rfl <| At.tsIn (off := 34) (tgt := 49) dX11_goer_15 (by omega) (by omega) (by rw [c4] <;> rfl) (by decide) <| ?_
        refine At.aloadn dX11_goer_49 rfl <| At.getR fl_X11_20 sh_1 (le149 sh_1) rf_1_1 dX11_goer_50 <| At.iloadn dX11_goer_53 rfl <| ?_
        obtain ⟨q5, hq5, h⟩ := bnd_e h
        refine At.cV1 (av := [vi p1]) (rest := []) mv_X6_yearOf lk_X11_154 dX11_goer_54 rfl rfl sh_7 (Nat.le_of_ble_eq_true rfl) (by decide) ⟨rfl, rfl⟩ (rX6_yearOf sh_7 hq5) <| ?_
        obtain rfl := Option.some.inj h
        exact At.iret rfl (Nat.zero_le _) (Nat.zero_le _) ⟨rfl, rfl⟩ dX11_goer_57
      · rcases ite_e h with ⟨c6, h⟩ | ⟨c6, h⟩
        · refine At.iloadn dX11_goer_14 rfl <| At.tsIn (off := 43) (tgt := 58) dX11_goer_15 (by omega) (by omega) (by rw [c6] <;> rfl) (by decide) <| ?_
          refine At.aloadn dX11_goer_58 rfl <| At.iloadn dX11_goer_59 rfl <| ?_
          obtain ⟨q7, hq7, h⟩ := bnd_e h
          refine At.cV1 (av := [vi p1]) (rest := []) mv_X11_streetsOpenTo lk_X11_157 dX11_goer_60 rfl rfl sh_1 (Nat.le_of_ble_eq_true rfl) (by decide) ⟨rfl, rfl⟩ (rX11_streetsOpenTo hq7) <| ?_
          obtain rfl := Option.some.inj h
          exact At.iret rfl (Nat.zero_le _) (Nat.zero_le _) ⟨rfl, rfl⟩ dX11_goer_63
        · have hz : (p2 < 0 ∨ 2 < p2) := by omega
          refine At.iloadn dX11_goer_14 rfl <| At.tsOut (tgt := 64) dX11_goer_15 hz (by decide) <| ?_
          refine At.bipush dX11_goer_64 (by decide) <| ?_
          obtain rfl := Option.some.inj h
          exact At.iret rfl (Nat.zero_le _) (Nat.zero_le _) ⟨rfl, rfl⟩ dX11_goer_66
  · refine At.cV1 (av := [vi p1]) (rest := []) mv_X8_hasGoer lk_X11_148 dX11_goer_5 rfl rfl sh_2 (Nat.le_of_ble_eq_true rfl) (by decide) ⟨rfl, rfl⟩ (rX8_hasGoer sh_2 hq1) <| At.bifne_f (tgt := 14) dX11_goer_8 (by decide) c8 <| ?_
    refine At.bipush dX11_goer_11 (by decide) <| ?_
    obtain rfl := Option.some.inj h
    exact At.iret rfl (Nat.zero_le _) (Nat.zero_le _) ⟨rfl, rfl⟩ dX11_goer_13
def fX11_why (p1 : Int) (p2 : Int) (S : SS) : Option (Int × SS) :=
  Option.bind (fX6_spotOf 7 p1 S) fun q1 =>
  Option.bind (fX5_after p1 p2 q1 7 S) fun q2 =>
  if 0 ≤ q2.1 then (
    some (0, q2.2)
  ) else (
    some (w32 (-q2.1), q2.2)
  )
set_option maxRecDepth 100000 in
set_option maxHeartbeats 4000000 in
theorem rX11_why {G : GG} {p1 : Int} {p2 : Int} {S : SS} {rr : (Int × SS)} (h : fX11_why p1 p2 S = some rr) : RD G mX11_why 5 [vr 1, vi p1, vi p2] S (some (vi rr.1)) rr.2 := by
  unfold fX11_why at h
  refine Runs.of pl_X11 (Nat.le_of_ble_eq_true rfl) ?_
  show At G mX11_why 5 0 [(0, vr 1), (1, vi p1), (2, vi p2)] [] (mm S) 0 0 (EQ (some (vi rr.1)) rr.2)
  refine At.aloadn dX11_why_0 rfl <| At.getR fl_X11_44 sh_1 (le149 sh_1) rf_1_5 dX11_why_1 <| At.iloadn dX11_why_4 rfl <| At.iloadn dX11_why_5 rfl <| At.aloadn dX11_why_6 rfl <| At.getR fl_X11_20 sh_1 (le149 sh_1) rf_1_1 dX11_why_7 <| At.iloadn dX11_why_10 rfl <| ?_
  obtain ⟨q1, hq1, h⟩ := bnd_e h
  refine At.cV1 (av := [vi p1]) (rest := [vi p2, vi p1, vr 30]) mv_X6_spotOf lk_X11_163 dX11_why_11 rfl rfl sh_7 (Nat.le_of_ble_eq_true rfl) (by decide) ⟨rfl, rfl⟩ (rX6_spotOf sh_7 hq1) <| At.aloadn dX11_why_14 rfl <| At.getR fl_X11_20 sh_1 (le149 sh_1) rf_1_1 dX11_why_15 <| ?_
  obtain ⟨q2, hq2, h⟩ := bnd_e h
  rcases ite_e h with ⟨c3, h⟩ | ⟨c3, h⟩
  · refine At.cV1 (av := [vi p1, vi p2, vi q1, vr 7]) (rest := []) mv_X5_after lk_X11_166 dX11_why_18 rfl rfl sh_30 (Nat.le_of_ble_eq_true rfl) (by decide) ⟨rfl, rfl⟩ (rX5_after sh_7 hq2) <| At.istoren (ls' := [(3, vi q2.1), (0, vr 1), (1, vi p1), (2, vi p2)]) dX11_why_21 (by decide) rfl <| At.iloadn dX11_why_22 rfl <| At.if_ge_t (tgt := 31) dX11_why_23 (by decide) c3 <| ?_
    refine At.iconst dX11_why_31 (by decide) <| ?_
    obtain rfl := Option.some.inj h
    exact At.iret rfl (Nat.zero_le _) (Nat.zero_le _) ⟨rfl, rfl⟩ dX11_why_32
  · refine At.cV1 (av := [vi p1, vi p2, vi q1, vr 7]) (rest := []) mv_X5_after lk_X11_166 dX11_why_18 rfl rfl sh_30 (Nat.le_of_ble_eq_true rfl) (by decide) ⟨rfl, rfl⟩ (rX5_after sh_7 hq2) <| At.istoren (ls' := [(3, vi q2.1), (0, vr 1), (1, vi p1), (2, vi p2)]) dX11_why_21 (by decide) rfl <| At.iloadn dX11_why_22 rfl <| At.if_ge_f (tgt := 31) dX11_why_23 (by decide) c3 <| ?_
    refine At.iloadn dX11_why_26 rfl <| At.ineg dX11_why_27 <| At.goto (tgt := 32) dX11_why_28 (by decide) <| ?_
    obtain rfl := Option.some.inj h
    exact At.iret rfl (Nat.zero_le _) (Nat.zero_le _) ⟨rfl, rfl⟩ dX11_why_32
def fX11_by (p1 : Int) (p2 : Int) (p3 : Int) (S : SS) : Option (Int × SS) :=
  if p3 < 0 then (
    some ((-2), S)
  ) else (
    if p3 ≤ 1 then (
      Option.bind (fX6_spotOf 7 p1 S) fun q1 =>
      Option.bind (fX5_after p1 p2 q1 7 S) fun q2 =>
      if 0 ≤ q2.1 then (
        if p3 = 0 then (
          some (w32 (Int.tdiv q2.1 20), q2.2)
        ) else (
          some (Int.tmod q2.1 20, q2.2)
        )
      ) else (
        some ((-5), q2.2)
      )
    ) else (
      some ((-2), S)
    )
  )
set_option maxRecDepth 100000 in
set_option maxHeartbeats 4000000 in
theorem rX11_by {G : GG} {p1 : Int} {p2 : Int} {p3 : Int} {S : SS} {rr : (Int × SS)} (h : fX11_by p1 p2 p3 S = some rr) : RD G mX11_by 5 [vr 1, vi p1, vi p2, vi p3] S (some (vi rr.1)) rr.2 := by
  unfold fX11_by at h
  refine Runs.of pl_X11 (Nat.le_of_ble_eq_true rfl) ?_
  show At G mX11_by 5 0 [(0, vr 1), (1, vi p1), (2, vi p2), (3, vi p3)] [] (mm S) 0 0 (EQ (some (vi rr.1)) rr.2)
  rcases ite_e h with ⟨c6, h⟩ | ⟨c6, h⟩
  · refine At.iloadn dX11_by_0 rfl <| At.if_lt_t (tgt := 9) dX11_by_1 (by decide) c6 <| ?_
    refine At.bipush dX11_by_9 (by decide) <| ?_
    obtain rfl := Option.some.inj h
    exact At.iret rfl (Nat.zero_le _) (Nat.zero_le _) ⟨rfl, rfl⟩ dX11_by_11
  · refine At.iloadn dX11_by_0 rfl <| At.if_lt_f (tgt := 9) dX11_by_1 (by decide) c6 <| ?_
    rcases ite_e h with ⟨c5, h⟩ | ⟨c5, h⟩
    · refine At.iloadn dX11_by_4 rfl <| At.iconst dX11_by_5 (by decide) <| At.icmp_le_t (tgt := 12) dX11_by_6 (by decide) c5 <| ?_
      refine At.aloadn dX11_by_12 rfl <| At.getR fl_X11_44 sh_1 (le149 sh_1) rf_1_5 dX11_by_13 <| At.iloadn dX11_by_16 rfl <| At.iloadn dX11_by_17 rfl <| At.aloadn dX11_by_18 rfl <| At.getR fl_X11_20 sh_1 (le149 sh_1) rf_1_1 dX11_by_19 <| At.iloadn dX11_by_22 rfl <| ?_
      obtain ⟨q1, hq1, h⟩ := bnd_e h
      refine At.cV1 (av := [vi p1]) (rest := [vi p2, vi p1, vr 30]) mv_X6_spotOf lk_X11_163 dX11_by_23 rfl rfl sh_7 (Nat.le_of_ble_eq_true rfl) (by decide) ⟨rfl, rfl⟩ (rX6_spotOf sh_7 hq1) <| At.aloadn dX11_by_26 rfl <| At.getR fl_X11_20 sh_1 (le149 sh_1) rf_1_1 dX11_by_27 <| ?_
      obtain ⟨q2, hq2, h⟩ := bnd_e h
      rcases ite_e h with ⟨c4, h⟩ | ⟨c4, h⟩
      · refine At.cV1 (av := [vi p1, vi p2, vi q1, vr 7]) (rest := []) mv_X5_after lk_X11_166 dX11_by_30 rfl rfl sh_30 (Nat.le_of_ble_eq_true rfl) (by decide) ⟨rfl, rfl⟩ (rX5_after sh_7 hq2) <| At.istore (ls' := [(4, vi q2.1), (0, vr 1), (1, vi p1), (2, vi p2), (3, vi p3)]) dX11_by_33 (by decide) rfl <| At.iload dX11_by_35 rfl <| At.if_ge_t (tgt := 43) dX11_by_37 (by decide) c4 <| ?_
        rcases ite_e h with ⟨c3, h⟩ | ⟨c3, h⟩
        · refine At.iloadn dX11_by_43 rfl <| At.if_ne_f (tgt := 55) dX11_by_44 (by decide) c3 <| ?_
          refine At.iload dX11_by_47 rfl <| At.bipush dX11_by_49 (by decide) <| At.idiv dX11_by_51 (by decide) <| At.goto (tgt := 60) dX11_by_52 (by decide) <| ?_
          obtain rfl := Option.some.inj h
          exact At.iret rfl (Nat.zero_le _) (Nat.zero_le _) ⟨rfl, rfl⟩ dX11_by_60
        · refine At.iloadn dX11_by_43 rfl <| At.if_ne_t (tgt := 55) dX11_by_44 (by decide) c3 <| ?_
          refine At.iload dX11_by_55 rfl <| At.bipush dX11_by_57 (by decide) <| At.irem dX11_by_59 (by decide) <| ?_
          obtain rfl := Option.some.inj h
          exact At.iret rfl (Nat.zero_le _) (Nat.zero_le _) ⟨rfl, rfl⟩ dX11_by_60
      · refine At.cV1 (av := [vi p1, vi p2, vi q1, vr 7]) (rest := []) mv_X5_after lk_X11_166 dX11_by_30 rfl rfl sh_30 (Nat.le_of_ble_eq_true rfl) (by decide) ⟨rfl, rfl⟩ (rX5_after sh_7 hq2) <| At.istore (ls' := [(4, vi q2.1), (0, vr 1), (1, vi p1), (2, vi p2), (3, vi p3)]) dX11_by_33 (by decide) rfl <| At.iload dX11_by_35 rfl <| At.if_ge_f (tgt := 43) dX11_by_37 (by decide) c4 <| ?_
        refine At.bipush dX11_by_40 (by decide) <| ?_
        obtain rfl := Option.some.inj h
        exact At.iret rfl (Nat.zero_le _) (Nat.zero_le _) ⟨rfl, rfl⟩ dX11_by_42
    · refine At.iloadn dX11_by_4 rfl <| At.iconst dX11_by_5 (by decide) <| At.icmp_le_f (tgt := 12) dX11_by_6 (by decide) c5 <| ?_
      refine At.bipush dX11_by_9 (by decide) <| ?_
      obtain rfl := Option.some.inj h
      exact At.iret rfl (Nat.zero_le _) (Nat.zero_le _) ⟨rfl, rfl⟩ dX11_by_11
def fX0_walks (p1 : Int) (p2 : Int) (p3 : Nat) (S : SS) : Option (Int × SS) :=
  Option.bind (fX6_spotOf p3 p1 S) fun q1 =>
  Option.bind (fX5_after p1 p2 q1 p3 S) fun q2 =>
  if 0 ≤ q2.1 then (
    Option.bind (fX6_setGoer p3 p1 (w32 (Int.tdiv q2.1 20)) (Int.tmod q2.1 20) q2.2) fun q3 =>
    some (0, q3)
  ) else (
    some (w32 (-q2.1), q2.2)
  )
set_option maxRecDepth 100000 in
set_option maxHeartbeats 4000000 in
theorem rX0_walks {G : GG} {p1 : Int} {p2 : Int} {p3 : Nat} {S : SS} {rr : (Int × SS)} (hp3 : sh p3 = (6, 4)) (h : fX0_walks p1 p2 p3 S = some rr) : RD G mX0_walks 5 [vr 34, vi p1, vi p2, vr p3] S (some (vi rr.1)) rr.2 := by
  unfold fX0_walks at h
  refine Runs.of pl_X0 (Nat.le_of_ble_eq_true rfl) ?_
  show At G mX0_walks 5 0 [(0, vr 34), (1, vi p1), (2, vi p2), (3, vr p3)] [] (mm S) 0 0 (EQ (some (vi rr.1)) rr.2)
  refine At.aloadn dX0_walks_0 rfl <| At.getR fl_X0_15 sh_34 (le149 sh_34) rf_34_1 dX0_walks_1 <| At.iloadn dX0_walks_4 rfl <| At.iloadn dX0_walks_5 rfl <| At.aloadn dX0_walks_6 rfl <| At.iloadn dX0_walks_7 rfl <| ?_
  obtain ⟨q1, hq1, h⟩ := bnd_e h
  refine At.cV1 (av := [vi p1]) (rest := [vi p2, vi p1, vr 30]) mv_X6_spotOf lk_X0_19 dX0_walks_8 rfl rfl hp3 (Nat.le_of_ble_eq_true rfl) (by decide) ⟨rfl, rfl⟩ (rX6_spotOf hp3 hq1) <| At.aloadn dX0_walks_11 rfl <| ?_
  obtain ⟨q2, hq2, h⟩ := bnd_e h
  rcases ite_e h with ⟨c4, h⟩ | ⟨c4, h⟩
  · refine At.cV1 (av := [vi p1, vi p2, vi q1, vr p3]) (rest := []) mv_X5_after lk_X0_25 dX0_walks_12 rfl rfl sh_30 (Nat.le_of_ble_eq_true rfl) (by decide) ⟨rfl, rfl⟩ (rX5_after hp3 hq2) <| At.istore (ls' := [(4, vi q2.1), (0, vr 34), (1, vi p1), (2, vi p2), (3, vr p3)]) dX0_walks_15 (by decide) rfl <| At.iload dX0_walks_17 rfl <| At.if_ge_t (tgt := 26) dX0_walks_19 (by decide) c4 <| ?_
    refine At.aloadn dX0_walks_26 rfl <| At.iloadn dX0_walks_27 rfl <| At.iload dX0_walks_28 rfl <| At.bipush dX0_walks_30 (by decide) <| At.idiv dX0_walks_32 (by decide) <| At.iload dX0_walks_33 rfl <| At.bipush dX0_walks_35 (by decide) <| At.irem dX0_walks_37 (by decide) <| ?_
    obtain ⟨q3, hq3, h⟩ := bnd_e h
    refine At.cV0 (av := [vi p1, vi (w32 (Int.tdiv q2.1 20)), vi (Int.tmod q2.1 20)]) (rest := []) mv_X6_setGoer lk_X0_31 dX0_walks_38 rfl rfl hp3 (Nat.le_of_ble_eq_true rfl) (by decide) ⟨rfl, rfl⟩ (rX6_setGoer hp3 hq3) <| At.iconst dX0_walks_41 (by decide) <| ?_
    obtain rfl := Option.some.inj h
    exact At.iret rfl (Nat.zero_le _) (Nat.zero_le _) ⟨rfl, rfl⟩ dX0_walks_42
  · refine At.cV1 (av := [vi p1, vi p2, vi q1, vr p3]) (rest := []) mv_X5_after lk_X0_25 dX0_walks_12 rfl rfl sh_30 (Nat.le_of_ble_eq_true rfl) (by decide) ⟨rfl, rfl⟩ (rX5_after hp3 hq2) <| At.istore (ls' := [(4, vi q2.1), (0, vr 34), (1, vi p1), (2, vi p2), (3, vr p3)]) dX0_walks_15 (by decide) rfl <| At.iload dX0_walks_17 rfl <| At.if_ge_f (tgt := 26) dX0_walks_19 (by decide) c4 <| ?_
    refine At.iload dX0_walks_22 rfl <| At.ineg dX0_walks_24 <| ?_
    obtain rfl := Option.some.inj h
    exact At.iret rfl (Nat.zero_le _) (Nat.zero_le _) ⟨rfl, rfl⟩ dX0_walks_25
def fX2_keptAt (p1 : Int) (S : SS) : Option Nat :=
  lt (Int.tmod (w32 ((S 59 1) + p1)) 10) fun x1 =>
  if x1 < 0 then (
    some 0
  ) else (
    if 10 ≤ x1 then (
      some 0
    ) else (
      rdR 60 10 x1 fun v2 =>
      some v2
    )
  )
set_option maxRecDepth 100000 in
set_option maxHeartbeats 4000000 in
theorem rX2_keptAt {G : GG} {p1 : Int} {S : SS} {rr : Nat} (h : fX2_keptAt p1 S = some rr) : RD G mX2_keptAt 1 [vr 59, vi p1] S (some (vr rr)) S := by
  unfold fX2_keptAt at h
  refine Runs.of pl_X2 (Nat.le_of_ble_eq_true rfl) ?_
  show At G mX2_keptAt 1 0 [(0, vr 59), (1, vi p1)] [] (mm S) 0 0 (EQ (some (vr rr)) S)
  refine At.aloadn dX2_keptAt_0 rfl <| At.getI fl_X2_30 sh_59 (le149 sh_59) dX2_keptAt_1 <| At.iloadn dX2_keptAt_4 rfl <| At.iadd dX2_keptAt_5 <| At.bipush dX2_keptAt_6 (by decide) <| At.irem dX2_keptAt_8 (by decide) <| ?_
  obtain ⟨x1, hx1, h⟩ := lt_e h
  rcases ite_e h with ⟨c5, h⟩ | ⟨c5, h⟩
  · refine At.nm hx1 <| At.istoren (ls' := [(2, vi x1), (0, vr 59), (1, vi p1)]) dX2_keptAt_9 (by decide) rfl <| At.iloadn dX2_keptAt_10 rfl <| At.if_lt_t (tgt := 32) dX2_keptAt_11 (by decide) c5 <| ?_
    refine At.null dX2_keptAt_32 <| ?_
    obtain rfl := Option.some.inj h
    exact At.aret rfl (Nat.zero_le _) (Nat.zero_le _) ⟨rfl, rfl⟩ dX2_keptAt_33
  · refine At.nm hx1 <| At.istoren (ls' := [(2, vi x1), (0, vr 59), (1, vi p1)]) dX2_keptAt_9 (by decide) rfl <| At.iloadn dX2_keptAt_10 rfl <| At.if_lt_f (tgt := 32) dX2_keptAt_11 (by decide) c5 <| ?_
    rcases ite_e h with ⟨c4, h⟩ | ⟨c4, h⟩
    · refine At.iloadn dX2_keptAt_14 rfl <| At.aloadn dX2_keptAt_15 rfl <| At.getR fl_X2_11 sh_59 (le149 sh_59) rf_59_0 dX2_keptAt_16 <| At.alenS sh_60 (le149 sh_60) (by decide) (z := 10) rfl dX2_keptAt_19 <| At.icmp_ge_t (tgt := 32) dX2_keptAt_20 (by decide) c4 <| ?_
      refine At.null dX2_keptAt_32 <| ?_
      obtain rfl := Option.some.inj h
      exact At.aret rfl (Nat.zero_le _) (Nat.zero_le _) ⟨rfl, rfl⟩ dX2_keptAt_33
    · refine At.iloadn dX2_keptAt_14 rfl <| At.aloadn dX2_keptAt_15 rfl <| At.getR fl_X2_11 sh_59 (le149 sh_59) rf_59_0 dX2_keptAt_16 <| At.alenS sh_60 (le149 sh_60) (by decide) (z := 10) rfl dX2_keptAt_19 <| At.icmp_ge_f (tgt := 32) dX2_keptAt_20 (by decide) c4 <| ?_
      refine At.aloadn dX2_keptAt_23 rfl <| At.getR fl_X2_11 sh_59 (le149 sh_59) rf_59_0 dX2_keptAt_24 <| At.iloadn dX2_keptAt_27 rfl <| ?_
      obtain ⟨v2, hv2, g3, h⟩ := rdR_e h
      refine At.aldS sh_60 (le149 sh_60) g3.1 g3.2 dX2_keptAt_28 <| At.nmr hv2 <| At.goto (tgt := 33) dX2_keptAt_29 (by decide) <| ?_
      obtain rfl := Option.some.inj h
      exact At.aret rfl (Nat.zero_le _) (Nat.zero_le _) ⟨rfl, rfl⟩ dX2_keptAt_33
def fX2_keep (p1 : Nat) (S : SS) : Option SS :=
  Option.bind (fX2_keptAt (S 59 2) S) fun q1 =>
  Option.bind (
    if q1 = 0 then (
      some S
    ) else (
      gsh q1 (6, 4) <|
      Option.bind (fX6_copyOf q1 p1 S) fun q4 =>
      some q4
    )
    : Option (SS)) fun q2 =>
  if 10 ≤ (q2 59 2) then (
    lt (up q2 59 1 (Int.tmod (w32 ((q2 59 1) + 1)) 10)) fun S6 =>
    some S6
  ) else (
    lt (up q2 59 2 (w32 ((q2 59 2) + 1))) fun S7 =>
    some S7
  )
set_option maxRecDepth 100000 in
set_option maxHeartbeats 4000000 in
theorem rX2_keep {G : GG} {p1 : Nat} {S : SS} {rr : SS} (hp1 : sh p1 = (6, 4)) (h : fX2_keep p1 S = some rr) : RD G mX2_keep 4 [vr 59, vr p1] S none rr := by
  unfold fX2_keep at h
  refine Runs.of pl_X2 (Nat.le_of_ble_eq_true rfl) ?_
  show At G mX2_keep 4 0 [(0, vr 59), (1, vr p1)] [] (mm S) 0 0 (EQ none rr)
  refine At.aloadn dX2_keep_0 rfl <| At.aloadn dX2_keep_1 rfl <| At.getI fl_X2_18 sh_59 (le149 sh_59) dX2_keep_2 <| ?_
  obtain ⟨q1, hq1, h⟩ := bnd_e h
  obtain ⟨q2, hj18, h⟩ := bnd_e h
  have K18 : At G mX2_keep 4 18 [(0, vr 59)] [] (mm q2) 0 0 (EQ none rr) := by
    rcases ite_e h with ⟨c8, h⟩ | ⟨c8, h⟩
    · refine At.aloadn dX2_keep_18 rfl <| At.getI fl_X2_18 sh_59 (le149 sh_59) dX2_keep_19 <| At.bipush dX2_keep_22 (by decide) <| At.icmp_ge_t (tgt := 40) dX2_keep_24 (by decide) c8 <| ?_
      refine At.aloadn dX2_keep_40 rfl <| At.aloadn dX2_keep_41 rfl <| At.getI fl_X2_30 sh_59 (le149 sh_59) dX2_keep_42 <| At.iconst dX2_keep_45 (by decide) <| At.iadd dX2_keep_46 <| At.bipush dX2_keep_47 (by decide) <| At.irem dX2_keep_49 (by decide) <| ?_
      obtain ⟨S6, hS6, h⟩ := lt_e h
      refine At.putI fw_X2_30 sh_59 (le149 sh_59) dX2_keep_50 <| At.nmS hS6 <| ?_
      obtain rfl := Option.some.inj h
      exact At.vret rfl (Nat.zero_le _) (Nat.zero_le _) ⟨rfl, rfl⟩ dX2_keep_53
    · refine At.aloadn dX2_keep_18 rfl <| At.getI fl_X2_18 sh_59 (le149 sh_59) dX2_keep_19 <| At.bipush dX2_keep_22 (by decide) <| At.icmp_ge_f (tgt := 40) dX2_keep_24 (by decide) c8 <| ?_
      refine At.aloadn dX2_keep_27 rfl <| At.dup rfl dX2_keep_28 <| At.getI fl_X2_18 sh_59 (le149 sh_59) dX2_keep_29 <| At.iconst dX2_keep_32 (by decide) <| At.iadd dX2_keep_33 <| ?_
      obtain ⟨S7, hS7, h⟩ := lt_e h
      refine At.putI fw_X2_18 sh_59 (le149 sh_59) dX2_keep_34 <| At.nmS hS7 <| At.goto (tgt := 53) dX2_keep_37 (by decide) <| ?_
      obtain rfl := Option.some.inj h
      exact At.vret rfl (Nat.zero_le _) (Nat.zero_le _) ⟨rfl, rfl⟩ dX2_keep_53
  clear h; have h := hj18; clear hj18
  rcases ite_e h with ⟨c5, h⟩ | ⟨c5, h⟩
  · refine At.cV1 (av := [vi (S 59 2)]) (rest := []) mv_X2_keptAt lk_X2_22 dX2_keep_5 rfl rfl sh_59 (Nat.le_of_ble_eq_true rfl) (by decide) ⟨rfl, rfl⟩ (rX2_keptAt hq1) <| At.astoren (ls' := [(2, vr q1), (0, vr 59), (1, vr p1)]) dX2_keep_8 (by decide) rfl <| At.aloadn dX2_keep_9 rfl <| At.ifnull_t (tgt := 18) dX2_keep_10 (by decide) c5 <| ?_
    obtain rfl := Option.some.inj h
    exact At.sub [1] rfl K18
  · refine At.cV1 (av := [vi (S 59 2)]) (rest := []) mv_X2_keptAt lk_X2_22 dX2_keep_5 rfl rfl sh_59 (Nat.le_of_ble_eq_true rfl) (by decide) ⟨rfl, rfl⟩ (rX2_keptAt hq1) <| At.astoren (ls' := [(2, vr q1), (0, vr 59), (1, vr p1)]) dX2_keep_8 (by decide) rfl <| At.aloadn dX2_keep_9 rfl <| At.ifnull_f (tgt := 18) dX2_keep_10 (by decide) c5 <| ?_
    refine At.aloadn dX2_keep_13 rfl <| At.aloadn dX2_keep_14 rfl <| ?_
    obtain ⟨g3, h⟩ := gsh_e h
    obtain ⟨q4, hq4, h⟩ := bnd_e h
    refine At.cV0 (av := [vr p1]) (rest := []) mv_X6_copyOf lk_X2_26 dX2_keep_15 rfl rfl g3 (Nat.le_of_ble_eq_true rfl) (by decide) ⟨rfl, rfl⟩ (rX6_copyOf g3 hp1 hq4) <| ?_
    obtain rfl := Option.some.inj h
    exact At.sub [1] rfl K18
def fX11_kept (p1 : Int) (S : SS) : Option (Int × SS) :=
  Option.bind (fX2_keep 11 S) fun q1 =>
  some (p1, q1)
set_option maxRecDepth 100000 in
set_option maxHeartbeats 4000000 in
theorem rX11_kept {G : GG} {p1 : Int} {S : SS} {rr : (Int × SS)} (h : fX11_kept p1 S = some rr) : RD G mX11_kept 5 [vr 1, vi p1] S (some (vi rr.1)) rr.2 := by
  unfold fX11_kept at h
  refine Runs.of pl_X11 (Nat.le_of_ble_eq_true rfl) ?_
  show At G mX11_kept 5 0 [(0, vr 1), (1, vi p1)] [] (mm S) 0 0 (EQ (some (vi rr.1)) rr.2)
  refine At.aloadn dX11_kept_0 rfl <| At.getR fl_X11_86 sh_1 (le149 sh_1) rf_1_11 dX11_kept_1 <| At.aloadn dX11_kept_4 rfl <| At.getR fl_X11_26 sh_1 (le149 sh_1) rf_1_2 dX11_kept_5 <| ?_
  obtain ⟨q1, hq1, h⟩ := bnd_e h
  refine At.cV0 (av := [vr 11]) (rest := []) mv_X2_keep lk_X11_194 dX11_kept_8 rfl rfl sh_59 (Nat.le_of_ble_eq_true rfl) (by decide) ⟨rfl, rfl⟩ (rX2_keep sh_11 hq1) <| At.iloadn dX11_kept_11 rfl <| ?_
  obtain rfl := Option.some.inj h
  exact At.iret rfl (Nat.zero_le _) (Nat.zero_le _) ⟨rfl, rfl⟩ dX11_kept_12
def fX11_go (p1 : Int) (p2 : Int) (S : SS) : Option (Int × SS) :=
  Option.bind (fX6_copyOf 11 7 S) fun q1 =>
  Option.bind (fX0_walks p1 p2 7 q1) fun q2 =>
  if q2.1 = 0 then (
    Option.bind (fX6_yearOf 7 p1 q2.2) fun q3 =>
    Option.bind (fX11_kept q3 q2.2) fun q4 =>
    some (q4.1, q4.2)
  ) else (
    some (w32 (((-10)) - q2.1), q2.2)
  )
set_option maxRecDepth 100000 in
set_option maxHeartbeats 4000000 in
theorem rX11_go {G : GG} {p1 : Int} {p2 : Int} {S : SS} {rr : (Int × SS)} (h : fX11_go p1 p2 S = some rr) : RD G mX11_go 6 [vr 1, vi p1, vi p2] S (some (vi rr.1)) rr.2 := by
  unfold fX11_go at h
  refine Runs.of pl_X11 (Nat.le_of_ble_eq_true rfl) ?_
  show At G mX11_go 6 0 [(0, vr 1), (1, vi p1), (2, vi p2)] [] (mm S) 0 0 (EQ (some (vi rr.1)) rr.2)
  refine At.aloadn dX11_go_0 rfl <| At.getR fl_X11_26 sh_1 (le149 sh_1) rf_1_2 dX11_go_1 <| At.aloadn dX11_go_4 rfl <| At.getR fl_X11_20 sh_1 (le149 sh_1) rf_1_1 dX11_go_5 <| ?_
  obtain ⟨q1, hq1, h⟩ := bnd_e h
  refine At.cV0 (av := [vr 7]) (rest := []) mv_X6_copyOf lk_X11_170 dX11_go_8 rfl rfl sh_11 (Nat.le_of_ble_eq_true rfl) (by decide) ⟨rfl, rfl⟩ (rX6_copyOf sh_11 sh_7 hq1) <| At.aloadn dX11_go_11 rfl <| At.getR fl_X11_53 sh_1 (le149 sh_1) rf_1_6 dX11_go_12 <| At.iloadn dX11_go_15 rfl <| At.iloadn dX11_go_16 rfl <| At.aloadn dX11_go_17 rfl <| At.getR fl_X11_20 sh_1 (le149 sh_1) rf_1_1 dX11_go_18 <| ?_
  obtain ⟨q2, hq2, h⟩ := bnd_e h
  rcases ite_e h with ⟨c5, h⟩ | ⟨c5, h⟩
  · refine At.cV1 (av := [vi p1, vi p2, vr 7]) (rest := []) mv_X0_walks lk_X11_174 dX11_go_21 rfl rfl sh_34 (Nat.le_of_ble_eq_true rfl) (by decide) ⟨rfl, rfl⟩ (rX0_walks sh_7 hq2) <| At.istoren (ls' := [(3, vi q2.1), (0, vr 1), (1, vi p1), (2, vi p2)]) dX11_go_24 (by decide) rfl <| At.iloadn dX11_go_25 rfl <| At.if_ne_f (tgt := 44) dX11_go_26 (by decide) c5 <| ?_
    refine At.aloadn dX11_go_29 rfl <| At.aloadn dX11_go_30 rfl <| At.getR fl_X11_20 sh_1 (le149 sh_1) rf_1_1 dX11_go_31 <| At.iloadn dX11_go_34 rfl <| ?_
    obtain ⟨q3, hq3, h⟩ := bnd_e h
    refine At.cV1 (av := [vi p1]) (rest := [vr 1]) mv_X6_yearOf lk_X11_154 dX11_go_35 rfl rfl sh_7 (Nat.le_of_ble_eq_true rfl) (by decide) ⟨rfl, rfl⟩ (rX6_yearOf sh_7 hq3) <| ?_
    obtain ⟨q4, hq4, h⟩ := bnd_e h
    refine At.cV1 (av := [vi q3]) (rest := []) mv_X11_kept lk_X11_178 dX11_go_38 rfl rfl sh_1 (Nat.le_of_ble_eq_true rfl) (by decide) ⟨rfl, rfl⟩ (rX11_kept hq4) <| At.goto (tgt := 48) dX11_go_41 (by decide) <| ?_
    obtain rfl := Option.some.inj h
    exact At.iret rfl (Nat.zero_le _) (Nat.zero_le _) ⟨rfl, rfl⟩ dX11_go_48
  · refine At.cV1 (av := [vi p1, vi p2, vr 7]) (rest := []) mv_X0_walks lk_X11_174 dX11_go_21 rfl rfl sh_34 (Nat.le_of_ble_eq_true rfl) (by decide) ⟨rfl, rfl⟩ (rX0_walks sh_7 hq2) <| At.istoren (ls' := [(3, vi q2.1), (0, vr 1), (1, vi p1), (2, vi p2)]) dX11_go_24 (by decide) rfl <| At.iloadn dX11_go_25 rfl <| At.if_ne_t (tgt := 44) dX11_go_26 (by decide) c5 <| ?_
    refine At.bipush dX11_go_44 (by decide) <| At.iloadn dX11_go_46 rfl <| At.isub dX11_go_47 <| ?_
    obtain rfl := Option.some.inj h
    exact At.iret rfl (Nat.zero_le _) (Nat.zero_le _) ⟨rfl, rfl⟩ dX11_go_48
def fX0_signs (p1 : Int) (p2 : Int) (p3 : Nat) (S : SS) : Option (Int × SS) :=
  Option.bind (fX8_hasStreet 2 p1 S) fun q1 =>
  if q1 = true then (
    if p2 < 0 then (
      some (1, S)
    ) else (
      if p2 ≤ 3 then (
        Option.bind (fX6_setSign p3 p1 p2 S) fun q2 =>
        some (0, q2)
      ) else (
        some (1, S)
      )
    )
  ) else (
    some (1, S)
  )
set_option maxRecDepth 100000 in
set_option maxHeartbeats 4000000 in
theorem rX0_signs {G : GG} {p1 : Int} {p2 : Int} {p3 : Nat} {S : SS} {rr : (Int × SS)} (hp3 : sh p3 = (6, 4)) (h : fX0_signs p1 p2 p3 S = some rr) : RD G mX0_signs 2 [vr 34, vi p1, vi p2, vr p3] S (some (vi rr.1)) rr.2 := by
  unfold fX0_signs at h
  refine Runs.of pl_X0 (Nat.le_of_ble_eq_true rfl) ?_
  show At G mX0_signs 2 0 [(0, vr 34), (1, vi p1), (2, vi p2), (3, vr p3)] [] (mm S) 0 0 (EQ (some (vi rr.1)) rr.2)
  refine At.aloadn dX0_signs_0 rfl <| At.getR fl_X0_9 sh_34 (le149 sh_34) rf_34_0 dX0_signs_1 <| At.iloadn dX0_signs_4 rfl <| ?_
  obtain ⟨q1, hq1, h⟩ := bnd_e h
  rcases ite_e h with ⟨c5, h⟩ | ⟨c5, h⟩
  · refine At.cV1 (av := [vi p1]) (rest := []) mv_X8_hasStreet lk_X0_35 dX0_signs_5 rfl rfl sh_2 (Nat.le_of_ble_eq_true rfl) (by decide) ⟨rfl, rfl⟩ (rX8_hasStreet sh_2 hq1) <| At.bifeq_f (tgt := 20) dX0_signs_8 (by decide) c5 <| ?_
    rcases ite_e h with ⟨c4, h⟩ | ⟨c4, h⟩
    · refine At.iloadn dX0_signs_11 rfl <| At.if_lt_t (tgt := 20) dX0_signs_12 (by decide) c4 <| ?_
      refine At.iconst dX0_signs_20 (by decide) <| ?_
      obtain rfl := Option.some.inj h
      exact At.iret rfl (Nat.zero_le _) (Nat.zero_le _) ⟨rfl, rfl⟩ dX0_signs_21
    · refine At.iloadn dX0_signs_11 rfl <| At.if_lt_f (tgt := 20) dX0_signs_12 (by decide) c4 <| ?_
      rcases ite_e h with ⟨c3, h⟩ | ⟨c3, h⟩
      · refine At.iloadn dX0_signs_15 rfl <| At.iconst dX0_signs_16 (by decide) <| At.icmp_le_t (tgt := 22) dX0_signs_17 (by decide) c3 <| ?_
        refine At.aloadn dX0_signs_22 rfl <| At.iloadn dX0_signs_23 rfl <| At.iloadn dX0_signs_24 rfl <| ?_
        obtain ⟨q2, hq2, h⟩ := bnd_e h
        refine At.cV0 (av := [vi p1, vi p2]) (rest := []) mv_X6_setSign lk_X0_41 dX0_signs_25 rfl rfl hp3 (Nat.le_of_ble_eq_true rfl) (by decide) ⟨rfl, rfl⟩ (rX6_setSign hp3 hq2) <| At.iconst dX0_signs_28 (by decide) <| ?_
        obtain rfl := Option.some.inj h
        exact At.iret rfl (Nat.zero_le _) (Nat.zero_le _) ⟨rfl, rfl⟩ dX0_signs_29
      · refine At.iloadn dX0_signs_15 rfl <| At.iconst dX0_signs_16 (by decide) <| At.icmp_le_f (tgt := 22) dX0_signs_17 (by decide) c3 <| ?_
        refine At.iconst dX0_signs_20 (by decide) <| ?_
        obtain rfl := Option.some.inj h
        exact At.iret rfl (Nat.zero_le _) (Nat.zero_le _) ⟨rfl, rfl⟩ dX0_signs_21
  · refine At.cV1 (av := [vi p1]) (rest := []) mv_X8_hasStreet lk_X0_35 dX0_signs_5 rfl rfl sh_2 (Nat.le_of_ble_eq_true rfl) (by decide) ⟨rfl, rfl⟩ (rX8_hasStreet sh_2 hq1) <| At.bifeq_t (tgt := 20) dX0_signs_8 (by decide) c5 <| ?_
    refine At.iconst dX0_signs_20 (by decide) <| ?_
    obtain rfl := Option.some.inj h
    exact At.iret rfl (Nat.zero_le _) (Nat.zero_le _) ⟨rfl, rfl⟩ dX0_signs_21
def fX11_sign (p1 : Int) (p2 : Int) (S : SS) : Option (Int × SS) :=
  Option.bind (fX6_copyOf 11 7 S) fun q1 =>
  Option.bind (fX0_signs p1 p2 7 q1) fun q2 =>
  if q2.1 = 0 then (
    Option.bind (fX6_signOf 11 p1 q2.2) fun q3 =>
    Option.bind (fX11_kept q3 q2.2) fun q4 =>
    some (q4.1, q4.2)
  ) else (
    some (w32 (((-10)) - q2.1), q2.2)
  )
set_option maxRecDepth 100000 in
set_option maxHeartbeats 4000000 in
theorem rX11_sign {G : GG} {p1 : Int} {p2 : Int} {S : SS} {rr : (Int × SS)} (h : fX11_sign p1 p2 S = some rr) : RD G mX11_sign 6 [vr 1, vi p1, vi p2] S (some (vi rr.1)) rr.2 := by
  unfold fX11_sign at h
  refine Runs.of pl_X11 (Nat.le_of_ble_eq_true rfl) ?_
  show At G mX11_sign 6 0 [(0, vr 1), (1, vi p1), (2, vi p2)] [] (mm S) 0 0 (EQ (some (vi rr.1)) rr.2)
  refine At.aloadn dX11_sign_0 rfl <| At.getR fl_X11_26 sh_1 (le149 sh_1) rf_1_2 dX11_sign_1 <| At.aloadn dX11_sign_4 rfl <| At.getR fl_X11_20 sh_1 (le149 sh_1) rf_1_1 dX11_sign_5 <| ?_
  obtain ⟨q1, hq1, h⟩ := bnd_e h
  refine At.cV0 (av := [vr 7]) (rest := []) mv_X6_copyOf lk_X11_170 dX11_sign_8 rfl rfl sh_11 (Nat.le_of_ble_eq_true rfl) (by decide) ⟨rfl, rfl⟩ (rX6_copyOf sh_11 sh_7 hq1) <| At.aloadn dX11_sign_11 rfl <| At.getR fl_X11_53 sh_1 (le149 sh_1) rf_1_6 dX11_sign_12 <| At.iloadn dX11_sign_15 rfl <| At.iloadn dX11_sign_16 rfl <| At.aloadn dX11_sign_17 rfl <| At.getR fl_X11_20 sh_1 (le149 sh_1) rf_1_1 dX11_sign_18 <| ?_
  obtain ⟨q2, hq2, h⟩ := bnd_e h
  rcases ite_e h with ⟨c5, h⟩ | ⟨c5, h⟩
  · refine At.cV1 (av := [vi p1, vi p2, vr 7]) (rest := []) mv_X0_signs lk_X11_181 dX11_sign_21 rfl rfl sh_34 (Nat.le_of_ble_eq_true rfl) (by decide) ⟨rfl, rfl⟩ (rX0_signs sh_7 hq2) <| At.istoren (ls' := [(3, vi q2.1), (0, vr 1), (1, vi p1), (2, vi p2)]) dX11_sign_24 (by decide) rfl <| At.iloadn dX11_sign_25 rfl <| At.if_ne_f (tgt := 44) dX11_sign_26 (by decide) c5 <| ?_
    refine At.aloadn dX11_sign_29 rfl <| At.aloadn dX11_sign_30 rfl <| At.getR fl_X11_26 sh_1 (le149 sh_1) rf_1_2 dX11_sign_31 <| At.iloadn dX11_sign_34 rfl <| ?_
    obtain ⟨q3, hq3, h⟩ := bnd_e h
    refine At.cV1 (av := [vi p1]) (rest := [vr 1]) mv_X6_signOf lk_X11_141 dX11_sign_35 rfl rfl sh_11 (Nat.le_of_ble_eq_true rfl) (by decide) ⟨rfl, rfl⟩ (rX6_signOf sh_11 hq3) <| ?_
    obtain ⟨q4, hq4, h⟩ := bnd_e h
    refine At.cV1 (av := [vi q3]) (rest := []) mv_X11_kept lk_X11_178 dX11_sign_38 rfl rfl sh_1 (Nat.le_of_ble_eq_true rfl) (by decide) ⟨rfl, rfl⟩ (rX11_kept hq4) <| At.goto (tgt := 48) dX11_sign_41 (by decide) <| ?_
    obtain rfl := Option.some.inj h
    exact At.iret rfl (Nat.zero_le _) (Nat.zero_le _) ⟨rfl, rfl⟩ dX11_sign_48
  · refine At.cV1 (av := [vi p1, vi p2, vr 7]) (rest := []) mv_X0_signs lk_X11_181 dX11_sign_21 rfl rfl sh_34 (Nat.le_of_ble_eq_true rfl) (by decide) ⟨rfl, rfl⟩ (rX0_signs sh_7 hq2) <| At.istoren (ls' := [(3, vi q2.1), (0, vr 1), (1, vi p1), (2, vi p2)]) dX11_sign_24 (by decide) rfl <| At.iloadn dX11_sign_25 rfl <| At.if_ne_t (tgt := 44) dX11_sign_26 (by decide) c5 <| ?_
    refine At.bipush dX11_sign_44 (by decide) <| At.iloadn dX11_sign_46 rfl <| At.isub dX11_sign_47 <| ?_
    obtain rfl := Option.some.inj h
    exact At.iret rfl (Nat.zero_le _) (Nat.zero_le _) ⟨rfl, rfl⟩ dX11_sign_48
def fX0_plants (p1 : Int) (p2 : Nat) (S : SS) : Option (Int × SS) :=
  if p1 < 0 then (
    some (1, S)
  ) else (
    if p1 ≤ 9 then (
      lt (up S p2 3 p1) fun S1 =>
      some (0, S1)
    ) else (
      some (1, S)
    )
  )
set_option maxRecDepth 100000 in
set_option maxHeartbeats 4000000 in
theorem rX0_plants {G : GG} {p1 : Int} {p2 : Nat} {S : SS} {rr : (Int × SS)} (hp2 : sh p2 = (6, 4)) (h : fX0_plants p1 p2 S = some rr) : RD G mX0_plants 1 [vr 34, vi p1, vr p2] S (some (vi rr.1)) rr.2 := by
  unfold fX0_plants at h
  refine Runs.of pl_X0 (Nat.le_of_ble_eq_true rfl) ?_
  show At G mX0_plants 1 0 [(0, vr 34), (1, vi p1), (2, vr p2)] [] (mm S) 0 0 (EQ (some (vi rr.1)) rr.2)
  rcases ite_e h with ⟨c3, h⟩ | ⟨c3, h⟩
  · refine At.iloadn dX0_plants_0 rfl <| At.if_lt_t (tgt := 10) dX0_plants_1 (by decide) c3 <| ?_
    refine At.iconst dX0_plants_10 (by decide) <| ?_
    obtain rfl := Option.some.inj h
    exact At.iret rfl (Nat.zero_le _) (Nat.zero_le _) ⟨rfl, rfl⟩ dX0_plants_11
  · refine At.iloadn dX0_plants_0 rfl <| At.if_lt_f (tgt := 10) dX0_plants_1 (by decide) c3 <| ?_
    rcases ite_e h with ⟨c2, h⟩ | ⟨c2, h⟩
    · refine At.iloadn dX0_plants_4 rfl <| At.bipush dX0_plants_5 (by decide) <| At.icmp_le_t (tgt := 12) dX0_plants_7 (by decide) c2 <| ?_
      refine At.aloadn dX0_plants_12 rfl <| At.iloadn dX0_plants_13 rfl <| ?_
      obtain ⟨S1, hS1, h⟩ := lt_e h
      refine At.putI fw_X0_45 hp2 (le149 hp2) dX0_plants_14 <| At.nmS hS1 <| At.iconst dX0_plants_17 (by decide) <| ?_
      obtain rfl := Option.some.inj h
      exact At.iret rfl (Nat.zero_le _) (Nat.zero_le _) ⟨rfl, rfl⟩ dX0_plants_18
    · refine At.iloadn dX0_plants_4 rfl <| At.bipush dX0_plants_5 (by decide) <| At.icmp_le_f (tgt := 12) dX0_plants_7 (by decide) c2 <| ?_
      refine At.iconst dX0_plants_10 (by decide) <| ?_
      obtain rfl := Option.some.inj h
      exact At.iret rfl (Nat.zero_le _) (Nat.zero_le _) ⟨rfl, rfl⟩ dX0_plants_11
def fX11_bollards (p1 : Int) (S : SS) : Option (Int × SS) :=
  Option.bind (fX6_copyOf 11 7 S) fun q1 =>
  Option.bind (fX0_plants p1 7 q1) fun q2 =>
  if q2.1 = 0 then (
    Option.bind (fX11_kept (q2.2 11 3) q2.2) fun q3 =>
    some (q3.1, q3.2)
  ) else (
    some (w32 (((-10)) - q2.1), q2.2)
  )
set_option maxRecDepth 100000 in
set_option maxHeartbeats 4000000 in
theorem rX11_bollards {G : GG} {p1 : Int} {S : SS} {rr : (Int × SS)} (h : fX11_bollards p1 S = some rr) : RD G mX11_bollards 6 [vr 1, vi p1] S (some (vi rr.1)) rr.2 := by
  unfold fX11_bollards at h
  refine Runs.of pl_X11 (Nat.le_of_ble_eq_true rfl) ?_
  show At G mX11_bollards 6 0 [(0, vr 1), (1, vi p1)] [] (mm S) 0 0 (EQ (some (vi rr.1)) rr.2)
  refine At.aloadn dX11_bollards_0 rfl <| At.getR fl_X11_26 sh_1 (le149 sh_1) rf_1_2 dX11_bollards_1 <| At.aloadn dX11_bollards_4 rfl <| At.getR fl_X11_20 sh_1 (le149 sh_1) rf_1_1 dX11_bollards_5 <| ?_
  obtain ⟨q1, hq1, h⟩ := bnd_e h
  refine At.cV0 (av := [vr 7]) (rest := []) mv_X6_copyOf lk_X11_170 dX11_bollards_8 rfl rfl sh_11 (Nat.le_of_ble_eq_true rfl) (by decide) ⟨rfl, rfl⟩ (rX6_copyOf sh_11 sh_7 hq1) <| At.aloadn dX11_bollards_11 rfl <| At.getR fl_X11_53 sh_1 (le149 sh_1) rf_1_6 dX11_bollards_12 <| At.iloadn dX11_bollards_15 rfl <| At.aloadn dX11_bollards_16 rfl <| At.getR fl_X11_20 sh_1 (le149 sh_1) rf_1_1 dX11_bollards_17 <| ?_
  obtain ⟨q2, hq2, h⟩ := bnd_e h
  rcases ite_e h with ⟨c4, h⟩ | ⟨c4, h⟩
  · refine At.cV1 (av := [vi p1, vr 7]) (rest := []) mv_X0_plants lk_X11_184 dX11_bollards_20 rfl rfl sh_34 (Nat.le_of_ble_eq_true rfl) (by decide) ⟨rfl, rfl⟩ (rX0_plants sh_7 hq2) <| At.istoren (ls' := [(2, vi q2.1), (0, vr 1), (1, vi p1)]) dX11_bollards_23 (by decide) rfl <| At.iloadn dX11_bollards_24 rfl <| At.if_ne_f (tgt := 42) dX11_bollards_25 (by decide) c4 <| ?_
    refine At.aloadn dX11_bollards_28 rfl <| At.aloadn dX11_bollards_29 rfl <| At.getR fl_X11_26 sh_1 (le149 sh_1) rf_1_2 dX11_bollards_30 <| At.getI fl_X11_188 sh_11 (le149 sh_11) dX11_bollards_33 <| ?_
    obtain ⟨q3, hq3, h⟩ := bnd_e h
    refine At.cV1 (av := [vi (q2.2 11 3)]) (rest := []) mv_X11_kept lk_X11_178 dX11_bollards_36 rfl rfl sh_1 (Nat.le_of_ble_eq_true rfl) (by decide) ⟨rfl, rfl⟩ (rX11_kept hq3) <| At.goto (tgt := 46) dX11_bollards_39 (by decide) <| ?_
    obtain rfl := Option.some.inj h
    exact At.iret rfl (Nat.zero_le _) (Nat.zero_le _) ⟨rfl, rfl⟩ dX11_bollards_46
  · refine At.cV1 (av := [vi p1, vr 7]) (rest := []) mv_X0_plants lk_X11_184 dX11_bollards_20 rfl rfl sh_34 (Nat.le_of_ble_eq_true rfl) (by decide) ⟨rfl, rfl⟩ (rX0_plants sh_7 hq2) <| At.istoren (ls' := [(2, vi q2.1), (0, vr 1), (1, vi p1)]) dX11_bollards_23 (by decide) rfl <| At.iloadn dX11_bollards_24 rfl <| At.if_ne_t (tgt := 42) dX11_bollards_25 (by decide) c4 <| ?_
    refine At.bipush dX11_bollards_42 (by decide) <| At.iloadn dX11_bollards_44 rfl <| At.isub dX11_bollards_45 <| ?_
    obtain rfl := Option.some.inj h
    exact At.iret rfl (Nat.zero_le _) (Nat.zero_le _) ⟨rfl, rfl⟩ dX11_bollards_46
def fX8_hasCorner (t : Nat) (p1 : Int) (S : SS) : Option Bool :=
  if p1 < 0 then (
    some false
  ) else (
    if (S t 5) ≤ p1 then (
      some false
    ) else (
      if 6 ≤ p1 then (
        some false
      ) else (
        some true
      )
    )
  )
set_option maxRecDepth 100000 in
set_option maxHeartbeats 4000000 in
theorem rX8_hasCorner {G : GG} {t : Nat} {p1 : Int} {S : SS} {rr : Bool} (ht : sh t = (8, 14)) (h : fX8_hasCorner t p1 S = some rr) : RD G mX8_hasCorner 1 [vr t, vi p1] S (some (vi (bI rr))) S := by
  unfold fX8_hasCorner at h
  refine Runs.of pl_X8 (Nat.le_of_ble_eq_true rfl) ?_
  show At G mX8_hasCorner 1 0 [(0, vr t), (1, vi p1)] [] (mm S) 0 0 (EQ (some (vi (bI rr))) S)
  rcases ite_e h with ⟨c3, h⟩ | ⟨c3, h⟩
  · refine At.iloadn dX8_hasCorner_0 rfl <| At.if_lt_t (tgt := 22) dX8_hasCorner_1 (by decide) c3 <| ?_
    refine At.iconst dX8_hasCorner_22 (by decide) <| ?_
    obtain rfl := Option.some.inj h
    exact At.zret (b := false) rfl (Nat.zero_le _) (Nat.zero_le _) ⟨rfl, rfl⟩ dX8_hasCorner_23
  · refine At.iloadn dX8_hasCorner_0 rfl <| At.if_lt_f (tgt := 22) dX8_hasCorner_1 (by decide) c3 <| ?_
    rcases ite_e h with ⟨c2, h⟩ | ⟨c2, h⟩
    · refine At.iloadn dX8_hasCorner_4 rfl <| At.aloadn dX8_hasCorner_5 rfl <| At.getI fl_X8_31 ht (le149 ht) dX8_hasCorner_6 <| At.icmp_ge_t (tgt := 22) dX8_hasCorner_9 (by decide) c2 <| ?_
      refine At.iconst dX8_hasCorner_22 (by decide) <| ?_
      obtain rfl := Option.some.inj h
      exact At.zret (b := false) rfl (Nat.zero_le _) (Nat.zero_le _) ⟨rfl, rfl⟩ dX8_hasCorner_23
    · refine At.iloadn dX8_hasCorner_4 rfl <| At.aloadn dX8_hasCorner_5 rfl <| At.getI fl_X8_31 ht (le149 ht) dX8_hasCorner_6 <| At.icmp_ge_f (tgt := 22) dX8_hasCorner_9 (by decide) c2 <| ?_
      rcases ite_e h with ⟨c1, h⟩ | ⟨c1, h⟩
      · refine At.iloadn dX8_hasCorner_12 rfl <| At.bipush dX8_hasCorner_13 (by decide) <| At.icmp_ge_t (tgt := 22) dX8_hasCorner_15 (by decide) c1 <| ?_
        refine At.iconst dX8_hasCorner_22 (by decide) <| ?_
        obtain rfl := Option.some.inj h
        exact At.zret (b := false) rfl (Nat.zero_le _) (Nat.zero_le _) ⟨rfl, rfl⟩ dX8_hasCorner_23
      · refine At.iloadn dX8_hasCorner_12 rfl <| At.bipush dX8_hasCorner_13 (by decide) <| At.icmp_ge_f (tgt := 22) dX8_hasCorner_15 (by decide) c1 <| ?_
        refine At.iconst dX8_hasCorner_18 (by decide) <| At.goto (tgt := 23) dX8_hasCorner_19 (by decide) <| ?_
        obtain rfl := Option.some.inj h
        exact At.zret (b := true) rfl (Nat.zero_le _) (Nat.zero_le _) ⟨rfl, rfl⟩ dX8_hasCorner_23
