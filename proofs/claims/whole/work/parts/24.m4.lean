def fX12_beginsMany_L8 (l1 : Int) : Nat → Int → SS → Option (SS)
  | 0, _, _ => none
  | n + 1, l2, S =>
    if 120 ≤ l2 then (
      some S
    ) else (
      Option.bind (fX12_standOf l1 S) fun q1 =>
      Option.bind (
        if l2 = q1 then (
          some 1
        ) else (
          some 0
        )
        : Option (Int)) fun q2 =>
      wrA S 142 120 l2 q2 fun S4 =>
      wrA S4 143 120 l2 0 fun S6 =>
      lt (w32 (l2 + 1)) fun x8 =>
      fX12_beginsMany_L8 l1 n x8 S6
    )
def fX12_beginsMany (p1 : Int) (S : SS) : Option SS :=
  Option.bind (fX12_laysThen p1 0 S) fun q1 =>
  Option.bind (fX12_beginsMany_L8 p1 FU 0 q1) fun q2 =>
  some q2
set_option maxRecDepth 100000 in
set_option maxHeartbeats 4000000 in
theorem lX12_beginsMany_L8 {G : GG} {Φ : Option VV → MM → Prop} {l1 : Int} : ∀ (n : Nat) (l2 : Int) (S : SS) (q : SS), fX12_beginsMany_L8 l1 n l2 S = some q → At G mX12_beginsMany 6 47 [] [] (mm q) 0 0 Φ → At G mX12_beginsMany 6 8 [(0, vr 130), (1, vi l1), (2, vi l2)] [] (mm S) 0 0 Φ := by
  intro n
  induction n with
  | zero =>
    intro _ _ _ h
    cases h
  | succ n ih =>
    intro l2 S q h K47
    unfold fX12_beginsMany_L8 at h
    rcases ite_e h with ⟨c9, h⟩ | ⟨c9, h⟩
    · refine At.iloadn dX12_beginsMany_8 rfl <| At.bipush dX12_beginsMany_9 (by decide) <| At.icmp_ge_t (tgt := 47) dX12_beginsMany_11 (by decide) c9 <| ?_
      obtain rfl := Option.some.inj h
      exact At.sub [] rfl K47
    · refine At.iloadn dX12_beginsMany_8 rfl <| At.bipush dX12_beginsMany_9 (by decide) <| At.icmp_ge_f (tgt := 47) dX12_beginsMany_11 (by decide) c9 <| ?_
      refine At.aloadn dX12_beginsMany_14 rfl <| At.getR fl_X12_51 sh_130 (le149 sh_130) rf_130_25 dX12_beginsMany_15 <| At.iloadn dX12_beginsMany_18 rfl <| At.iloadn dX12_beginsMany_19 rfl <| At.aloadn dX12_beginsMany_20 rfl <| At.iloadn dX12_beginsMany_21 rfl <| ?_
      obtain ⟨q1, hq1, h⟩ := bnd_e h
      obtain ⟨q2, hj33, h⟩ := bnd_e h
      have K33 : At G mX12_beginsMany 6 33 [(0, vr 130), (1, vi l1), (2, vi l2)] [vl q2, vi l2, vr 142] (mm S) 0 0 Φ := by
        obtain ⟨S4, hS4, g5, h⟩ := wrA_e h
        refine At.last sh_142 (le149 sh_142) g5.1 g5.2 dX12_beginsMany_33 <| At.nmS hS4 <| At.aloadn dX12_beginsMany_34 rfl <| At.getR fl_X12_55 sh_130 (le149 sh_130) rf_130_26 dX12_beginsMany_35 <| At.iloadn dX12_beginsMany_38 rfl <| At.lconst0 dX12_beginsMany_39 <| ?_
        obtain ⟨S6, hS6, g7, h⟩ := wrA_e h
        refine At.last sh_143 (le149 sh_143) g7.1 g7.2 dX12_beginsMany_40 <| At.nmS hS6 <| ?_
        obtain ⟨x8, hx8, h⟩ := lt_e h
        refine At.iinc (ls' := [(2, vi x8), (0, vr 130), (1, vi l1)]) dX12_beginsMany_41 rfl (by decide) (by rw [hx8]; rfl) <| At.goto (tgt := 8) dX12_beginsMany_44 (by decide) <| ?_
        exact At.sub [1, 2, 0] rfl (ih _ _ _ h K47)
      clear h; have h := hj33; clear hj33
      rcases ite_e h with ⟨c3, h⟩ | ⟨c3, h⟩
      · refine At.cV1 (av := [vi l1]) (rest := [vi l2, vi l2, vr 142]) mv_X12_standOf lk_X12_239 dX12_beginsMany_22 rfl rfl sh_130 (Nat.le_of_ble_eq_true rfl) (by decide) ⟨rfl, rfl⟩ (rX12_standOf hq1) <| At.icmp_ne_f (tgt := 32) dX12_beginsMany_25 (by decide) c3 <| ?_
        refine At.lconst1 dX12_beginsMany_28 <| At.goto (tgt := 33) dX12_beginsMany_29 (by decide) <| ?_
        obtain rfl := Option.some.inj h
        exact At.sub [0, 1, 2] rfl K33
      · refine At.cV1 (av := [vi l1]) (rest := [vi l2, vi l2, vr 142]) mv_X12_standOf lk_X12_239 dX12_beginsMany_22 rfl rfl sh_130 (Nat.le_of_ble_eq_true rfl) (by decide) ⟨rfl, rfl⟩ (rX12_standOf hq1) <| At.icmp_ne_t (tgt := 32) dX12_beginsMany_25 (by decide) c3 <| ?_
        refine At.lconst0 dX12_beginsMany_32 <| ?_
        obtain rfl := Option.some.inj h
        exact At.sub [0, 1, 2] rfl K33
set_option maxRecDepth 100000 in
set_option maxHeartbeats 4000000 in
theorem rX12_beginsMany {G : GG} {p1 : Int} {S : SS} {rr : SS} (h : fX12_beginsMany p1 S = some rr) : RD G mX12_beginsMany 6 [vr 130, vi p1] S none rr := by
  unfold fX12_beginsMany at h
  refine Runs.of pl_X12 (Nat.le_of_ble_eq_true rfl) ?_
  show At G mX12_beginsMany 6 0 [(0, vr 130), (1, vi p1)] [] (mm S) 0 0 (EQ none rr)
  refine At.aloadn dX12_beginsMany_0 rfl <| At.iloadn dX12_beginsMany_1 rfl <| At.iconst dX12_beginsMany_2 (by decide) <| ?_
  obtain ⟨q1, hq1, h⟩ := bnd_e h
  refine At.cV0 (av := [vi p1, vi 0]) (rest := []) mv_X12_laysThen lk_X12_332 dX12_beginsMany_3 rfl rfl sh_130 (Nat.le_of_ble_eq_true rfl) (by decide) ⟨rfl, rfl⟩ (rX12_laysThen hq1) <| At.iconst dX12_beginsMany_6 (by decide) <| At.istoren (ls' := [(2, vi 0), (0, vr 130), (1, vi p1)]) dX12_beginsMany_7 (by decide) rfl <| ?_
  obtain ⟨q2, ho3, h⟩ := bnd_e h
  refine At.sub [1, 2, 0] rfl (lX12_beginsMany_L8 FU _ _ q2 ho3 ?_)
  obtain rfl := Option.some.inj h
  exact At.vret rfl (Nat.zero_le _) (Nat.zero_le _) ⟨rfl, rfl⟩ dX12_beginsMany_47
def fX12_goesMany_L12 (l1 : Int) (l2 : Int) : Nat → Int → SS → Option (SS)
  | 0, _, _ => none
  | n + 1, l3, S =>
    rdA S 131 3303 2 fun v1 =>
    if v1 ≤ l3 then (
      some S
    ) else (
      rdA S 142 120 l2 fun v3 =>
      if (lc v3 0) ≤ 0 then (
        some S
      ) else (
        rdA S 138 960 (w32 ((w32 (8 * l2)) + l3)) fun v5 =>
        Option.bind (
          if v5 = ((-1)) then (
            if l1 = 0 then (
              some S
            ) else (
              rdA S 143 120 l2 fun v8 =>
              rdA S 142 120 l2 fun v10 =>
              wrA S 143 120 l2 (w64 (v8 + v10)) fun S12 =>
              some S12
            )
          ) else (
            rdA S 143 120 v5 fun v15 =>
            rdA S 142 120 l2 fun v17 =>
            wrA S 143 120 v5 (w64 (v15 + v17)) fun S19 =>
            some S19
          )
          : Option (SS)) fun q7 =>
        lt (w32 (l3 + 1)) fun x22 =>
        fX12_goesMany_L12 l1 l2 n x22 q7
      )
    )
def fX12_goesMany_L2 (l1 : Int) : Nat → Int → SS → Option (SS)
  | 0, _, _ => none
  | n + 1, l2, S =>
    Option.bind (fX12_stands  S) fun q1 =>
    if q1 ≤ l2 then (
      some S
    ) else (
      Option.bind (fX12_goesMany_L12 l1 l2 FU 0 S) fun q2 =>
      lt (w32 (l2 + 1)) fun x4 =>
      fX12_goesMany_L2 l1 n x4 q2
    )
def fX12_goesMany_L104 : Nat → Int → SS → Option (SS)
  | 0, _, _ => none
  | n + 1, l2, S =>
    if 120 ≤ l2 then (
      some S
    ) else (
      rdA S 143 120 l2 fun v1 =>
      wrA S 142 120 l2 v1 fun S3 =>
      wrA S3 143 120 l2 0 fun S5 =>
      lt (w32 (l2 + 1)) fun x7 =>
      fX12_goesMany_L104 n x7 S5
    )
def fX12_goesMany (p1 : Int) (S : SS) : Option SS :=
  Option.bind (fX12_goesMany_L2 p1 FU 0 S) fun q1 =>
  Option.bind (fX12_goesMany_L104 FU 0 q1) fun q3 =>
  some q3
set_option maxRecDepth 100000 in
set_option maxHeartbeats 4000000 in
theorem lX12_goesMany_L12 {G : GG} {Φ : Option VV → MM → Prop} {l1 : Int} {l2 : Int} : ∀ (n : Nat) (l3 : Int) (S : SS) (q : SS), fX12_goesMany_L12 l1 l2 n l3 S = some q → At G mX12_goesMany 2 96 [(0, vr 130), (1, vi l1), (2, vi l2)] [] (mm q) 0 0 Φ → At G mX12_goesMany 2 12 [(0, vr 130), (1, vi l1), (2, vi l2), (3, vi l3)] [] (mm S) 0 0 Φ := by
  intro n
  induction n with
  | zero =>
    intro _ _ _ h
    cases h
  | succ n ih =>
    intro l3 S q h K96
    unfold fX12_goesMany_L12 at h
    refine At.iloadn dX12_goesMany_12 rfl <| At.aloadn dX12_goesMany_13 rfl <| At.getR fl_X12_13 sh_130 (le149 sh_130) rf_130_1 dX12_goesMany_14 <| At.iconst dX12_goesMany_17 (by decide) <| ?_
    obtain ⟨v1, hv1, g2, h⟩ := rdA_e h
    rcases ite_e h with ⟨c24, h⟩ | ⟨c24, h⟩
    · refine At.iald sh_131 (le149 sh_131) g2.1 g2.2 dX12_goesMany_18 <| At.nm hv1 <| At.icmp_ge_t (tgt := 96) dX12_goesMany_19 (by decide) c24 <| ?_
      obtain rfl := Option.some.inj h
      exact At.sub [0, 1, 2] rfl K96
    · refine At.iald sh_131 (le149 sh_131) g2.1 g2.2 dX12_goesMany_18 <| At.nm hv1 <| At.icmp_ge_f (tgt := 96) dX12_goesMany_19 (by decide) c24 <| ?_
      refine At.aloadn dX12_goesMany_22 rfl <| At.getR fl_X12_51 sh_130 (le149 sh_130) rf_130_25 dX12_goesMany_23 <| At.iloadn dX12_goesMany_26 rfl <| ?_
      obtain ⟨v3, hv3, g4, h⟩ := rdA_e h
      rcases ite_e h with ⟨c23, h⟩ | ⟨c23, h⟩
      · refine At.lald sh_142 (le149 sh_142) g4.1 g4.2 dX12_goesMany_27 <| At.nml hv3 <| At.lconst0 dX12_goesMany_28 <| At.lcmp dX12_goesMany_29 <| At.if_le_t (tgt := 96) dX12_goesMany_30 (by decide) c23 <| ?_
        obtain rfl := Option.some.inj h
        exact At.sub [0, 1, 2] rfl K96
      · refine At.lald sh_142 (le149 sh_142) g4.1 g4.2 dX12_goesMany_27 <| At.nml hv3 <| At.lconst0 dX12_goesMany_28 <| At.lcmp dX12_goesMany_29 <| At.if_le_f (tgt := 96) dX12_goesMany_30 (by decide) c23 <| ?_
        refine At.aloadn dX12_goesMany_33 rfl <| At.getR fl_X12_39 sh_130 (le149 sh_130) rf_130_21 dX12_goesMany_34 <| At.bipush dX12_goesMany_37 (by decide) <| At.iloadn dX12_goesMany_39 rfl <| At.imul dX12_goesMany_40 <| At.iloadn dX12_goesMany_41 rfl <| At.iadd dX12_goesMany_42 <| ?_
        obtain ⟨v5, hv5, g6, h⟩ := rdA_e h
        obtain ⟨q7, hj90, h⟩ := bnd_e h
        have K90 : At G mX12_goesMany 2 90 [(0, vr 130), (1, vi l1), (2, vi l2), (3, vi l3)] [] (mm q7) 0 0 Φ := by
          obtain ⟨x22, hx22, h⟩ := lt_e h
          refine At.iinc (ls' := [(3, vi x22), (0, vr 130), (1, vi l1), (2, vi l2)]) dX12_goesMany_90 rfl (by decide) (by rw [hx22]; rfl) <| At.goto (tgt := 12) dX12_goesMany_93 (by decide) <| ?_
          exact At.sub [1, 2, 3, 0] rfl (ih _ _ _ h K96)
        clear h; have h := hj90; clear hj90
        rcases ite_e h with ⟨c21, h⟩ | ⟨c21, h⟩
        · refine At.iald sh_138 (le149 sh_138) g6.1 g6.2 dX12_goesMany_43 <| At.nm hv5 <| At.istore (ls' := [(4, vi v5), (0, vr 130), (1, vi l1), (2, vi l2), (3, vi l3)]) dX12_goesMany_44 (by decide) rfl <| At.iload dX12_goesMany_46 rfl <| At.iconst dX12_goesMany_48 (by decide) <| At.icmp_eq_t (tgt := 71) dX12_goesMany_49 (by decide) c21 <| ?_
          rcases ite_e h with ⟨c14, h⟩ | ⟨c14, h⟩
          · refine At.iloadn dX12_goesMany_71 rfl <| At.if_eq_t (tgt := 90) dX12_goesMany_72 (by decide) c14 <| ?_
            obtain rfl := Option.some.inj h
            exact At.sub [1, 2, 3, 4] rfl K90
          · refine At.iloadn dX12_goesMany_71 rfl <| At.if_eq_f (tgt := 90) dX12_goesMany_72 (by decide) c14 <| ?_
            refine At.aloadn dX12_goesMany_75 rfl <| At.getR fl_X12_55 sh_130 (le149 sh_130) rf_130_26 dX12_goesMany_76 <| At.iloadn dX12_goesMany_79 rfl <| At.dup2 rfl rfl dX12_goesMany_80 <| ?_
            obtain ⟨v8, hv8, g9, h⟩ := rdA_e h
            refine At.lald sh_143 (le149 sh_143) g9.1 g9.2 dX12_goesMany_81 <| At.nml hv8 <| At.aloadn dX12_goesMany_82 rfl <| At.getR fl_X12_51 sh_130 (le149 sh_130) rf_130_25 dX12_goesMany_83 <| At.iloadn dX12_goesMany_86 rfl <| ?_
            obtain ⟨v10, hv10, g11, h⟩ := rdA_e h
            refine At.lald sh_142 (le149 sh_142) g11.1 g11.2 dX12_goesMany_87 <| At.nml hv10 <| At.ladd dX12_goesMany_88 <| ?_
            obtain ⟨S12, hS12, g13, h⟩ := wrA_e h
            refine At.last sh_143 (le149 sh_143) g13.1 g13.2 dX12_goesMany_89 <| At.nmS hS12 <| ?_
            obtain rfl := Option.some.inj h
            exact At.sub [1, 2, 3, 4] rfl K90
        · refine At.iald sh_138 (le149 sh_138) g6.1 g6.2 dX12_goesMany_43 <| At.nm hv5 <| At.istore (ls' := [(4, vi v5), (0, vr 130), (1, vi l1), (2, vi l2), (3, vi l3)]) dX12_goesMany_44 (by decide) rfl <| At.iload dX12_goesMany_46 rfl <| At.iconst dX12_goesMany_48 (by decide) <| At.icmp_eq_f (tgt := 71) dX12_goesMany_49 (by decide) c21 <| ?_
          refine At.aloadn dX12_goesMany_52 rfl <| At.getR fl_X12_55 sh_130 (le149 sh_130) rf_130_26 dX12_goesMany_53 <| At.iload dX12_goesMany_56 rfl <| At.dup2 rfl rfl dX12_goesMany_58 <| ?_
          obtain ⟨v15, hv15, g16, h⟩ := rdA_e h
          refine At.lald sh_143 (le149 sh_143) g16.1 g16.2 dX12_goesMany_59 <| At.nml hv15 <| At.aloadn dX12_goesMany_60 rfl <| At.getR fl_X12_51 sh_130 (le149 sh_130) rf_130_25 dX12_goesMany_61 <| At.iloadn dX12_goesMany_64 rfl <| ?_
          obtain ⟨v17, hv17, g18, h⟩ := rdA_e h
          refine At.lald sh_142 (le149 sh_142) g18.1 g18.2 dX12_goesMany_65 <| At.nml hv17 <| At.ladd dX12_goesMany_66 <| ?_
          obtain ⟨S19, hS19, g20, h⟩ := wrA_e h
          refine At.last sh_143 (le149 sh_143) g20.1 g20.2 dX12_goesMany_67 <| At.nmS hS19 <| At.goto (tgt := 90) dX12_goesMany_68 (by decide) <| ?_
          obtain rfl := Option.some.inj h
          exact At.sub [1, 2, 3, 4] rfl K90
set_option maxRecDepth 100000 in
set_option maxHeartbeats 4000000 in
theorem lX12_goesMany_L2 {G : GG} {Φ : Option VV → MM → Prop} {l1 : Int} : ∀ (n : Nat) (l2 : Int) (S : SS) (q : SS), fX12_goesMany_L2 l1 n l2 S = some q → At G mX12_goesMany 2 102 [(0, vr 130)] [] (mm q) 0 0 Φ → At G mX12_goesMany 2 2 [(0, vr 130), (1, vi l1), (2, vi l2)] [] (mm S) 0 0 Φ := by
  intro n
  induction n with
  | zero =>
    intro _ _ _ h
    cases h
  | succ n ih =>
    intro l2 S q h K102
    unfold fX12_goesMany_L2 at h
    refine At.iloadn dX12_goesMany_2 rfl <| At.aloadn dX12_goesMany_3 rfl <| ?_
    obtain ⟨q1, hq1, h⟩ := bnd_e h
    rcases ite_e h with ⟨c5, h⟩ | ⟨c5, h⟩
    · refine At.cV1 (av := []) (rest := [vi l2]) mv_X12_stands lk_X12_329 dX12_goesMany_4 rfl rfl sh_130 (Nat.le_of_ble_eq_true rfl) (by decide) ⟨rfl, rfl⟩ (rX12_stands hq1) <| At.icmp_ge_t (tgt := 102) dX12_goesMany_7 (by decide) c5 <| ?_
      obtain rfl := Option.some.inj h
      exact At.sub [0] rfl K102
    · refine At.cV1 (av := []) (rest := [vi l2]) mv_X12_stands lk_X12_329 dX12_goesMany_4 rfl rfl sh_130 (Nat.le_of_ble_eq_true rfl) (by decide) ⟨rfl, rfl⟩ (rX12_stands hq1) <| At.icmp_ge_f (tgt := 102) dX12_goesMany_7 (by decide) c5 <| ?_
      refine At.iconst dX12_goesMany_10 (by decide) <| At.istoren (ls' := [(3, vi 0), (0, vr 130), (1, vi l1), (2, vi l2)]) dX12_goesMany_11 (by decide) rfl <| ?_
      obtain ⟨q2, ho3, h⟩ := bnd_e h
      refine At.sub [1, 2, 3, 0] rfl (lX12_goesMany_L12 FU _ _ q2 ho3 ?_)
      obtain ⟨x4, hx4, h⟩ := lt_e h
      refine At.iinc (ls' := [(2, vi x4), (0, vr 130), (1, vi l1)]) dX12_goesMany_96 rfl (by decide) (by rw [hx4]; rfl) <| At.goto (tgt := 2) dX12_goesMany_99 (by decide) <| ?_
      exact At.sub [1, 2, 0] rfl (ih _ _ _ h K102)
set_option maxRecDepth 100000 in
set_option maxHeartbeats 4000000 in
theorem lX12_goesMany_L104 {G : GG} {Φ : Option VV → MM → Prop} : ∀ (n : Nat) (l2 : Int) (S : SS) (q : SS), fX12_goesMany_L104 n l2 S = some q → At G mX12_goesMany 2 135 [] [] (mm q) 0 0 Φ → At G mX12_goesMany 2 104 [(0, vr 130), (2, vi l2)] [] (mm S) 0 0 Φ := by
  intro n
  induction n with
  | zero =>
    intro _ _ _ h
    cases h
  | succ n ih =>
    intro l2 S q h K135
    unfold fX12_goesMany_L104 at h
    rcases ite_e h with ⟨c8, h⟩ | ⟨c8, h⟩
    · refine At.iloadn dX12_goesMany_104 rfl <| At.bipush dX12_goesMany_105 (by decide) <| At.icmp_ge_t (tgt := 135) dX12_goesMany_107 (by decide) c8 <| ?_
      obtain rfl := Option.some.inj h
      exact At.sub [] rfl K135
    · refine At.iloadn dX12_goesMany_104 rfl <| At.bipush dX12_goesMany_105 (by decide) <| At.icmp_ge_f (tgt := 135) dX12_goesMany_107 (by decide) c8 <| ?_
      refine At.aloadn dX12_goesMany_110 rfl <| At.getR fl_X12_51 sh_130 (le149 sh_130) rf_130_25 dX12_goesMany_111 <| At.iloadn dX12_goesMany_114 rfl <| At.aloadn dX12_goesMany_115 rfl <| At.getR fl_X12_55 sh_130 (le149 sh_130) rf_130_26 dX12_goesMany_116 <| At.iloadn dX12_goesMany_119 rfl <| ?_
      obtain ⟨v1, hv1, g2, h⟩ := rdA_e h
      refine At.lald sh_143 (le149 sh_143) g2.1 g2.2 dX12_goesMany_120 <| At.nml hv1 <| ?_
      obtain ⟨S3, hS3, g4, h⟩ := wrA_e h
      refine At.last sh_142 (le149 sh_142) g4.1 g4.2 dX12_goesMany_121 <| At.nmS hS3 <| At.aloadn dX12_goesMany_122 rfl <| At.getR fl_X12_55 sh_130 (le149 sh_130) rf_130_26 dX12_goesMany_123 <| At.iloadn dX12_goesMany_126 rfl <| At.lconst0 dX12_goesMany_127 <| ?_
      obtain ⟨S5, hS5, g6, h⟩ := wrA_e h
      refine At.last sh_143 (le149 sh_143) g6.1 g6.2 dX12_goesMany_128 <| At.nmS hS5 <| ?_
      obtain ⟨x7, hx7, h⟩ := lt_e h
      refine At.iinc (ls' := [(2, vi x7), (0, vr 130)]) dX12_goesMany_129 rfl (by decide) (by rw [hx7]; rfl) <| At.goto (tgt := 104) dX12_goesMany_132 (by decide) <| ?_
      exact At.sub [1, 0] rfl (ih _ _ _ h K135)
set_option maxRecDepth 100000 in
set_option maxHeartbeats 4000000 in
theorem rX12_goesMany {G : GG} {p1 : Int} {S : SS} {rr : SS} (h : fX12_goesMany p1 S = some rr) : RD G mX12_goesMany 2 [vr 130, vi p1] S none rr := by
  unfold fX12_goesMany at h
  refine Runs.of pl_X12 (Nat.le_of_ble_eq_true rfl) ?_
  show At G mX12_goesMany 2 0 [(0, vr 130), (1, vi p1)] [] (mm S) 0 0 (EQ none rr)
  refine At.iconst dX12_goesMany_0 (by decide) <| At.istoren (ls' := [(2, vi 0), (0, vr 130), (1, vi p1)]) dX12_goesMany_1 (by decide) rfl <| ?_
  obtain ⟨q1, ho2, h⟩ := bnd_e h
  refine At.sub [1, 2, 0] rfl (lX12_goesMany_L2 FU _ _ q1 ho2 ?_)
  refine At.iconst dX12_goesMany_102 (by decide) <| At.istoren (ls' := [(2, vi 0), (0, vr 130)]) dX12_goesMany_103 (by decide) rfl <| ?_
  obtain ⟨q3, ho4, h⟩ := bnd_e h
  refine At.sub [1, 0] rfl (lX12_goesMany_L104 FU _ _ q3 ho4 ?_)
  obtain rfl := Option.some.inj h
  exact At.vret rfl (Nat.zero_le _) (Nat.zero_le _) ⟨rfl, rfl⟩ dX12_goesMany_135
def fX12_rows_L48 (l2 : Int) (l3 : Int) (l4 : Int) : Nat → Int → SS → Option (SS)
  | 0, _, _ => none
  | n + 1, l6, S =>
    if l4 ≤ l6 then (
      some S
    ) else (
      Option.bind (fX12_goesMany 0 S) fun q1 =>
      lt (w32 (l6 + 1)) fun x2 =>
      fX12_rows_L48 l2 l3 l4 n x2 q1
    )
def fX12_rows_L72 (l2 : Int) (l3 : Int) (S : SS) : Nat → Int → Int → Option (Int)
  | 0, _, _ => none
  | n + 1, l6, l8 =>
    Option.bind (fX12_stands  S) fun q1 =>
    if q1 ≤ l8 then (
      some l6
    ) else (
      Option.bind (fX12_isGoal l8 l2 l3) fun q2 =>
      Option.bind (
        if q2 = true then (
          rdA S 142 120 l8 fun v4 =>
          some v4
        ) else (
          some 0
        )
        : Option (Int)) fun q3 =>
      lt (w64 (l6 + q3)) fun x7 =>
      lt (w32 (l8 + 1)) fun x8 =>
      fX12_rows_L72 l2 l3 S n x7 x8
    )
def fX12_rows (p1 : Int) (p2 : Int) (p3 : Int) (p4 : Int) (S : SS) : Option (Int × SS) :=
  lt (up S 130 0 0) fun S1 =>
  Option.bind (fX12_noComing p1 p2 p3 S1) fun q2 =>
  if q2 = 0 then (
    Option.bind (fX12_within p4 0 12) fun q3 =>
    if q3 = true then (
      Option.bind (fX12_beginsMany p1 S1) fun q4 =>
      Option.bind (fX12_rows_L48 p2 p3 p4 FU 0 q4) fun q5 =>
      Option.bind (fX12_rows_L72 p2 p3 q5 FU 0 0) fun q7 =>
      some (q7, q5)
    ) else (
      some ((-3), S1)
    )
  ) else (
    some (q2, S1)
  )
set_option maxRecDepth 100000 in
set_option maxHeartbeats 4000000 in
theorem lX12_rows_L48 {G : GG} {Φ : Option VV → MM → Prop} {l2 : Int} {l3 : Int} {l4 : Int} : ∀ (n : Nat) (l6 : Int) (S : SS) (q : SS), fX12_rows_L48 l2 l3 l4 n l6 S = some q → At G mX12_rows 7 66 [(0, vr 130), (2, vi l2), (3, vi l3)] [] (mm q) 0 0 Φ → At G mX12_rows 7 48 [(0, vr 130), (2, vi l2), (3, vi l3), (4, vi l4), (6, vi l6)] [] (mm S) 0 0 Φ := by
  intro n
  induction n with
  | zero =>
    intro _ _ _ h
    cases h
  | succ n ih =>
    intro l6 S q h K66
    unfold fX12_rows_L48 at h
    rcases ite_e h with ⟨c3, h⟩ | ⟨c3, h⟩
    · refine At.iload dX12_rows_48 rfl <| At.iload dX12_rows_50 rfl <| At.icmp_ge_t (tgt := 66) dX12_rows_52 (by decide) c3 <| ?_
      obtain rfl := Option.some.inj h
      exact At.sub [0, 1, 2] rfl K66
    · refine At.iload dX12_rows_48 rfl <| At.iload dX12_rows_50 rfl <| At.icmp_ge_f (tgt := 66) dX12_rows_52 (by decide) c3 <| ?_
      refine At.aloadn dX12_rows_55 rfl <| At.iconst dX12_rows_56 (by decide) <| ?_
      obtain ⟨q1, hq1, h⟩ := bnd_e h
      refine At.cV0 (av := [vi 0]) (rest := []) mv_X12_goesMany lk_X12_361 dX12_rows_57 rfl rfl sh_130 (Nat.le_of_ble_eq_true rfl) (by decide) ⟨rfl, rfl⟩ (rX12_goesMany hq1) <| ?_
      obtain ⟨x2, hx2, h⟩ := lt_e h
      refine At.iinc (ls' := [(6, vi x2), (0, vr 130), (2, vi l2), (3, vi l3), (4, vi l4)]) dX12_rows_60 rfl (by decide) (by rw [hx2]; rfl) <| At.goto (tgt := 48) dX12_rows_63 (by decide) <| ?_
      exact At.sub [1, 2, 3, 4, 0] rfl (ih _ _ _ h K66)
set_option maxRecDepth 100000 in
set_option maxHeartbeats 4000000 in
theorem lX12_rows_L72 {G : GG} {Φ : Option VV → MM → Prop} {l2 : Int} {l3 : Int} {S : SS} : ∀ (n : Nat) (l6 : Int) (l8 : Int) (q : Int), fX12_rows_L72 l2 l3 S n l6 l8 = some q → At G mX12_rows 7 113 [(6, vl q)] [] (mm S) 0 0 Φ → At G mX12_rows 7 72 [(0, vr 130), (2, vi l2), (3, vi l3), (6, vl l6), (8, vi l8)] [] (mm S) 0 0 Φ := by
  intro n
  induction n with
  | zero =>
    intro _ _ _ h
    cases h
  | succ n ih =>
    intro l6 l8 q h K113
    unfold fX12_rows_L72 at h
    refine At.iload dX12_rows_72 rfl <| At.aloadn dX12_rows_74 rfl <| ?_
    obtain ⟨q1, hq1, h⟩ := bnd_e h
    rcases ite_e h with ⟨c9, h⟩ | ⟨c9, h⟩
    · refine At.cV1 (av := []) (rest := [vi l8]) mv_X12_stands lk_X12_329 dX12_rows_75 rfl rfl sh_130 (Nat.le_of_ble_eq_true rfl) (by decide) ⟨rfl, rfl⟩ (rX12_stands hq1) <| At.icmp_ge_t (tgt := 113) dX12_rows_78 (by decide) c9 <| ?_
      obtain rfl := Option.some.inj h
      exact At.sub [3] rfl K113
    · refine At.cV1 (av := []) (rest := [vi l8]) mv_X12_stands lk_X12_329 dX12_rows_75 rfl rfl sh_130 (Nat.le_of_ble_eq_true rfl) (by decide) ⟨rfl, rfl⟩ (rX12_stands hq1) <| At.icmp_ge_f (tgt := 113) dX12_rows_78 (by decide) c9 <| ?_
      refine At.lload dX12_rows_81 rfl <| At.iload dX12_rows_83 rfl <| At.iloadn dX12_rows_85 rfl <| At.iloadn dX12_rows_86 rfl <| ?_
      obtain ⟨q2, hq2, h⟩ := bnd_e h
      obtain ⟨q3, hj104, h⟩ := bnd_e h
      have K104 : At G mX12_rows 7 104 [(0, vr 130), (2, vi l2), (3, vi l3), (8, vi l8)] [vl q3, vl l6] (mm S) 0 0 Φ := by
        refine At.ladd dX12_rows_104 <| ?_
        obtain ⟨x7, hx7, h⟩ := lt_e h
        refine At.nml hx7 <| At.lstore (ls' := [(6, vl x7), (0, vr 130), (2, vi l2), (3, vi l3), (8, vi l8)]) dX12_rows_105 (by decide) rfl <| ?_
        obtain ⟨x8, hx8, h⟩ := lt_e h
        refine At.iinc (ls' := [(8, vi x8), (6, vl x7), (0, vr 130), (2, vi l2), (3, vi l3)]) dX12_rows_107 rfl (by decide) (by rw [hx8]; rfl) <| At.goto (tgt := 72) dX12_rows_110 (by decide) <| ?_
        exact At.sub [2, 3, 4, 1, 0] rfl (ih _ _ _ h K113)
      clear h; have h := hj104; clear hj104
      rcases ite_e h with ⟨c6, h⟩ | ⟨c6, h⟩
      · refine At.cS1 (av := [vi l8, vi l2, vi l3]) (rest := [vl l6]) ms_X12_isGoal lk_X12_335 dX12_rows_87 rfl rfl (Nat.le_of_ble_eq_true rfl) (by decide) ⟨rfl, rfl⟩ (rX12_isGoal hq2) <| At.bifeq_f (tgt := 103) dX12_rows_90 (by decide) c6 <| ?_
        refine At.aloadn dX12_rows_93 rfl <| At.getR fl_X12_51 sh_130 (le149 sh_130) rf_130_25 dX12_rows_94 <| At.iload dX12_rows_97 rfl <| ?_
        obtain ⟨v4, hv4, g5, h⟩ := rdA_e h
        refine At.lald sh_142 (le149 sh_142) g5.1 g5.2 dX12_rows_99 <| At.nml hv4 <| At.goto (tgt := 104) dX12_rows_100 (by decide) <| ?_
        obtain rfl := Option.some.inj h
        exact At.sub [0, 1, 2, 4] rfl K104
      · refine At.cS1 (av := [vi l8, vi l2, vi l3]) (rest := [vl l6]) ms_X12_isGoal lk_X12_335 dX12_rows_87 rfl rfl (Nat.le_of_ble_eq_true rfl) (by decide) ⟨rfl, rfl⟩ (rX12_isGoal hq2) <| At.bifeq_t (tgt := 103) dX12_rows_90 (by decide) c6 <| ?_
        refine At.lconst0 dX12_rows_103 <| ?_
        obtain rfl := Option.some.inj h
        exact At.sub [0, 1, 2, 4] rfl K104
set_option maxRecDepth 100000 in
set_option maxHeartbeats 4000000 in
theorem rX12_rows {G : GG} {p1 : Int} {p2 : Int} {p3 : Int} {p4 : Int} {S : SS} {rr : (Int × SS)} (h : fX12_rows p1 p2 p3 p4 S = some rr) : RD G mX12_rows 7 [vr 130, vi p1, vi p2, vi p3, vi p4] S (some (vl rr.1)) rr.2 := by
  unfold fX12_rows at h
  refine Runs.of pl_X12 (Nat.le_of_ble_eq_true rfl) ?_
  show At G mX12_rows 7 0 [(0, vr 130), (1, vi p1), (2, vi p2), (3, vi p3), (4, vi p4)] [] (mm S) 0 0 (EQ (some (vl rr.1)) rr.2)
  refine At.aloadn dX12_rows_0 rfl <| At.iconst dX12_rows_1 (by decide) <| ?_
  obtain ⟨S1, hS1, h⟩ := lt_e h
  refine At.putI fw_X12_1 sh_130 (le149 sh_130) dX12_rows_2 <| At.nmS hS1 <| At.aloadn dX12_rows_5 rfl <| At.iloadn dX12_rows_6 rfl <| At.iloadn dX12_rows_7 rfl <| At.iloadn dX12_rows_8 rfl <| ?_
  obtain ⟨q2, hq2, h⟩ := bnd_e h
  rcases ite_e h with ⟨c10, h⟩ | ⟨c10, h⟩
  · refine At.cV1 (av := [vi p1, vi p2, vi p3]) (rest := []) mv_X12_noComing lk_X12_342 dX12_rows_9 rfl rfl sh_130 (Nat.le_of_ble_eq_true rfl) (by decide) ⟨rfl, rfl⟩ (rX12_noComing hq2) <| At.istore (ls' := [(5, vi q2), (0, vr 130), (1, vi p1), (2, vi p2), (3, vi p3), (4, vi p4)]) dX12_rows_12 (by decide) rfl <| At.iload dX12_rows_14 rfl <| At.if_eq_t (tgt := 23) dX12_rows_16 (by decide) c10 <| ?_
    refine At.iload dX12_rows_23 rfl <| At.i2l dX12_rows_25 <| At.lconst0 dX12_rows_26 <| At.ldc2 dX12_rows_27 kl_X12_354 (by decide) <| ?_
    obtain ⟨q3, hq3, h⟩ := bnd_e h
    rcases ite_e h with ⟨c9, h⟩ | ⟨c9, h⟩
    · refine At.cS1 (av := [vl p4, vl 0, vl 12]) (rest := []) ms_X12_within lk_X12_142 dX12_rows_30 rfl rfl (Nat.le_of_ble_eq_true rfl) (by decide) ⟨rfl, rfl⟩ (rX12_within hq3) <| At.bifne_t (tgt := 40) dX12_rows_33 (by decide) c9 <| ?_
      refine At.aloadn dX12_rows_40 rfl <| At.iloadn dX12_rows_41 rfl <| ?_
      obtain ⟨q4, hq4, h⟩ := bnd_e h
      refine At.cV0 (av := [vi p1]) (rest := []) mv_X12_beginsMany lk_X12_358 dX12_rows_42 rfl rfl sh_130 (Nat.le_of_ble_eq_true rfl) (by decide) ⟨rfl, rfl⟩ (rX12_beginsMany hq4) <| At.iconst dX12_rows_45 (by decide) <| At.istore (ls' := [(6, vi 0), (5, vi q2), (0, vr 130), (1, vi p1), (2, vi p2), (3, vi p3), (4, vi p4)]) dX12_rows_46 (by decide) rfl <| ?_
      obtain ⟨q5, ho6, h⟩ := bnd_e h
      refine At.sub [2, 4, 5, 6, 0] rfl (lX12_rows_L48 FU _ _ q5 ho6 ?_)
      refine At.lconst0 dX12_rows_66 <| At.lstore (ls' := [(6, vl 0), (0, vr 130), (2, vi p2), (3, vi p3)]) dX12_rows_67 (by decide) rfl <| At.iconst dX12_rows_69 (by decide) <| At.istore (ls' := [(8, vi 0), (6, vl 0), (0, vr 130), (2, vi p2), (3, vi p3)]) dX12_rows_70 (by decide) rfl <| ?_
      obtain ⟨q7, ho8, h⟩ := bnd_e h
      refine At.sub [2, 3, 4, 1, 0] rfl (lX12_rows_L72 FU _ _ q7 ho8 ?_)
      refine At.lload dX12_rows_113 rfl <| ?_
      obtain rfl := Option.some.inj h
      exact At.lret rfl (Nat.zero_le _) (Nat.zero_le _) ⟨rfl, rfl⟩ dX12_rows_115
    · refine At.cS1 (av := [vl p4, vl 0, vl 12]) (rest := []) ms_X12_within lk_X12_142 dX12_rows_30 rfl rfl (Nat.le_of_ble_eq_true rfl) (by decide) ⟨rfl, rfl⟩ (rX12_within hq3) <| At.bifne_f (tgt := 40) dX12_rows_33 (by decide) c9 <| ?_
      refine At.ldc2 dX12_rows_36 kl_X12_356 (by decide) <| ?_
      obtain rfl := Option.some.inj h
      exact At.lret rfl (Nat.zero_le _) (Nat.zero_le _) ⟨rfl, rfl⟩ dX12_rows_39
  · refine At.cV1 (av := [vi p1, vi p2, vi p3]) (rest := []) mv_X12_noComing lk_X12_342 dX12_rows_9 rfl rfl sh_130 (Nat.le_of_ble_eq_true rfl) (by decide) ⟨rfl, rfl⟩ (rX12_noComing hq2) <| At.istore (ls' := [(5, vi q2), (0, vr 130), (1, vi p1), (2, vi p2), (3, vi p3), (4, vi p4)]) dX12_rows_12 (by decide) rfl <| At.iload dX12_rows_14 rfl <| At.if_eq_f (tgt := 23) dX12_rows_16 (by decide) c10 <| ?_
    refine At.iload dX12_rows_19 rfl <| At.i2l dX12_rows_21 <| ?_
    obtain rfl := Option.some.inj h
    exact At.lret rfl (Nat.zero_le _) (Nat.zero_le _) ⟨rfl, rfl⟩ dX12_rows_22
def fX12_laysGone_120_L2 (l1 : Int) (l2 : Nat) : Nat → Int → SS → Option (SS)
  | 0, _, _ => none
  | n + 1, l3, S =>
    if 120 ≤ l3 then (
      some S
    ) else (
      Option.bind (
        if l3 = l1 then (
          some 0
        ) else (
          some 268435456
        )
        : Option (Int)) fun q1 =>
      wrA S l2 120 l3 q1 fun S3 =>
      lt (w32 (l3 + 1)) fun x5 =>
      fX12_laysGone_120_L2 l1 l2 n x5 S3
    )
def fX12_laysGone_120_L52 (l2 : Nat) (l3 : Int) (l4 : Int) : Nat → Int → SS → Option (SS)
  | 0, _, _ => none
  | n + 1, l5, S =>
    if 8 ≤ l5 then (
      some S
    ) else (
      rdA S l2 120 l4 fun v1 =>
      if v1 = l3 then (
        rdA S 138 960 (w32 ((w32 (8 * l4)) + l5)) fun v3 =>
        Option.bind (
          if v3 = ((-1)) then (
            some S
          ) else (
            rdA S l2 120 v3 fun v6 =>
            if v6 = 268435456 then (
              wrA S l2 120 v3 (w32 (l3 + 1)) fun S8 =>
              some S8
            ) else (
              some S
            )
          )
          : Option (SS)) fun q5 =>
        lt (w32 (l5 + 1)) fun x12 =>
        fX12_laysGone_120_L52 l2 l3 l4 n x12 q5
      ) else (
        some S
      )
    )
def fX12_laysGone_120_L40 (l2 : Nat) (l3 : Int) : Nat → Int → SS → Option (SS)
  | 0, _, _ => none
  | n + 1, l4, S =>
    Option.bind (fX12_stands  S) fun q1 =>
    if q1 ≤ l4 then (
      some S
    ) else (
      Option.bind (fX12_laysGone_120_L52 l2 l3 l4 FU 0 S) fun q2 =>
      lt (w32 (l4 + 1)) fun x4 =>
      fX12_laysGone_120_L40 l2 l3 n x4 q2
    )
def fX12_laysGone_120_L31 (l2 : Nat) : Nat → Int → SS → Option (SS)
  | 0, _, _ => none
  | n + 1, l3, S =>
    if 120 ≤ l3 then (
      some S
    ) else (
      Option.bind (fX12_laysGone_120_L40 l2 l3 FU 0 S) fun q1 =>
      lt (w32 (l3 + 1)) fun x3 =>
      fX12_laysGone_120_L31 l2 n x3 q1
    )
def fX12_laysGone_120 (p1 : Int) (p2 : Nat) (S : SS) : Option SS :=
  Option.bind (fX12_laysGone_120_L2 p1 p2 FU 0 S) fun q1 =>
  Option.bind (fX12_laysGone_120_L31 p2 FU 0 q1) fun q3 =>
  some q3
set_option maxRecDepth 100000 in
set_option maxHeartbeats 4000000 in
theorem lX12_laysGone_120_L2 {G : GG} {Φ : Option VV → MM → Prop} {l1 : Int} {l2 : Nat} (hl2 : sh l2 = (20, 120)) : ∀ (n : Nat) (l3 : Int) (S : SS) (q : SS), fX12_laysGone_120_L2 l1 l2 n l3 S = some q → At G mX12_laysGone 2 29 [(0, vr 130), (2, vr l2)] [] (mm q) 0 0 Φ → At G mX12_laysGone 2 2 [(0, vr 130), (1, vi l1), (2, vr l2), (3, vi l3)] [] (mm S) 0 0 Φ := by
  intro n
  induction n with
  | zero =>
    intro _ _ _ h
    cases h
  | succ n ih =>
    intro l3 S q h K29
    unfold fX12_laysGone_120_L2 at h
    rcases ite_e h with ⟨c6, h⟩ | ⟨c6, h⟩
    · refine At.iloadn dX12_laysGone_2 rfl <| At.bipush dX12_laysGone_3 (by decide) <| At.icmp_ge_t (tgt := 29) dX12_laysGone_5 (by decide) c6 <| ?_
      obtain rfl := Option.some.inj h
      exact At.sub [0, 2] rfl K29
    · refine At.iloadn dX12_laysGone_2 rfl <| At.bipush dX12_laysGone_3 (by decide) <| At.icmp_ge_f (tgt := 29) dX12_laysGone_5 (by decide) c6 <| ?_
      obtain ⟨q1, hj22, h⟩ := bnd_e h
      have K22 : At G mX12_laysGone 2 22 [(0, vr 130), (1, vi l1), (2, vr l2), (3, vi l3)] [vi q1, vi l3, vr l2] (mm S) 0 0 Φ := by
        obtain ⟨S3, hS3, g4, h⟩ := wrA_e h
        refine At.iast hl2 (le149 hl2) g4.1 g4.2 dX12_laysGone_22 <| At.nmS hS3 <| ?_
        obtain ⟨x5, hx5, h⟩ := lt_e h
        refine At.iinc (ls' := [(3, vi x5), (0, vr 130), (1, vi l1), (2, vr l2)]) dX12_laysGone_23 rfl (by decide) (by rw [hx5]; rfl) <| At.goto (tgt := 2) dX12_laysGone_26 (by decide) <| ?_
        exact At.sub [1, 2, 3, 0] rfl (ih _ _ _ h K29)
      clear h; have h := hj22; clear hj22
      rcases ite_e h with ⟨c2, h⟩ | ⟨c2, h⟩
      · refine At.aloadn dX12_laysGone_8 rfl <| At.iloadn dX12_laysGone_9 rfl <| At.iloadn dX12_laysGone_10 rfl <| At.iloadn dX12_laysGone_11 rfl <| At.icmp_ne_f (tgt := 19) dX12_laysGone_12 (by decide) c2 <| ?_
        refine At.iconst dX12_laysGone_15 (by decide) <| At.goto (tgt := 22) dX12_laysGone_16 (by decide) <| ?_
        obtain rfl := Option.some.inj h
        exact At.sub [0, 1, 2, 3] rfl K22
      · refine At.aloadn dX12_laysGone_8 rfl <| At.iloadn dX12_laysGone_9 rfl <| At.iloadn dX12_laysGone_10 rfl <| At.iloadn dX12_laysGone_11 rfl <| At.icmp_ne_t (tgt := 19) dX12_laysGone_12 (by decide) c2 <| ?_
        refine At.ldcw dX12_laysGone_19 ki_X12_328 (by decide) <| ?_
        obtain rfl := Option.some.inj h
        exact At.sub [0, 1, 2, 3] rfl K22
set_option maxRecDepth 100000 in
set_option maxHeartbeats 4000000 in
theorem lX12_laysGone_120_L52 {G : GG} {Φ : Option VV → MM → Prop} {l2 : Nat} {l3 : Int} {l4 : Int} (hl2 : sh l2 = (20, 120)) : ∀ (n : Nat) (l5 : Int) (S : SS) (q : SS), fX12_laysGone_120_L52 l2 l3 l4 n l5 S = some q → At G mX12_laysGone 2 111 [(0, vr 130), (2, vr l2), (3, vi l3), (4, vi l4)] [] (mm q) 0 0 Φ → At G mX12_laysGone 2 52 [(0, vr 130), (2, vr l2), (3, vi l3), (4, vi l4), (5, vi l5)] [] (mm S) 0 0 Φ := by
  intro n
  induction n with
  | zero =>
    intro _ _ _ h
    cases h
  | succ n ih =>
    intro l5 S q h K111
    unfold fX12_laysGone_120_L52 at h
    rcases ite_e h with ⟨c14, h⟩ | ⟨c14, h⟩
    · refine At.iload dX12_laysGone_52 rfl <| At.bipush dX12_laysGone_54 (by decide) <| At.icmp_ge_t (tgt := 111) dX12_laysGone_56 (by decide) c14 <| ?_
      obtain rfl := Option.some.inj h
      exact At.sub [0, 1, 2, 3] rfl K111
    · refine At.iload dX12_laysGone_52 rfl <| At.bipush dX12_laysGone_54 (by decide) <| At.icmp_ge_f (tgt := 111) dX12_laysGone_56 (by decide) c14 <| ?_
      refine At.aloadn dX12_laysGone_59 rfl <| At.iload dX12_laysGone_60 rfl <| ?_
      obtain ⟨v1, hv1, g2, h⟩ := rdA_e h
      rcases ite_e h with ⟨c13, h⟩ | ⟨c13, h⟩
      · refine At.iald hl2 (le149 hl2) g2.1 g2.2 dX12_laysGone_62 <| At.nm hv1 <| At.iloadn dX12_laysGone_63 rfl <| At.icmp_ne_f (tgt := 111) dX12_laysGone_64 (by decide) c13 <| ?_
        refine At.aloadn dX12_laysGone_67 rfl <| At.getR fl_X12_39 sh_130 (le149 sh_130) rf_130_21 dX12_laysGone_68 <| At.bipush dX12_laysGone_71 (by decide) <| At.iload dX12_laysGone_73 rfl <| At.imul dX12_laysGone_75 <| At.iload dX12_laysGone_76 rfl <| At.iadd dX12_laysGone_78 <| ?_
        obtain ⟨v3, hv3, g4, h⟩ := rdA_e h
        obtain ⟨q5, hj105, h⟩ := bnd_e h
        have K105 : At G mX12_laysGone 2 105 [(0, vr 130), (2, vr l2), (3, vi l3), (4, vi l4), (5, vi l5)] [] (mm q5) 0 0 Φ := by
          obtain ⟨x12, hx12, h⟩ := lt_e h
          refine At.iinc (ls' := [(5, vi x12), (0, vr 130), (2, vr l2), (3, vi l3), (4, vi l4)]) dX12_laysGone_105 rfl (by decide) (by rw [hx12]; rfl) <| At.goto (tgt := 52) dX12_laysGone_108 (by decide) <| ?_
          exact At.sub [1, 2, 3, 4, 0] rfl (ih _ _ _ h K111)
        clear h; have h := hj105; clear hj105
        rcases ite_e h with ⟨c11, h⟩ | ⟨c11, h⟩
        · refine At.iald sh_138 (le149 sh_138) g4.1 g4.2 dX12_laysGone_79 <| At.nm hv3 <| At.istore (ls' := [(6, vi v3), (0, vr 130), (2, vr l2), (3, vi l3), (4, vi l4), (5, vi l5)]) dX12_laysGone_80 (by decide) rfl <| At.iload dX12_laysGone_82 rfl <| At.iconst dX12_laysGone_84 (by decide) <| At.icmp_eq_t (tgt := 105) dX12_laysGone_85 (by decide) c11 <| ?_
          obtain rfl := Option.some.inj h
          exact At.sub [1, 2, 3, 4, 5] rfl K105
        · refine At.iald sh_138 (le149 sh_138) g4.1 g4.2 dX12_laysGone_79 <| At.nm hv3 <| At.istore (ls' := [(6, vi v3), (0, vr 130), (2, vr l2), (3, vi l3), (4, vi l4), (5, vi l5)]) dX12_laysGone_80 (by decide) rfl <| At.iload dX12_laysGone_82 rfl <| At.iconst dX12_laysGone_84 (by decide) <| At.icmp_eq_f (tgt := 105) dX12_laysGone_85 (by decide) c11 <| ?_
          refine At.aloadn dX12_laysGone_88 rfl <| At.iload dX12_laysGone_89 rfl <| ?_
          obtain ⟨v6, hv6, g7, h⟩ := rdA_e h
          rcases ite_e h with ⟨c10, h⟩ | ⟨c10, h⟩
          · refine At.iald hl2 (le149 hl2) g7.1 g7.2 dX12_laysGone_91 <| At.nm hv6 <| At.ldcw dX12_laysGone_92 ki_X12_328 (by decide) <| At.icmp_ne_f (tgt := 105) dX12_laysGone_95 (by decide) c10 <| ?_
            refine At.aloadn dX12_laysGone_98 rfl <| At.iload dX12_laysGone_99 rfl <| At.iloadn dX12_laysGone_101 rfl <| At.iconst dX12_laysGone_102 (by decide) <| At.iadd dX12_laysGone_103 <| ?_
            obtain ⟨S8, hS8, g9, h⟩ := wrA_e h
            refine At.iast hl2 (le149 hl2) g9.1 g9.2 dX12_laysGone_104 <| At.nmS hS8 <| ?_
            obtain rfl := Option.some.inj h
            exact At.sub [1, 2, 3, 4, 5] rfl K105
          · refine At.iald hl2 (le149 hl2) g7.1 g7.2 dX12_laysGone_91 <| At.nm hv6 <| At.ldcw dX12_laysGone_92 ki_X12_328 (by decide) <| At.icmp_ne_t (tgt := 105) dX12_laysGone_95 (by decide) c10 <| ?_
            obtain rfl := Option.some.inj h
            exact At.sub [1, 2, 3, 4, 5] rfl K105
      · refine At.iald hl2 (le149 hl2) g2.1 g2.2 dX12_laysGone_62 <| At.nm hv1 <| At.iloadn dX12_laysGone_63 rfl <| At.icmp_ne_t (tgt := 111) dX12_laysGone_64 (by decide) c13 <| ?_
        obtain rfl := Option.some.inj h
        exact At.sub [0, 1, 2, 3] rfl K111
set_option maxRecDepth 100000 in
set_option maxHeartbeats 4000000 in
theorem lX12_laysGone_120_L40 {G : GG} {Φ : Option VV → MM → Prop} {l2 : Nat} {l3 : Int} (hl2 : sh l2 = (20, 120)) : ∀ (n : Nat) (l4 : Int) (S : SS) (q : SS), fX12_laysGone_120_L40 l2 l3 n l4 S = some q → At G mX12_laysGone 2 117 [(0, vr 130), (2, vr l2), (3, vi l3)] [] (mm q) 0 0 Φ → At G mX12_laysGone 2 40 [(0, vr 130), (2, vr l2), (3, vi l3), (4, vi l4)] [] (mm S) 0 0 Φ := by
  intro n
  induction n with
  | zero =>
    intro _ _ _ h
    cases h
  | succ n ih =>
    intro l4 S q h K117
    unfold fX12_laysGone_120_L40 at h
    refine At.iload dX12_laysGone_40 rfl <| At.aloadn dX12_laysGone_42 rfl <| ?_
    obtain ⟨q1, hq1, h⟩ := bnd_e h
    rcases ite_e h with ⟨c5, h⟩ | ⟨c5, h⟩
    · refine At.cV1 (av := []) (rest := [vi l4]) mv_X12_stands lk_X12_329 dX12_laysGone_43 rfl rfl sh_130 (Nat.le_of_ble_eq_true rfl) (by decide) ⟨rfl, rfl⟩ (rX12_stands hq1) <| At.icmp_ge_t (tgt := 117) dX12_laysGone_46 (by decide) c5 <| ?_
      obtain rfl := Option.some.inj h
      exact At.sub [0, 1, 2] rfl K117
    · refine At.cV1 (av := []) (rest := [vi l4]) mv_X12_stands lk_X12_329 dX12_laysGone_43 rfl rfl sh_130 (Nat.le_of_ble_eq_true rfl) (by decide) ⟨rfl, rfl⟩ (rX12_stands hq1) <| At.icmp_ge_f (tgt := 117) dX12_laysGone_46 (by decide) c5 <| ?_
      refine At.iconst dX12_laysGone_49 (by decide) <| At.istore (ls' := [(5, vi 0), (0, vr 130), (2, vr l2), (3, vi l3), (4, vi l4)]) dX12_laysGone_50 (by decide) rfl <| ?_
      obtain ⟨q2, ho3, h⟩ := bnd_e h
      refine At.sub [1, 2, 3, 4, 0] rfl (lX12_laysGone_120_L52 hl2 FU _ _ q2 ho3 ?_)
      obtain ⟨x4, hx4, h⟩ := lt_e h
      refine At.iinc (ls' := [(4, vi x4), (0, vr 130), (2, vr l2), (3, vi l3)]) dX12_laysGone_111 rfl (by decide) (by rw [hx4]; rfl) <| At.goto (tgt := 40) dX12_laysGone_114 (by decide) <| ?_
      exact At.sub [1, 2, 3, 0] rfl (ih _ _ _ h K117)
set_option maxRecDepth 100000 in
set_option maxHeartbeats 4000000 in
theorem lX12_laysGone_120_L31 {G : GG} {Φ : Option VV → MM → Prop} {l2 : Nat} (hl2 : sh l2 = (20, 120)) : ∀ (n : Nat) (l3 : Int) (S : SS) (q : SS), fX12_laysGone_120_L31 l2 n l3 S = some q → At G mX12_laysGone 2 123 [] [] (mm q) 0 0 Φ → At G mX12_laysGone 2 31 [(0, vr 130), (2, vr l2), (3, vi l3)] [] (mm S) 0 0 Φ := by
  intro n
  induction n with
  | zero =>
    intro _ _ _ h
    cases h
  | succ n ih =>
    intro l3 S q h K123
    unfold fX12_laysGone_120_L31 at h
    rcases ite_e h with ⟨c4, h⟩ | ⟨c4, h⟩
    · refine At.iloadn dX12_laysGone_31 rfl <| At.bipush dX12_laysGone_32 (by decide) <| At.icmp_ge_t (tgt := 123) dX12_laysGone_34 (by decide) c4 <| ?_
      obtain rfl := Option.some.inj h
      exact At.sub [] rfl K123
    · refine At.iloadn dX12_laysGone_31 rfl <| At.bipush dX12_laysGone_32 (by decide) <| At.icmp_ge_f (tgt := 123) dX12_laysGone_34 (by decide) c4 <| ?_
      refine At.iconst dX12_laysGone_37 (by decide) <| At.istore (ls' := [(4, vi 0), (0, vr 130), (2, vr l2), (3, vi l3)]) dX12_laysGone_38 (by decide) rfl <| ?_
      obtain ⟨q1, ho2, h⟩ := bnd_e h
      refine At.sub [1, 2, 3, 0] rfl (lX12_laysGone_120_L40 hl2 FU _ _ q1 ho2 ?_)
      obtain ⟨x3, hx3, h⟩ := lt_e h
      refine At.iinc (ls' := [(3, vi x3), (0, vr 130), (2, vr l2)]) dX12_laysGone_117 rfl (by decide) (by rw [hx3]; rfl) <| At.goto (tgt := 31) dX12_laysGone_120 (by decide) <| ?_
      exact At.sub [1, 2, 0] rfl (ih _ _ _ h K123)
set_option maxRecDepth 100000 in
set_option maxHeartbeats 4000000 in
theorem rX12_laysGone_120 {G : GG} {p1 : Int} {p2 : Nat} {S : SS} {rr : SS} (hp2 : sh p2 = (20, 120)) (h : fX12_laysGone_120 p1 p2 S = some rr) : RD G mX12_laysGone 2 [vr 130, vi p1, vr p2] S none rr := by
  unfold fX12_laysGone_120 at h
  refine Runs.of pl_X12 (Nat.le_of_ble_eq_true rfl) ?_
  show At G mX12_laysGone 2 0 [(0, vr 130), (1, vi p1), (2, vr p2)] [] (mm S) 0 0 (EQ none rr)
  refine At.iconst dX12_laysGone_0 (by decide) <| At.istoren (ls' := [(3, vi 0), (0, vr 130), (1, vi p1), (2, vr p2)]) dX12_laysGone_1 (by decide) rfl <| ?_
  obtain ⟨q1, ho2, h⟩ := bnd_e h
  refine At.sub [1, 2, 3, 0] rfl (lX12_laysGone_120_L2 hp2 FU _ _ q1 ho2 ?_)
  refine At.iconst dX12_laysGone_29 (by decide) <| At.istoren (ls' := [(3, vi 0), (0, vr 130), (2, vr p2)]) dX12_laysGone_30 (by decide) rfl <| ?_
  obtain ⟨q3, ho4, h⟩ := bnd_e h
  refine At.sub [1, 2, 0] rfl (lX12_laysGone_120_L31 hp2 FU _ _ q3 ho4 ?_)
  obtain rfl := Option.some.inj h
  exact At.vret rfl (Nat.zero_le _) (Nat.zero_le _) ⟨rfl, rfl⟩ dX12_laysGone_123
def fX12_laysFromNow (p1 : Int) (S : SS) : Option SS :=
  Option.bind (fX12_laysThen p1 0 S) fun q1 =>
  Option.bind (fX12_standOf p1 q1) fun q2 =>
  Option.bind (fX12_laysGone_120 q2 140 q1) fun q3 =>
  some q3
set_option maxRecDepth 100000 in
set_option maxHeartbeats 4000000 in
theorem rX12_laysFromNow {G : GG} {p1 : Int} {S : SS} {rr : SS} (h : fX12_laysFromNow p1 S = some rr) : RD G mX12_laysFromNow 6 [vr 130, vi p1] S none rr := by
  unfold fX12_laysFromNow at h
  refine Runs.of pl_X12 (Nat.le_of_ble_eq_true rfl) ?_
  show At G mX12_laysFromNow 6 0 [(0, vr 130), (1, vi p1)] [] (mm S) 0 0 (EQ none rr)
  refine At.aloadn dX12_laysFromNow_0 rfl <| At.iloadn dX12_laysFromNow_1 rfl <| At.iconst dX12_laysFromNow_2 (by decide) <| ?_
  obtain ⟨q1, hq1, h⟩ := bnd_e h
  refine At.cV0 (av := [vi p1, vi 0]) (rest := []) mv_X12_laysThen lk_X12_332 dX12_laysFromNow_3 rfl rfl sh_130 (Nat.le_of_ble_eq_true rfl) (by decide) ⟨rfl, rfl⟩ (rX12_laysThen hq1) <| At.aloadn dX12_laysFromNow_6 rfl <| At.aloadn dX12_laysFromNow_7 rfl <| At.iloadn dX12_laysFromNow_8 rfl <| ?_
  obtain ⟨q2, hq2, h⟩ := bnd_e h
  refine At.cV1 (av := [vi p1]) (rest := [vr 130]) mv_X12_standOf lk_X12_239 dX12_laysFromNow_9 rfl rfl sh_130 (Nat.le_of_ble_eq_true rfl) (by decide) ⟨rfl, rfl⟩ (rX12_standOf hq2) <| At.aloadn dX12_laysFromNow_12 rfl <| At.getR fl_X12_45 sh_130 (le149 sh_130) rf_130_23 dX12_laysFromNow_13 <| ?_
  obtain ⟨q3, hq3, h⟩ := bnd_e h
  refine At.cV0 (av := [vi q2, vr 140]) (rest := []) mv_X12_laysGone lk_X12_365 dX12_laysFromNow_16 rfl rfl sh_130 (Nat.le_of_ble_eq_true rfl) (by decide) ⟨rfl, rfl⟩ (rX12_laysGone_120 sh_140 hq3) <| ?_
  obtain rfl := Option.some.inj h
  exact At.vret rfl (Nat.zero_le _) (Nat.zero_le _) ⟨rfl, rfl⟩ dX12_laysFromNow_19
def fX12_when_L36 (l2 : Int) (S : SS) : Nat → Int → Int → Option (Int)
  | 0, _, _ => none
  | n + 1, l3, l4 =>
    if 20 ≤ l4 then (
      some l3
    ) else (
      rdA S 140 120 (w32 ((w32 (20 * l2)) + l4)) fun v1 =>
      Option.bind (
        if 268435456 ≤ v1 then (
          some 0
        ) else (
          some (jshl 1 l4)
        )
        : Option (Int)) fun q3 =>
      lt (jor l3 q3) fun x5 =>
      lt (w32 (l4 + 1)) fun x6 =>
      fX12_when_L36 l2 S n x5 x6
    )
def fX12_when (p1 : Int) (p2 : Int) (S : SS) : Option (Int × SS) :=
  lt (up S 130 0 0) fun S1 =>
  Option.bind (fX12_isGoer p1 S1) fun q2 =>
  if q2 = true then (
    Option.bind (fX12_isCorner p2 S1) fun q3 =>
    if q3 = true then (
      Option.bind (fX12_laysFromNow p1 S1) fun q4 =>
      Option.bind (fX12_when_L36 p2 q4 FU 0 0) fun q5 =>
      some (q5, q4)
    ) else (
      some ((-2), S1)
    )
  ) else (
    some ((-2), S1)
  )
set_option maxRecDepth 100000 in
set_option maxHeartbeats 4000000 in
theorem lX12_when_L36 {G : GG} {Φ : Option VV → MM → Prop} {l2 : Int} {S : SS} : ∀ (n : Nat) (l3 : Int) (l4 : Int) (q : Int), fX12_when_L36 l2 S n l3 l4 = some q → At G mX12_when 7 78 [(3, vi q)] [] (mm S) 0 0 Φ → At G mX12_when 7 36 [(0, vr 130), (2, vi l2), (3, vi l3), (4, vi l4)] [] (mm S) 0 0 Φ := by
  intro n
  induction n with
  | zero =>
    intro _ _ _ h
    cases h
  | succ n ih =>
    intro l3 l4 q h K78
    unfold fX12_when_L36 at h
    rcases ite_e h with ⟨c7, h⟩ | ⟨c7, h⟩
    · refine At.iload dX12_when_36 rfl <| At.bipush dX12_when_38 (by decide) <| At.icmp_ge_t (tgt := 78) dX12_when_40 (by decide) c7 <| ?_
      obtain rfl := Option.some.inj h
      exact At.sub [2] rfl K78
    · refine At.iload dX12_when_36 rfl <| At.bipush dX12_when_38 (by decide) <| At.icmp_ge_f (tgt := 78) dX12_when_40 (by decide) c7 <| ?_
      refine At.iloadn dX12_when_43 rfl <| At.aloadn dX12_when_44 rfl <| At.getR fl_X12_45 sh_130 (le149 sh_130) rf_130_23 dX12_when_45 <| At.bipush dX12_when_48 (by decide) <| At.iloadn dX12_when_50 rfl <| At.imul dX12_when_51 <| At.iload dX12_when_52 rfl <| At.iadd dX12_when_54 <| ?_
      obtain ⟨v1, hv1, g2, h⟩ := rdA_e h
      obtain ⟨q3, hj70, h⟩ := bnd_e h
      have K70 : At G mX12_when 7 70 [(0, vr 130), (2, vi l2), (4, vi l4)] [vi q3, vi l3] (mm S) 0 0 Φ := by
        refine At.ior dX12_when_70 <| ?_
        obtain ⟨x5, hx5, h⟩ := lt_e h
        refine At.nm hx5 <| At.istoren (ls' := [(3, vi x5), (0, vr 130), (2, vi l2), (4, vi l4)]) dX12_when_71 (by decide) rfl <| ?_
        obtain ⟨x6, hx6, h⟩ := lt_e h
        refine At.iinc (ls' := [(4, vi x6), (3, vi x5), (0, vr 130), (2, vi l2)]) dX12_when_72 rfl (by decide) (by rw [hx6]; rfl) <| At.goto (tgt := 36) dX12_when_75 (by decide) <| ?_
        exact At.sub [2, 3, 1, 0] rfl (ih _ _ _ h K78)
      clear h; have h := hj70; clear hj70
      rcases ite_e h with ⟨c4, h⟩ | ⟨c4, h⟩
      · refine At.iald sh_140 (le149 sh_140) g2.1 g2.2 dX12_when_55 <| At.nm hv1 <| At.ldcw dX12_when_56 ki_X12_328 (by decide) <| At.icmp_ge_t (tgt := 69) dX12_when_59 (by decide) c4 <| ?_
        refine At.iconst dX12_when_69 (by decide) <| ?_
        obtain rfl := Option.some.inj h
        exact At.sub [0, 1, 3] rfl K70
      · refine At.iald sh_140 (le149 sh_140) g2.1 g2.2 dX12_when_55 <| At.nm hv1 <| At.ldcw dX12_when_56 ki_X12_328 (by decide) <| At.icmp_ge_f (tgt := 69) dX12_when_59 (by decide) c4 <| ?_
        refine At.iconst dX12_when_62 (by decide) <| At.iload dX12_when_63 rfl <| At.ishl dX12_when_65 <| At.goto (tgt := 70) dX12_when_66 (by decide) <| ?_
        obtain rfl := Option.some.inj h
        exact At.sub [0, 1, 3] rfl K70
set_option maxRecDepth 100000 in
set_option maxHeartbeats 4000000 in
theorem rX12_when {G : GG} {p1 : Int} {p2 : Int} {S : SS} {rr : (Int × SS)} (h : fX12_when p1 p2 S = some rr) : RD G mX12_when 7 [vr 130, vi p1, vi p2] S (some (vi rr.1)) rr.2 := by
  unfold fX12_when at h
  refine Runs.of pl_X12 (Nat.le_of_ble_eq_true rfl) ?_
  show At G mX12_when 7 0 [(0, vr 130), (1, vi p1), (2, vi p2)] [] (mm S) 0 0 (EQ (some (vi rr.1)) rr.2)
  refine At.aloadn dX12_when_0 rfl <| At.iconst dX12_when_1 (by decide) <| ?_
  obtain ⟨S1, hS1, h⟩ := lt_e h
  refine At.putI fw_X12_1 sh_130 (le149 sh_130) dX12_when_2 <| At.nmS hS1 <| At.aloadn dX12_when_5 rfl <| At.iloadn dX12_when_6 rfl <| At.i2l dX12_when_7 <| ?_
  obtain ⟨q2, hq2, h⟩ := bnd_e h
  rcases ite_e h with ⟨c8, h⟩ | ⟨c8, h⟩
  · refine At.cV1 (av := [vl p1]) (rest := []) mv_X12_isGoer lk_X12_233 dX12_when_8 rfl rfl sh_130 (Nat.le_of_ble_eq_true rfl) (by decide) ⟨rfl, rfl⟩ (rX12_isGoer hq2) <| At.bifeq_f (tgt := 23) dX12_when_11 (by decide) c8 <| ?_
    refine At.aloadn dX12_when_14 rfl <| At.iloadn dX12_when_15 rfl <| At.i2l dX12_when_16 <| ?_
    obtain ⟨q3, hq3, h⟩ := bnd_e h
    rcases ite_e h with ⟨c7, h⟩ | ⟨c7, h⟩
    · refine At.cV1 (av := [vl p2]) (rest := []) mv_X12_isCorner lk_X12_268 dX12_when_17 rfl rfl sh_130 (Nat.le_of_ble_eq_true rfl) (by decide) ⟨rfl, rfl⟩ (rX12_isCorner hq3) <| At.bifne_t (tgt := 26) dX12_when_20 (by decide) c7 <| ?_
      refine At.aloadn dX12_when_26 rfl <| At.iloadn dX12_when_27 rfl <| ?_
      obtain ⟨q4, hq4, h⟩ := bnd_e h
      refine At.cV0 (av := [vi p1]) (rest := []) mv_X12_laysFromNow lk_X12_369 dX12_when_28 rfl rfl sh_130 (Nat.le_of_ble_eq_true rfl) (by decide) ⟨rfl, rfl⟩ (rX12_laysFromNow hq4) <| At.iconst dX12_when_31 (by decide) <| At.istoren (ls' := [(3, vi 0), (0, vr 130), (1, vi p1), (2, vi p2)]) dX12_when_32 (by decide) rfl <| At.iconst dX12_when_33 (by decide) <| At.istore (ls' := [(4, vi 0), (3, vi 0), (0, vr 130), (1, vi p1), (2, vi p2)]) dX12_when_34 (by decide) rfl <| ?_
      obtain ⟨q5, ho6, h⟩ := bnd_e h
      refine At.sub [2, 4, 1, 0] rfl (lX12_when_L36 FU _ _ q5 ho6 ?_)
      refine At.iloadn dX12_when_78 rfl <| ?_
      obtain rfl := Option.some.inj h
      exact At.iret rfl (Nat.zero_le _) (Nat.zero_le _) ⟨rfl, rfl⟩ dX12_when_79
    · refine At.cV1 (av := [vl p2]) (rest := []) mv_X12_isCorner lk_X12_268 dX12_when_17 rfl rfl sh_130 (Nat.le_of_ble_eq_true rfl) (by decide) ⟨rfl, rfl⟩ (rX12_isCorner hq3) <| At.bifne_f (tgt := 26) dX12_when_20 (by decide) c7 <| ?_
      refine At.bipush dX12_when_23 (by decide) <| ?_
      obtain rfl := Option.some.inj h
      exact At.iret rfl (Nat.zero_le _) (Nat.zero_le _) ⟨rfl, rfl⟩ dX12_when_25
  · refine At.cV1 (av := [vl p1]) (rest := []) mv_X12_isGoer lk_X12_233 dX12_when_8 rfl rfl sh_130 (Nat.le_of_ble_eq_true rfl) (by decide) ⟨rfl, rfl⟩ (rX12_isGoer hq2) <| At.bifeq_t (tgt := 23) dX12_when_11 (by decide) c8 <| ?_
    refine At.bipush dX12_when_23 (by decide) <| ?_
    obtain rfl := Option.some.inj h
    exact At.iret rfl (Nat.zero_le _) (Nat.zero_le _) ⟨rfl, rfl⟩ dX12_when_25
def fX12_bound_L45 (l2 : Int) (S : SS) : Nat → Int → Int → Option (Int)
  | 0, _, _ => none
  | n + 1, l3, l4 =>
    Option.bind (fX12_stands  S) fun q1 =>
    if q1 ≤ l4 then (
      some l3
    ) else (
      rdA S 140 120 l4 fun v2 =>
      Option.bind (
        if v2 = 268435456 then (
          some l3
        ) else (
          lt (Int.tmod l4 20) fun x5 =>
          if l2 = 0 then (
            if l3 ≤ x5 then (
              some l3
            ) else (
              some x5
            )
          ) else (
            if x5 ≤ l3 then (
              some l3
            ) else (
              some x5
            )
          )
        )
        : Option (Int)) fun q4 =>
      lt (w32 (l4 + 1)) fun x10 =>
      fX12_bound_L45 l2 S n q4 x10
    )
def fX12_bound (p1 : Int) (p2 : Int) (S : SS) : Option (Int × SS) :=
  lt (up S 130 0 0) fun S1 =>
  Option.bind (fX12_isGoer p1 S1) fun q2 =>
  if q2 = true then (
    Option.bind (fX12_within p2 0 1) fun q3 =>
    if q3 = true then (
      Option.bind (fX12_laysFromNow p1 S1) fun q4 =>
      rdA q4 131 3303 (w32 (37 + p1)) fun v5 =>
      Option.bind (fX12_bound_L45 p2 q4 FU v5 0) fun q7 =>
      some (q7, q4)
    ) else (
      some ((-2), S1)
    )
  ) else (
    some ((-2), S1)
  )
set_option maxRecDepth 100000 in
set_option maxHeartbeats 4000000 in
theorem lX12_bound_L45 {G : GG} {Φ : Option VV → MM → Prop} {l2 : Int} {S : SS} : ∀ (n : Nat) (l3 : Int) (l4 : Int) (q : Int), fX12_bound_L45 l2 S n l3 l4 = some q → At G mX12_bound 7 105 [(3, vi q)] [] (mm S) 0 0 Φ → At G mX12_bound 7 45 [(0, vr 130), (2, vi l2), (3, vi l3), (4, vi l4)] [] (mm S) 0 0 Φ := by
  intro n
  induction n with
  | zero =>
    intro _ _ _ h
    cases h
  | succ n ih =>
    intro l3 l4 q h K105
    unfold fX12_bound_L45 at h
    refine At.iload dX12_bound_45 rfl <| At.aloadn dX12_bound_47 rfl <| ?_
    obtain ⟨q1, hq1, h⟩ := bnd_e h
    rcases ite_e h with ⟨c11, h⟩ | ⟨c11, h⟩
    · refine At.cV1 (av := []) (rest := [vi l4]) mv_X12_stands lk_X12_329 dX12_bound_48 rfl rfl sh_130 (Nat.le_of_ble_eq_true rfl) (by decide) ⟨rfl, rfl⟩ (rX12_stands hq1) <| At.icmp_ge_t (tgt := 105) dX12_bound_51 (by decide) c11 <| ?_
      obtain rfl := Option.some.inj h
      exact At.sub [2] rfl K105
    · refine At.cV1 (av := []) (rest := [vi l4]) mv_X12_stands lk_X12_329 dX12_bound_48 rfl rfl sh_130 (Nat.le_of_ble_eq_true rfl) (by decide) ⟨rfl, rfl⟩ (rX12_stands hq1) <| At.icmp_ge_f (tgt := 105) dX12_bound_51 (by decide) c11 <| ?_
      refine At.aloadn dX12_bound_54 rfl <| At.getR fl_X12_45 sh_130 (le149 sh_130) rf_130_23 dX12_bound_55 <| At.iload dX12_bound_58 rfl <| ?_
      obtain ⟨v2, hv2, g3, h⟩ := rdA_e h
      obtain ⟨q4, hj99, h⟩ := bnd_e h
      have K99 : At G mX12_bound 7 99 [(0, vr 130), (2, vi l2), (3, vi q4), (4, vi l4)] [] (mm S) 0 0 Φ := by
        obtain ⟨x10, hx10, h⟩ := lt_e h
        refine At.iinc (ls' := [(4, vi x10), (0, vr 130), (2, vi l2), (3, vi q4)]) dX12_bound_99 rfl (by decide) (by rw [hx10]; rfl) <| At.goto (tgt := 45) dX12_bound_102 (by decide) <| ?_
        exact At.sub [1, 2, 3, 0] rfl (ih _ _ _ h K105)
      clear h; have h := hj99; clear hj99
      rcases ite_e h with ⟨c9, h⟩ | ⟨c9, h⟩
      · refine At.iald sh_140 (le149 sh_140) g3.1 g3.2 dX12_bound_60 <| At.nm hv2 <| At.ldcw dX12_bound_61 ki_X12_328 (by decide) <| At.icmp_ne_f (tgt := 70) dX12_bound_64 (by decide) c9 <| ?_
        refine At.goto (tgt := 99) dX12_bound_67 (by decide) <| ?_
        obtain rfl := Option.some.inj h
        exact At.sub [0, 1, 2, 3] rfl K99
      · refine At.iald sh_140 (le149 sh_140) g3.1 g3.2 dX12_bound_60 <| At.nm hv2 <| At.ldcw dX12_bound_61 ki_X12_328 (by decide) <| At.icmp_ne_t (tgt := 70) dX12_bound_64 (by decide) c9 <| ?_
        refine At.iload dX12_bound_70 rfl <| At.bipush dX12_bound_72 (by decide) <| At.irem dX12_bound_74 (by decide) <| ?_
        obtain ⟨x5, hx5, h⟩ := lt_e h
        rcases ite_e h with ⟨c8, h⟩ | ⟨c8, h⟩
        · refine At.nm hx5 <| At.istore (ls' := [(5, vi x5), (0, vr 130), (2, vi l2), (3, vi l3), (4, vi l4)]) dX12_bound_75 (by decide) rfl <| At.iloadn dX12_bound_77 rfl <| At.if_ne_f (tgt := 90) dX12_bound_78 (by decide) c8 <| ?_
          rcases ite_e h with ⟨c6, h⟩ | ⟨c6, h⟩
          · refine At.iload dX12_bound_81 rfl <| At.iloadn dX12_bound_83 rfl <| At.icmp_ge_t (tgt := 99) dX12_bound_84 (by decide) c6 <| ?_
            obtain rfl := Option.some.inj h
            exact At.sub [1, 2, 3, 4] rfl K99
          · refine At.iload dX12_bound_81 rfl <| At.iloadn dX12_bound_83 rfl <| At.icmp_ge_f (tgt := 99) dX12_bound_84 (by decide) c6 <| ?_
            refine At.goto (tgt := 96) dX12_bound_87 (by decide) <| ?_
            refine At.iload dX12_bound_96 rfl <| At.istoren (ls' := [(3, vi x5), (5, vi x5), (0, vr 130), (2, vi l2), (4, vi l4)]) dX12_bound_98 (by decide) rfl <| ?_
            obtain rfl := Option.some.inj h
            exact At.sub [2, 3, 0, 4] rfl K99
        · refine At.nm hx5 <| At.istore (ls' := [(5, vi x5), (0, vr 130), (2, vi l2), (3, vi l3), (4, vi l4)]) dX12_bound_75 (by decide) rfl <| At.iloadn dX12_bound_77 rfl <| At.if_ne_t (tgt := 90) dX12_bound_78 (by decide) c8 <| ?_
          rcases ite_e h with ⟨c7, h⟩ | ⟨c7, h⟩
          · refine At.iload dX12_bound_90 rfl <| At.iloadn dX12_bound_92 rfl <| At.icmp_le_t (tgt := 99) dX12_bound_93 (by decide) c7 <| ?_
            obtain rfl := Option.some.inj h
            exact At.sub [1, 2, 3, 4] rfl K99
          · refine At.iload dX12_bound_90 rfl <| At.iloadn dX12_bound_92 rfl <| At.icmp_le_f (tgt := 99) dX12_bound_93 (by decide) c7 <| ?_
            refine At.iload dX12_bound_96 rfl <| At.istoren (ls' := [(3, vi x5), (5, vi x5), (0, vr 130), (2, vi l2), (4, vi l4)]) dX12_bound_98 (by decide) rfl <| ?_
            obtain rfl := Option.some.inj h
            exact At.sub [2, 3, 0, 4] rfl K99
set_option maxRecDepth 100000 in
set_option maxHeartbeats 4000000 in
theorem rX12_bound {G : GG} {p1 : Int} {p2 : Int} {S : SS} {rr : (Int × SS)} (h : fX12_bound p1 p2 S = some rr) : RD G mX12_bound 7 [vr 130, vi p1, vi p2] S (some (vi rr.1)) rr.2 := by
  unfold fX12_bound at h
  refine Runs.of pl_X12 (Nat.le_of_ble_eq_true rfl) ?_
  show At G mX12_bound 7 0 [(0, vr 130), (1, vi p1), (2, vi p2)] [] (mm S) 0 0 (EQ (some (vi rr.1)) rr.2)
  refine At.aloadn dX12_bound_0 rfl <| At.iconst dX12_bound_1 (by decide) <| ?_
  obtain ⟨S1, hS1, h⟩ := lt_e h
  refine At.putI fw_X12_1 sh_130 (le149 sh_130) dX12_bound_2 <| At.nmS hS1 <| At.aloadn dX12_bound_5 rfl <| At.iloadn dX12_bound_6 rfl <| At.i2l dX12_bound_7 <| ?_
  obtain ⟨q2, hq2, h⟩ := bnd_e h
  rcases ite_e h with ⟨c10, h⟩ | ⟨c10, h⟩
  · refine At.cV1 (av := [vl p1]) (rest := []) mv_X12_isGoer lk_X12_233 dX12_bound_8 rfl rfl sh_130 (Nat.le_of_ble_eq_true rfl) (by decide) ⟨rfl, rfl⟩ (rX12_isGoer hq2) <| At.bifeq_f (tgt := 24) dX12_bound_11 (by decide) c10 <| ?_
    refine At.iloadn dX12_bound_14 rfl <| At.i2l dX12_bound_15 <| At.lconst0 dX12_bound_16 <| At.lconst1 dX12_bound_17 <| ?_
    obtain ⟨q3, hq3, h⟩ := bnd_e h
    rcases ite_e h with ⟨c9, h⟩ | ⟨c9, h⟩
    · refine At.cS1 (av := [vl p2, vl 0, vl 1]) (rest := []) ms_X12_within lk_X12_142 dX12_bound_18 rfl rfl (Nat.le_of_ble_eq_true rfl) (by decide) ⟨rfl, rfl⟩ (rX12_within hq3) <| At.bifne_t (tgt := 27) dX12_bound_21 (by decide) c9 <| ?_
      refine At.aloadn dX12_bound_27 rfl <| At.iloadn dX12_bound_28 rfl <| ?_
      obtain ⟨q4, hq4, h⟩ := bnd_e h
      refine At.cV0 (av := [vi p1]) (rest := []) mv_X12_laysFromNow lk_X12_369 dX12_bound_29 rfl rfl sh_130 (Nat.le_of_ble_eq_true rfl) (by decide) ⟨rfl, rfl⟩ (rX12_laysFromNow hq4) <| At.aloadn dX12_bound_32 rfl <| At.getR fl_X12_13 sh_130 (le149 sh_130) rf_130_1 dX12_bound_33 <| At.bipush dX12_bound_36 (by decide) <| At.iloadn dX12_bound_38 rfl <| At.iadd dX12_bound_39 <| ?_
      obtain ⟨v5, hv5, g6, h⟩ := rdA_e h
      refine At.iald sh_131 (le149 sh_131) g6.1 g6.2 dX12_bound_40 <| At.nm hv5 <| At.istoren (ls' := [(3, vi v5), (0, vr 130), (1, vi p1), (2, vi p2)]) dX12_bound_41 (by decide) rfl <| At.iconst dX12_bound_42 (by decide) <| At.istore (ls' := [(4, vi 0), (3, vi v5), (0, vr 130), (1, vi p1), (2, vi p2)]) dX12_bound_43 (by decide) rfl <| ?_
      obtain ⟨q7, ho8, h⟩ := bnd_e h
      refine At.sub [2, 4, 1, 0] rfl (lX12_bound_L45 FU _ _ q7 ho8 ?_)
      refine At.iloadn dX12_bound_105 rfl <| ?_
      obtain rfl := Option.some.inj h
      exact At.iret rfl (Nat.zero_le _) (Nat.zero_le _) ⟨rfl, rfl⟩ dX12_bound_106
    · refine At.cS1 (av := [vl p2, vl 0, vl 1]) (rest := []) ms_X12_within lk_X12_142 dX12_bound_18 rfl rfl (Nat.le_of_ble_eq_true rfl) (by decide) ⟨rfl, rfl⟩ (rX12_within hq3) <| At.bifne_f (tgt := 27) dX12_bound_21 (by decide) c9 <| ?_
      refine At.bipush dX12_bound_24 (by decide) <| ?_
      obtain rfl := Option.some.inj h
      exact At.iret rfl (Nat.zero_le _) (Nat.zero_le _) ⟨rfl, rfl⟩ dX12_bound_26
  · refine At.cV1 (av := [vl p1]) (rest := []) mv_X12_isGoer lk_X12_233 dX12_bound_8 rfl rfl sh_130 (Nat.le_of_ble_eq_true rfl) (by decide) ⟨rfl, rfl⟩ (rX12_isGoer hq2) <| At.bifeq_t (tgt := 24) dX12_bound_11 (by decide) c10 <| ?_
    refine At.bipush dX12_bound_24 (by decide) <| ?_
    obtain rfl := Option.some.inj h
    exact At.iret rfl (Nat.zero_le _) (Nat.zero_le _) ⟨rfl, rfl⟩ dX12_bound_26
def fX12_cornersGone_L4 (S : SS) : Nat → Int → Int → Option (Int)
  | 0, _, _ => none
  | n + 1, l1, l2 =>
    Option.bind (fX12_stands  S) fun q1 =>
    if q1 ≤ l2 then (
      some l1
    ) else (
      rdA S 140 120 l2 fun v2 =>
      Option.bind (
        if 268435456 ≤ v2 then (
          some 0
        ) else (
          some (jshl 1 (w32 (Int.tdiv l2 20)))
        )
        : Option (Int)) fun q4 =>
      lt (jor l1 q4) fun x6 =>
      lt (w32 (l2 + 1)) fun x7 =>
      fX12_cornersGone_L4 S n x6 x7
    )
def fX12_cornersGone (S : SS) : Option Int :=
  Option.bind (fX12_cornersGone_L4 S FU 0 0) fun q1 =>
  some q1
set_option maxRecDepth 100000 in
set_option maxHeartbeats 4000000 in
theorem lX12_cornersGone_L4 {G : GG} {Φ : Option VV → MM → Prop} {S : SS} : ∀ (n : Nat) (l1 : Int) (l2 : Int) (q : Int), fX12_cornersGone_L4 S n l1 l2 = some q → At G mX12_cornersGone 2 43 [(1, vi q)] [] (mm S) 0 0 Φ → At G mX12_cornersGone 2 4 [(0, vr 130), (1, vi l1), (2, vi l2)] [] (mm S) 0 0 Φ := by
  intro n
  induction n with
  | zero =>
    intro _ _ _ h
    cases h
  | succ n ih =>
    intro l1 l2 q h K43
    unfold fX12_cornersGone_L4 at h
    refine At.iloadn dX12_cornersGone_4 rfl <| At.aloadn dX12_cornersGone_5 rfl <| ?_
    obtain ⟨q1, hq1, h⟩ := bnd_e h
    rcases ite_e h with ⟨c8, h⟩ | ⟨c8, h⟩
    · refine At.cV1 (av := []) (rest := [vi l2]) mv_X12_stands lk_X12_329 dX12_cornersGone_6 rfl rfl sh_130 (Nat.le_of_ble_eq_true rfl) (by decide) ⟨rfl, rfl⟩ (rX12_stands hq1) <| At.icmp_ge_t (tgt := 43) dX12_cornersGone_9 (by decide) c8 <| ?_
      obtain rfl := Option.some.inj h
      exact At.sub [1] rfl K43
    · refine At.cV1 (av := []) (rest := [vi l2]) mv_X12_stands lk_X12_329 dX12_cornersGone_6 rfl rfl sh_130 (Nat.le_of_ble_eq_true rfl) (by decide) ⟨rfl, rfl⟩ (rX12_stands hq1) <| At.icmp_ge_f (tgt := 43) dX12_cornersGone_9 (by decide) c8 <| ?_
      refine At.iloadn dX12_cornersGone_12 rfl <| At.aloadn dX12_cornersGone_13 rfl <| At.getR fl_X12_45 sh_130 (le149 sh_130) rf_130_23 dX12_cornersGone_14 <| At.iloadn dX12_cornersGone_17 rfl <| ?_
      obtain ⟨v2, hv2, g3, h⟩ := rdA_e h
      obtain ⟨q4, hj35, h⟩ := bnd_e h
      have K35 : At G mX12_cornersGone 2 35 [(0, vr 130), (2, vi l2)] [vi q4, vi l1] (mm S) 0 0 Φ := by
        refine At.ior dX12_cornersGone_35 <| ?_
        obtain ⟨x6, hx6, h⟩ := lt_e h
        refine At.nm hx6 <| At.istoren (ls' := [(1, vi x6), (0, vr 130), (2, vi l2)]) dX12_cornersGone_36 (by decide) rfl <| ?_
        obtain ⟨x7, hx7, h⟩ := lt_e h
        refine At.iinc (ls' := [(2, vi x7), (1, vi x6), (0, vr 130)]) dX12_cornersGone_37 rfl (by decide) (by rw [hx7]; rfl) <| At.goto (tgt := 4) dX12_cornersGone_40 (by decide) <| ?_
        exact At.sub [2, 1, 0] rfl (ih _ _ _ h K43)
      clear h; have h := hj35; clear hj35
      rcases ite_e h with ⟨c5, h⟩ | ⟨c5, h⟩
      · refine At.iald sh_140 (le149 sh_140) g3.1 g3.2 dX12_cornersGone_18 <| At.nm hv2 <| At.ldcw dX12_cornersGone_19 ki_X12_328 (by decide) <| At.icmp_ge_t (tgt := 34) dX12_cornersGone_22 (by decide) c5 <| ?_
        refine At.iconst dX12_cornersGone_34 (by decide) <| ?_
        obtain rfl := Option.some.inj h
        exact At.sub [0, 2] rfl K35
      · refine At.iald sh_140 (le149 sh_140) g3.1 g3.2 dX12_cornersGone_18 <| At.nm hv2 <| At.ldcw dX12_cornersGone_19 ki_X12_328 (by decide) <| At.icmp_ge_f (tgt := 34) dX12_cornersGone_22 (by decide) c5 <| ?_
        refine At.iconst dX12_cornersGone_25 (by decide) <| At.iloadn dX12_cornersGone_26 rfl <| At.bipush dX12_cornersGone_27 (by decide) <| At.idiv dX12_cornersGone_29 (by decide) <| At.ishl dX12_cornersGone_30 <| At.goto (tgt := 35) dX12_cornersGone_31 (by decide) <| ?_
        obtain rfl := Option.some.inj h
        exact At.sub [0, 2] rfl K35
set_option maxRecDepth 100000 in
set_option maxHeartbeats 4000000 in
theorem rX12_cornersGone {G : GG} {S : SS} {rr : Int} (h : fX12_cornersGone  S = some rr) : RD G mX12_cornersGone 2 [vr 130] S (some (vi rr)) S := by
  unfold fX12_cornersGone at h
  refine Runs.of pl_X12 (Nat.le_of_ble_eq_true rfl) ?_
  show At G mX12_cornersGone 2 0 [(0, vr 130)] [] (mm S) 0 0 (EQ (some (vi rr)) S)
  refine At.iconst dX12_cornersGone_0 (by decide) <| At.istoren (ls' := [(1, vi 0), (0, vr 130)]) dX12_cornersGone_1 (by decide) rfl <| At.iconst dX12_cornersGone_2 (by decide) <| At.istoren (ls' := [(2, vi 0), (1, vi 0), (0, vr 130)]) dX12_cornersGone_3 (by decide) rfl <| ?_
  obtain ⟨q1, ho2, h⟩ := bnd_e h
  refine At.sub [2, 1, 0] rfl (lX12_cornersGone_L4 FU _ _ q1 ho2 ?_)
  refine At.iloadn dX12_cornersGone_43 rfl <| ?_
  obtain rfl := Option.some.inj h
  exact At.iret rfl (Nat.zero_le _) (Nat.zero_le _) ⟨rfl, rfl⟩ dX12_cornersGone_44
def fX12_reach (p1 : Int) (S : SS) : Option (Int × SS) :=
  lt (up S 130 0 0) fun S1 =>
  Option.bind (fX12_isGoer p1 S1) fun q2 =>
  if q2 = true then (
    Option.bind (fX12_laysFromNow p1 S1) fun q3 =>
    Option.bind (fX12_cornersGone  q3) fun q4 =>
    some (q4, q3)
  ) else (
    some ((-2), S1)
  )
set_option maxRecDepth 100000 in
set_option maxHeartbeats 4000000 in
theorem rX12_reach {G : GG} {p1 : Int} {S : SS} {rr : (Int × SS)} (h : fX12_reach p1 S = some rr) : RD G mX12_reach 7 [vr 130, vi p1] S (some (vi rr.1)) rr.2 := by
  unfold fX12_reach at h
  refine Runs.of pl_X12 (Nat.le_of_ble_eq_true rfl) ?_
  show At G mX12_reach 7 0 [(0, vr 130), (1, vi p1)] [] (mm S) 0 0 (EQ (some (vi rr.1)) rr.2)
  refine At.aloadn dX12_reach_0 rfl <| At.iconst dX12_reach_1 (by decide) <| ?_
  obtain ⟨S1, hS1, h⟩ := lt_e h
  refine At.putI fw_X12_1 sh_130 (le149 sh_130) dX12_reach_2 <| At.nmS hS1 <| At.aloadn dX12_reach_5 rfl <| At.iloadn dX12_reach_6 rfl <| At.i2l dX12_reach_7 <| ?_
  obtain ⟨q2, hq2, h⟩ := bnd_e h
  rcases ite_e h with ⟨c5, h⟩ | ⟨c5, h⟩
  · refine At.cV1 (av := [vl p1]) (rest := []) mv_X12_isGoer lk_X12_233 dX12_reach_8 rfl rfl sh_130 (Nat.le_of_ble_eq_true rfl) (by decide) ⟨rfl, rfl⟩ (rX12_isGoer hq2) <| At.bifne_t (tgt := 17) dX12_reach_11 (by decide) c5 <| ?_
    refine At.aloadn dX12_reach_17 rfl <| At.iloadn dX12_reach_18 rfl <| ?_
    obtain ⟨q3, hq3, h⟩ := bnd_e h
    refine At.cV0 (av := [vi p1]) (rest := []) mv_X12_laysFromNow lk_X12_369 dX12_reach_19 rfl rfl sh_130 (Nat.le_of_ble_eq_true rfl) (by decide) ⟨rfl, rfl⟩ (rX12_laysFromNow hq3) <| At.aloadn dX12_reach_22 rfl <| ?_
    obtain ⟨q4, hq4, h⟩ := bnd_e h
    refine At.cV1 (av := []) (rest := []) mv_X12_cornersGone lk_X12_372 dX12_reach_23 rfl rfl sh_130 (Nat.le_of_ble_eq_true rfl) (by decide) ⟨rfl, rfl⟩ (rX12_cornersGone hq4) <| ?_
    obtain rfl := Option.some.inj h
    exact At.iret rfl (Nat.zero_le _) (Nat.zero_le _) ⟨rfl, rfl⟩ dX12_reach_26
  · refine At.cV1 (av := [vl p1]) (rest := []) mv_X12_isGoer lk_X12_233 dX12_reach_8 rfl rfl sh_130 (Nat.le_of_ble_eq_true rfl) (by decide) ⟨rfl, rfl⟩ (rX12_isGoer hq2) <| At.bifne_f (tgt := 17) dX12_reach_11 (by decide) c5 <| ?_
    refine At.bipush dX12_reach_14 (by decide) <| ?_
    obtain rfl := Option.some.inj h
    exact At.iret rfl (Nat.zero_le _) (Nat.zero_le _) ⟨rfl, rfl⟩ dX12_reach_16
def fX12_meetsAt_L29 (S : SS) : Nat → Int → Int → Option (Int)
  | 0, _, _ => none
  | n + 1, l3, l4 =>
    Option.bind (fX12_stands  S) fun q1 =>
    if q1 ≤ l4 then (
      some l3
    ) else (
      rdA S 140 120 l4 fun v2 =>
      Option.bind (
        if v2 = 268435456 then (
          some l3
        ) else (
          rdA S 141 120 l4 fun v5 =>
          if v5 = 268435456 then (
            some l3
          ) else (
            if l3 = ((-1)) then (
              some l4
            ) else (
              rdA S 140 120 l4 fun v7 =>
              rdA S 141 120 l4 fun v9 =>
              rdA S 140 120 l3 fun v11 =>
              rdA S 141 120 l3 fun v13 =>
              if (w32 (v11 + v13)) ≤ (w32 (v7 + v9)) then (
                some l3
              ) else (
                some l4
              )
            )
          )
        )
        : Option (Int)) fun q4 =>
      lt (w32 (l4 + 1)) fun x19 =>
      fX12_meetsAt_L29 S n q4 x19
    )
def fX12_meetsAt (p1 : Int) (p2 : Int) (S : SS) : Option (Int × SS) :=
  Option.bind (fX12_laysThen p2 0 S) fun q1 =>
  Option.bind (fX12_standOf p2 q1) fun q2 =>
  Option.bind (fX12_laysGone_120 q2 141 q1) fun q3 =>
  Option.bind (fX12_laysFromNow p1 q3) fun q4 =>
  lt ((-1)) fun x5 =>
  Option.bind (fX12_meetsAt_L29 q4 FU x5 0) fun q6 =>
  some (q6, q4)
set_option maxRecDepth 100000 in
set_option maxHeartbeats 4000000 in
theorem lX12_meetsAt_L29 {G : GG} {Φ : Option VV → MM → Prop} {S : SS} : ∀ (n : Nat) (l3 : Int) (l4 : Int) (q : Int), fX12_meetsAt_L29 S n l3 l4 = some q → At G mX12_meetsAt 7 112 [(3, vi q)] [] (mm S) 0 0 Φ → At G mX12_meetsAt 7 29 [(0, vr 130), (3, vi l3), (4, vi l4)] [] (mm S) 0 0 Φ := by
  intro n
  induction n with
  | zero =>
    intro _ _ _ h
    cases h
  | succ n ih =>
    intro l3 l4 q h K112
    unfold fX12_meetsAt_L29 at h
    refine At.iload dX12_meetsAt_29 rfl <| At.aloadn dX12_meetsAt_31 rfl <| ?_
    obtain ⟨q1, hq1, h⟩ := bnd_e h
    rcases ite_e h with ⟨c20, h⟩ | ⟨c20, h⟩
    · refine At.cV1 (av := []) (rest := [vi l4]) mv_X12_stands lk_X12_329 dX12_meetsAt_32 rfl rfl sh_130 (Nat.le_of_ble_eq_true rfl) (by decide) ⟨rfl, rfl⟩ (rX12_stands hq1) <| At.icmp_ge_t (tgt := 112) dX12_meetsAt_35 (by decide) c20 <| ?_
      obtain rfl := Option.some.inj h
      exact At.sub [1] rfl K112
    · refine At.cV1 (av := []) (rest := [vi l4]) mv_X12_stands lk_X12_329 dX12_meetsAt_32 rfl rfl sh_130 (Nat.le_of_ble_eq_true rfl) (by decide) ⟨rfl, rfl⟩ (rX12_stands hq1) <| At.icmp_ge_f (tgt := 112) dX12_meetsAt_35 (by decide) c20 <| ?_
      refine At.aloadn dX12_meetsAt_38 rfl <| At.getR fl_X12_45 sh_130 (le149 sh_130) rf_130_23 dX12_meetsAt_39 <| At.iload dX12_meetsAt_42 rfl <| ?_
      obtain ⟨v2, hv2, g3, h⟩ := rdA_e h
      obtain ⟨q4, hj106, h⟩ := bnd_e h
      have K106 : At G mX12_meetsAt 7 106 [(0, vr 130), (3, vi q4), (4, vi l4)] [] (mm S) 0 0 Φ := by
        obtain ⟨x19, hx19, h⟩ := lt_e h
        refine At.iinc (ls' := [(4, vi x19), (0, vr 130), (3, vi q4)]) dX12_meetsAt_106 rfl (by decide) (by rw [hx19]; rfl) <| At.goto (tgt := 29) dX12_meetsAt_109 (by decide) <| ?_
        exact At.sub [1, 2, 0] rfl (ih _ _ _ h K112)
      clear h; have h := hj106; clear hj106
      rcases ite_e h with ⟨c18, h⟩ | ⟨c18, h⟩
      · refine At.iald sh_140 (le149 sh_140) g3.1 g3.2 dX12_meetsAt_44 <| At.nm hv2 <| At.ldcw dX12_meetsAt_45 ki_X12_328 (by decide) <| At.icmp_eq_t (tgt := 106) dX12_meetsAt_48 (by decide) c18 <| ?_
        obtain rfl := Option.some.inj h
        exact At.sub [0, 1, 2] rfl K106
      · refine At.iald sh_140 (le149 sh_140) g3.1 g3.2 dX12_meetsAt_44 <| At.nm hv2 <| At.ldcw dX12_meetsAt_45 ki_X12_328 (by decide) <| At.icmp_eq_f (tgt := 106) dX12_meetsAt_48 (by decide) c18 <| ?_
        refine At.aloadn dX12_meetsAt_51 rfl <| At.getR fl_X12_48 sh_130 (le149 sh_130) rf_130_24 dX12_meetsAt_52 <| At.iload dX12_meetsAt_55 rfl <| ?_
        obtain ⟨v5, hv5, g6, h⟩ := rdA_e h
        rcases ite_e h with ⟨c17, h⟩ | ⟨c17, h⟩
        · refine At.iald sh_141 (le149 sh_141) g6.1 g6.2 dX12_meetsAt_57 <| At.nm hv5 <| At.ldcw dX12_meetsAt_58 ki_X12_328 (by decide) <| At.icmp_ne_f (tgt := 67) dX12_meetsAt_61 (by decide) c17 <| ?_
          refine At.goto (tgt := 106) dX12_meetsAt_64 (by decide) <| ?_
          obtain rfl := Option.some.inj h
          exact At.sub [0, 1, 2] rfl K106
        · refine At.iald sh_141 (le149 sh_141) g6.1 g6.2 dX12_meetsAt_57 <| At.nm hv5 <| At.ldcw dX12_meetsAt_58 ki_X12_328 (by decide) <| At.icmp_ne_t (tgt := 67) dX12_meetsAt_61 (by decide) c17 <| ?_
          rcases ite_e h with ⟨c16, h⟩ | ⟨c16, h⟩
          · refine At.iloadn dX12_meetsAt_67 rfl <| At.iconst dX12_meetsAt_68 (by decide) <| At.icmp_eq_t (tgt := 103) dX12_meetsAt_69 (by decide) c16 <| ?_
            refine At.iload dX12_meetsAt_103 rfl <| At.istoren (ls' := [(3, vi l4), (0, vr 130), (4, vi l4)]) dX12_meetsAt_105 (by decide) rfl <| ?_
            obtain rfl := Option.some.inj h
            exact At.sub [1, 0, 2] rfl K106
          · refine At.iloadn dX12_meetsAt_67 rfl <| At.iconst dX12_meetsAt_68 (by decide) <| At.icmp_eq_f (tgt := 103) dX12_meetsAt_69 (by decide) c16 <| ?_
            refine At.aloadn dX12_meetsAt_72 rfl <| At.getR fl_X12_45 sh_130 (le149 sh_130) rf_130_23 dX12_meetsAt_73 <| At.iload dX12_meetsAt_76 rfl <| ?_
            obtain ⟨v7, hv7, g8, h⟩ := rdA_e h
            refine At.iald sh_140 (le149 sh_140) g8.1 g8.2 dX12_meetsAt_78 <| At.nm hv7 <| At.aloadn dX12_meetsAt_79 rfl <| At.getR fl_X12_48 sh_130 (le149 sh_130) rf_130_24 dX12_meetsAt_80 <| At.iload dX12_meetsAt_83 rfl <| ?_
            obtain ⟨v9, hv9, g10, h⟩ := rdA_e h
            refine At.iald sh_141 (le149 sh_141) g10.1 g10.2 dX12_meetsAt_85 <| At.nm hv9 <| At.iadd dX12_meetsAt_86 <| At.aloadn dX12_meetsAt_87 rfl <| At.getR fl_X12_45 sh_130 (le149 sh_130) rf_130_23 dX12_meetsAt_88 <| At.iloadn dX12_meetsAt_91 rfl <| ?_
            obtain ⟨v11, hv11, g12, h⟩ := rdA_e h
            refine At.iald sh_140 (le149 sh_140) g12.1 g12.2 dX12_meetsAt_92 <| At.nm hv11 <| At.aloadn dX12_meetsAt_93 rfl <| At.getR fl_X12_48 sh_130 (le149 sh_130) rf_130_24 dX12_meetsAt_94 <| At.iloadn dX12_meetsAt_97 rfl <| ?_
            obtain ⟨v13, hv13, g14, h⟩ := rdA_e h
            rcases ite_e h with ⟨c15, h⟩ | ⟨c15, h⟩
            · refine At.iald sh_141 (le149 sh_141) g14.1 g14.2 dX12_meetsAt_98 <| At.nm hv13 <| At.iadd dX12_meetsAt_99 <| At.icmp_ge_t (tgt := 106) dX12_meetsAt_100 (by decide) c15 <| ?_
              obtain rfl := Option.some.inj h
              exact At.sub [0, 1, 2] rfl K106
            · refine At.iald sh_141 (le149 sh_141) g14.1 g14.2 dX12_meetsAt_98 <| At.nm hv13 <| At.iadd dX12_meetsAt_99 <| At.icmp_ge_f (tgt := 106) dX12_meetsAt_100 (by decide) c15 <| ?_
              refine At.iload dX12_meetsAt_103 rfl <| At.istoren (ls' := [(3, vi l4), (0, vr 130), (4, vi l4)]) dX12_meetsAt_105 (by decide) rfl <| ?_
              obtain rfl := Option.some.inj h
              exact At.sub [1, 0, 2] rfl K106
set_option maxRecDepth 100000 in
set_option maxHeartbeats 4000000 in
theorem rX12_meetsAt {G : GG} {p1 : Int} {p2 : Int} {S : SS} {rr : (Int × SS)} (h : fX12_meetsAt p1 p2 S = some rr) : RD G mX12_meetsAt 7 [vr 130, vi p1, vi p2] S (some (vi rr.1)) rr.2 := by
  unfold fX12_meetsAt at h
  refine Runs.of pl_X12 (Nat.le_of_ble_eq_true rfl) ?_
  show At G mX12_meetsAt 7 0 [(0, vr 130), (1, vi p1), (2, vi p2)] [] (mm S) 0 0 (EQ (some (vi rr.1)) rr.2)
  refine At.aloadn dX12_meetsAt_0 rfl <| At.iloadn dX12_meetsAt_1 rfl <| At.iconst dX12_meetsAt_2 (by decide) <| ?_
  obtain ⟨q1, hq1, h⟩ := bnd_e h
  refine At.cV0 (av := [vi p2, vi 0]) (rest := []) mv_X12_laysThen lk_X12_332 dX12_meetsAt_3 rfl rfl sh_130 (Nat.le_of_ble_eq_true rfl) (by decide) ⟨rfl, rfl⟩ (rX12_laysThen hq1) <| At.aloadn dX12_meetsAt_6 rfl <| At.aloadn dX12_meetsAt_7 rfl <| At.iloadn dX12_meetsAt_8 rfl <| ?_
  obtain ⟨q2, hq2, h⟩ := bnd_e h
  refine At.cV1 (av := [vi p2]) (rest := [vr 130]) mv_X12_standOf lk_X12_239 dX12_meetsAt_9 rfl rfl sh_130 (Nat.le_of_ble_eq_true rfl) (by decide) ⟨rfl, rfl⟩ (rX12_standOf hq2) <| At.aloadn dX12_meetsAt_12 rfl <| At.getR fl_X12_48 sh_130 (le149 sh_130) rf_130_24 dX12_meetsAt_13 <| ?_
  obtain ⟨q3, hq3, h⟩ := bnd_e h
  refine At.cV0 (av := [vi q2, vr 141]) (rest := []) mv_X12_laysGone lk_X12_365 dX12_meetsAt_16 rfl rfl sh_130 (Nat.le_of_ble_eq_true rfl) (by decide) ⟨rfl, rfl⟩ (rX12_laysGone_120 sh_141 hq3) <| At.aloadn dX12_meetsAt_19 rfl <| At.iloadn dX12_meetsAt_20 rfl <| ?_
  obtain ⟨q4, hq4, h⟩ := bnd_e h
  refine At.cV0 (av := [vi p1]) (rest := []) mv_X12_laysFromNow lk_X12_369 dX12_meetsAt_21 rfl rfl sh_130 (Nat.le_of_ble_eq_true rfl) (by decide) ⟨rfl, rfl⟩ (rX12_laysFromNow hq4) <| At.iconst dX12_meetsAt_24 (by decide) <| ?_
  obtain ⟨x5, hx5, h⟩ := lt_e h
  refine At.nm hx5 <| At.istoren (ls' := [(3, vi x5), (0, vr 130), (1, vi p1), (2, vi p2)]) dX12_meetsAt_25 (by decide) rfl <| At.iconst dX12_meetsAt_26 (by decide) <| At.istore (ls' := [(4, vi 0), (3, vi x5), (0, vr 130), (1, vi p1), (2, vi p2)]) dX12_meetsAt_27 (by decide) rfl <| ?_
  obtain ⟨q6, ho7, h⟩ := bnd_e h
  refine At.sub [2, 1, 0] rfl (lX12_meetsAt_L29 FU _ _ q6 ho7 ?_)
  refine At.iloadn dX12_meetsAt_112 rfl <| ?_
  obtain rfl := Option.some.inj h
  exact At.iret rfl (Nat.zero_le _) (Nat.zero_le _) ⟨rfl, rfl⟩ dX12_meetsAt_113
def fX12_areGoers (p1 : Int) (p2 : Int) (S : SS) : Option Bool :=
  Option.bind (fX12_isGoer p1 S) fun q1 =>
  if q1 = true then (
    Option.bind (fX12_isGoer p2 S) fun q2 =>
    if q2 = true then (
      if p1 = p2 then (
        some false
      ) else (
        some true
      )
    ) else (
      some false
    )
  ) else (
    some false
  )
set_option maxRecDepth 100000 in
set_option maxHeartbeats 4000000 in
theorem rX12_areGoers {G : GG} {p1 : Int} {p2 : Int} {S : SS} {rr : Bool} (h : fX12_areGoers p1 p2 S = some rr) : RD G mX12_areGoers 3 [vr 130, vi p1, vi p2] S (some (vi (bI rr))) S := by
  unfold fX12_areGoers at h
  refine Runs.of pl_X12 (Nat.le_of_ble_eq_true rfl) ?_
  show At G mX12_areGoers 3 0 [(0, vr 130), (1, vi p1), (2, vi p2)] [] (mm S) 0 0 (EQ (some (vi (bI rr))) S)
  refine At.aloadn dX12_areGoers_0 rfl <| At.iloadn dX12_areGoers_1 rfl <| At.i2l dX12_areGoers_2 <| ?_
  obtain ⟨q1, hq1, h⟩ := bnd_e h
  rcases ite_e h with ⟨c5, h⟩ | ⟨c5, h⟩
  · refine At.cV1 (av := [vl p1]) (rest := []) mv_X12_isGoer lk_X12_233 dX12_areGoers_3 rfl rfl sh_130 (Nat.le_of_ble_eq_true rfl) (by decide) ⟨rfl, rfl⟩ (rX12_isGoer hq1) <| At.bifeq_f (tgt := 27) dX12_areGoers_6 (by decide) c5 <| ?_
    refine At.aloadn dX12_areGoers_9 rfl <| At.iloadn dX12_areGoers_10 rfl <| At.i2l dX12_areGoers_11 <| ?_
    obtain ⟨q2, hq2, h⟩ := bnd_e h
    rcases ite_e h with ⟨c4, h⟩ | ⟨c4, h⟩
    · refine At.cV1 (av := [vl p2]) (rest := []) mv_X12_isGoer lk_X12_233 dX12_areGoers_12 rfl rfl sh_130 (Nat.le_of_ble_eq_true rfl) (by decide) ⟨rfl, rfl⟩ (rX12_isGoer hq2) <| At.bifeq_f (tgt := 27) dX12_areGoers_15 (by decide) c4 <| ?_
      rcases ite_e h with ⟨c3, h⟩ | ⟨c3, h⟩
      · refine At.iloadn dX12_areGoers_18 rfl <| At.iloadn dX12_areGoers_19 rfl <| At.icmp_eq_t (tgt := 27) dX12_areGoers_20 (by decide) c3 <| ?_
        refine At.iconst dX12_areGoers_27 (by decide) <| ?_
        obtain rfl := Option.some.inj h
        exact At.zret (b := false) rfl (Nat.zero_le _) (Nat.zero_le _) ⟨rfl, rfl⟩ dX12_areGoers_28
      · refine At.iloadn dX12_areGoers_18 rfl <| At.iloadn dX12_areGoers_19 rfl <| At.icmp_eq_f (tgt := 27) dX12_areGoers_20 (by decide) c3 <| ?_
        refine At.iconst dX12_areGoers_23 (by decide) <| At.goto (tgt := 28) dX12_areGoers_24 (by decide) <| ?_
        obtain rfl := Option.some.inj h
        exact At.zret (b := true) rfl (Nat.zero_le _) (Nat.zero_le _) ⟨rfl, rfl⟩ dX12_areGoers_28
    · refine At.cV1 (av := [vl p2]) (rest := []) mv_X12_isGoer lk_X12_233 dX12_areGoers_12 rfl rfl sh_130 (Nat.le_of_ble_eq_true rfl) (by decide) ⟨rfl, rfl⟩ (rX12_isGoer hq2) <| At.bifeq_t (tgt := 27) dX12_areGoers_15 (by decide) c4 <| ?_
      refine At.iconst dX12_areGoers_27 (by decide) <| ?_
      obtain rfl := Option.some.inj h
      exact At.zret (b := false) rfl (Nat.zero_le _) (Nat.zero_le _) ⟨rfl, rfl⟩ dX12_areGoers_28
  · refine At.cV1 (av := [vl p1]) (rest := []) mv_X12_isGoer lk_X12_233 dX12_areGoers_3 rfl rfl sh_130 (Nat.le_of_ble_eq_true rfl) (by decide) ⟨rfl, rfl⟩ (rX12_isGoer hq1) <| At.bifeq_t (tgt := 27) dX12_areGoers_6 (by decide) c5 <| ?_
    refine At.iconst dX12_areGoers_27 (by decide) <| ?_
    obtain rfl := Option.some.inj h
    exact At.zret (b := false) rfl (Nat.zero_le _) (Nat.zero_le _) ⟨rfl, rfl⟩ dX12_areGoers_28
def fX12_meet (p1 : Int) (p2 : Int) (S : SS) : Option (Int × SS) :=
  lt (up S 130 0 0) fun S1 =>
  Option.bind (fX12_areGoers p1 p2 S1) fun q2 =>
  if q2 = true then (
    Option.bind (fX12_meetsAt p1 p2 S1) fun q3 =>
    if q3.1 = ((-1)) then (
      some ((-1), q3.2)
    ) else (
      rdA q3.2 140 120 q3.1 fun v4 =>
      rdA q3.2 141 120 q3.1 fun v6 =>
      some (w32 (v4 + v6), q3.2)
    )
  ) else (
    some ((-2), S1)
  )
set_option maxRecDepth 100000 in
set_option maxHeartbeats 4000000 in
theorem rX12_meet {G : GG} {p1 : Int} {p2 : Int} {S : SS} {rr : (Int × SS)} (h : fX12_meet p1 p2 S = some rr) : RD G mX12_meet 8 [vr 130, vi p1, vi p2] S (some (vi rr.1)) rr.2 := by
  unfold fX12_meet at h
  refine Runs.of pl_X12 (Nat.le_of_ble_eq_true rfl) ?_
  show At G mX12_meet 8 0 [(0, vr 130), (1, vi p1), (2, vi p2)] [] (mm S) 0 0 (EQ (some (vi rr.1)) rr.2)
  refine At.aloadn dX12_meet_0 rfl <| At.iconst dX12_meet_1 (by decide) <| ?_
  obtain ⟨S1, hS1, h⟩ := lt_e h
  refine At.putI fw_X12_1 sh_130 (le149 sh_130) dX12_meet_2 <| At.nmS hS1 <| At.aloadn dX12_meet_5 rfl <| At.iloadn dX12_meet_6 rfl <| At.iloadn dX12_meet_7 rfl <| ?_
  obtain ⟨q2, hq2, h⟩ := bnd_e h
  rcases ite_e h with ⟨c9, h⟩ | ⟨c9, h⟩
  · refine At.cV1 (av := [vi p1, vi p2]) (rest := []) mv_X12_areGoers lk_X12_375 dX12_meet_8 rfl rfl sh_130 (Nat.le_of_ble_eq_true rfl) (by decide) ⟨rfl, rfl⟩ (rX12_areGoers hq2) <| At.bifne_t (tgt := 17) dX12_meet_11 (by decide) c9 <| ?_
    refine At.aloadn dX12_meet_17 rfl <| At.iloadn dX12_meet_18 rfl <| At.iloadn dX12_meet_19 rfl <| ?_
    obtain ⟨q3, hq3, h⟩ := bnd_e h
    rcases ite_e h with ⟨c8, h⟩ | ⟨c8, h⟩
    · refine At.cV1 (av := [vi p1, vi p2]) (rest := []) mv_X12_meetsAt lk_X12_378 dX12_meet_20 rfl rfl sh_130 (Nat.le_of_ble_eq_true rfl) (by decide) ⟨rfl, rfl⟩ (rX12_meetsAt hq3) <| At.istoren (ls' := [(3, vi q3.1), (0, vr 130), (1, vi p1), (2, vi p2)]) dX12_meet_23 (by decide) rfl <| At.iloadn dX12_meet_24 rfl <| At.iconst dX12_meet_25 (by decide) <| At.icmp_ne_f (tgt := 33) dX12_meet_26 (by decide) c8 <| ?_
      refine At.iconst dX12_meet_29 (by decide) <| At.goto (tgt := 46) dX12_meet_30 (by decide) <| ?_
      obtain rfl := Option.some.inj h
      exact At.iret rfl (Nat.zero_le _) (Nat.zero_le _) ⟨rfl, rfl⟩ dX12_meet_46
    · refine At.cV1 (av := [vi p1, vi p2]) (rest := []) mv_X12_meetsAt lk_X12_378 dX12_meet_20 rfl rfl sh_130 (Nat.le_of_ble_eq_true rfl) (by decide) ⟨rfl, rfl⟩ (rX12_meetsAt hq3) <| At.istoren (ls' := [(3, vi q3.1), (0, vr 130), (1, vi p1), (2, vi p2)]) dX12_meet_23 (by decide) rfl <| At.iloadn dX12_meet_24 rfl <| At.iconst dX12_meet_25 (by decide) <| At.icmp_ne_t (tgt := 33) dX12_meet_26 (by decide) c8 <| ?_
      refine At.aloadn dX12_meet_33 rfl <| At.getR fl_X12_45 sh_130 (le149 sh_130) rf_130_23 dX12_meet_34 <| At.iloadn dX12_meet_37 rfl <| ?_
      obtain ⟨v4, hv4, g5, h⟩ := rdA_e h
      refine At.iald sh_140 (le149 sh_140) g5.1 g5.2 dX12_meet_38 <| At.nm hv4 <| At.aloadn dX12_meet_39 rfl <| At.getR fl_X12_48 sh_130 (le149 sh_130) rf_130_24 dX12_meet_40 <| At.iloadn dX12_meet_43 rfl <| ?_
      obtain ⟨v6, hv6, g7, h⟩ := rdA_e h
      refine At.iald sh_141 (le149 sh_141) g7.1 g7.2 dX12_meet_44 <| At.nm hv6 <| At.iadd dX12_meet_45 <| ?_
      obtain rfl := Option.some.inj h
      exact At.iret rfl (Nat.zero_le _) (Nat.zero_le _) ⟨rfl, rfl⟩ dX12_meet_46
  · refine At.cV1 (av := [vi p1, vi p2]) (rest := []) mv_X12_areGoers lk_X12_375 dX12_meet_8 rfl rfl sh_130 (Nat.le_of_ble_eq_true rfl) (by decide) ⟨rfl, rfl⟩ (rX12_areGoers hq2) <| At.bifne_f (tgt := 17) dX12_meet_11 (by decide) c9 <| ?_
    refine At.bipush dX12_meet_14 (by decide) <| ?_
    obtain rfl := Option.some.inj h
    exact At.iret rfl (Nat.zero_le _) (Nat.zero_le _) ⟨rfl, rfl⟩ dX12_meet_16
def fX12_meetAt (p1 : Int) (p2 : Int) (p3 : Int) (S : SS) : Option (Int × SS) :=
  lt (up S 130 0 0) fun S1 =>
  Option.bind (fX12_areGoers p1 p2 S1) fun q2 =>
  if q2 = true then (
    Option.bind (fX12_within p3 0 1) fun q3 =>
    if q3 = true then (
      Option.bind (fX12_meetsAt p1 p2 S1) fun q4 =>
      if q4.1 = ((-1)) then (
        some ((-1), q4.2)
      ) else (
        if p3 = 0 then (
          some (w32 (Int.tdiv q4.1 20), q4.2)
        ) else (
          some (Int.tmod q4.1 20, q4.2)
        )
      )
    ) else (
      some ((-2), S1)
    )
  ) else (
    some ((-2), S1)
  )
set_option maxRecDepth 100000 in
set_option maxHeartbeats 4000000 in
theorem rX12_meetAt {G : GG} {p1 : Int} {p2 : Int} {p3 : Int} {S : SS} {rr : (Int × SS)} (h : fX12_meetAt p1 p2 p3 S = some rr) : RD G mX12_meetAt 8 [vr 130, vi p1, vi p2, vi p3] S (some (vi rr.1)) rr.2 := by
  unfold fX12_meetAt at h
  refine Runs.of pl_X12 (Nat.le_of_ble_eq_true rfl) ?_
  show At G mX12_meetAt 8 0 [(0, vr 130), (1, vi p1), (2, vi p2), (3, vi p3)] [] (mm S) 0 0 (EQ (some (vi rr.1)) rr.2)
  refine At.aloadn dX12_meetAt_0 rfl <| At.iconst dX12_meetAt_1 (by decide) <| ?_
  obtain ⟨S1, hS1, h⟩ := lt_e h
  refine At.putI fw_X12_1 sh_130 (le149 sh_130) dX12_meetAt_2 <| At.nmS hS1 <| At.aloadn dX12_meetAt_5 rfl <| At.iloadn dX12_meetAt_6 rfl <| At.iloadn dX12_meetAt_7 rfl <| ?_
  obtain ⟨q2, hq2, h⟩ := bnd_e h
  rcases ite_e h with ⟨c8, h⟩ | ⟨c8, h⟩
  · refine At.cV1 (av := [vi p1, vi p2]) (rest := []) mv_X12_areGoers lk_X12_375 dX12_meetAt_8 rfl rfl sh_130 (Nat.le_of_ble_eq_true rfl) (by decide) ⟨rfl, rfl⟩ (rX12_areGoers hq2) <| At.bifeq_f (tgt := 24) dX12_meetAt_11 (by decide) c8 <| ?_
    refine At.iloadn dX12_meetAt_14 rfl <| At.i2l dX12_meetAt_15 <| At.lconst0 dX12_meetAt_16 <| At.lconst1 dX12_meetAt_17 <| ?_
    obtain ⟨q3, hq3, h⟩ := bnd_e h
    rcases ite_e h with ⟨c7, h⟩ | ⟨c7, h⟩
    · refine At.cS1 (av := [vl p3, vl 0, vl 1]) (rest := []) ms_X12_within lk_X12_142 dX12_meetAt_18 rfl rfl (Nat.le_of_ble_eq_true rfl) (by decide) ⟨rfl, rfl⟩ (rX12_within hq3) <| At.bifne_t (tgt := 27) dX12_meetAt_21 (by decide) c7 <| ?_
      refine At.aloadn dX12_meetAt_27 rfl <| At.iloadn dX12_meetAt_28 rfl <| At.iloadn dX12_meetAt_29 rfl <| ?_
      obtain ⟨q4, hq4, h⟩ := bnd_e h
      rcases ite_e h with ⟨c6, h⟩ | ⟨c6, h⟩
      · refine At.cV1 (av := [vi p1, vi p2]) (rest := []) mv_X12_meetsAt lk_X12_378 dX12_meetAt_30 rfl rfl sh_130 (Nat.le_of_ble_eq_true rfl) (by decide) ⟨rfl, rfl⟩ (rX12_meetsAt hq4) <| At.istore (ls' := [(4, vi q4.1), (0, vr 130), (1, vi p1), (2, vi p2), (3, vi p3)]) dX12_meetAt_33 (by decide) rfl <| At.iload dX12_meetAt_35 rfl <| At.iconst dX12_meetAt_37 (by decide) <| At.icmp_ne_f (tgt := 45) dX12_meetAt_38 (by decide) c6 <| ?_
        refine At.iconst dX12_meetAt_41 (by decide) <| At.goto (tgt := 62) dX12_meetAt_42 (by decide) <| ?_
        obtain rfl := Option.some.inj h
        exact At.iret rfl (Nat.zero_le _) (Nat.zero_le _) ⟨rfl, rfl⟩ dX12_meetAt_62
      · refine At.cV1 (av := [vi p1, vi p2]) (rest := []) mv_X12_meetsAt lk_X12_378 dX12_meetAt_30 rfl rfl sh_130 (Nat.le_of_ble_eq_true rfl) (by decide) ⟨rfl, rfl⟩ (rX12_meetsAt hq4) <| At.istore (ls' := [(4, vi q4.1), (0, vr 130), (1, vi p1), (2, vi p2), (3, vi p3)]) dX12_meetAt_33 (by decide) rfl <| At.iload dX12_meetAt_35 rfl <| At.iconst dX12_meetAt_37 (by decide) <| At.icmp_ne_t (tgt := 45) dX12_meetAt_38 (by decide) c6 <| ?_
        rcases ite_e h with ⟨c5, h⟩ | ⟨c5, h⟩
        · refine At.iloadn dX12_meetAt_45 rfl <| At.if_ne_f (tgt := 57) dX12_meetAt_46 (by decide) c5 <| ?_
          refine At.iload dX12_meetAt_49 rfl <| At.bipush dX12_meetAt_51 (by decide) <| At.idiv dX12_meetAt_53 (by decide) <| At.goto (tgt := 62) dX12_meetAt_54 (by decide) <| ?_
          obtain rfl := Option.some.inj h
          exact At.iret rfl (Nat.zero_le _) (Nat.zero_le _) ⟨rfl, rfl⟩ dX12_meetAt_62
        · refine At.iloadn dX12_meetAt_45 rfl <| At.if_ne_t (tgt := 57) dX12_meetAt_46 (by decide) c5 <| ?_
          refine At.iload dX12_meetAt_57 rfl <| At.bipush dX12_meetAt_59 (by decide) <| At.irem dX12_meetAt_61 (by decide) <| ?_
          obtain rfl := Option.some.inj h
          exact At.iret rfl (Nat.zero_le _) (Nat.zero_le _) ⟨rfl, rfl⟩ dX12_meetAt_62
    · refine At.cS1 (av := [vl p3, vl 0, vl 1]) (rest := []) ms_X12_within lk_X12_142 dX12_meetAt_18 rfl rfl (Nat.le_of_ble_eq_true rfl) (by decide) ⟨rfl, rfl⟩ (rX12_within hq3) <| At.bifne_f (tgt := 27) dX12_meetAt_21 (by decide) c7 <| ?_
      refine At.bipush dX12_meetAt_24 (by decide) <| ?_
      obtain rfl := Option.some.inj h
      exact At.iret rfl (Nat.zero_le _) (Nat.zero_le _) ⟨rfl, rfl⟩ dX12_meetAt_26
  · refine At.cV1 (av := [vi p1, vi p2]) (rest := []) mv_X12_areGoers lk_X12_375 dX12_meetAt_8 rfl rfl sh_130 (Nat.le_of_ble_eq_true rfl) (by decide) ⟨rfl, rfl⟩ (rX12_areGoers hq2) <| At.bifeq_t (tgt := 24) dX12_meetAt_11 (by decide) c8 <| ?_
    refine At.bipush dX12_meetAt_24 (by decide) <| ?_
    obtain rfl := Option.some.inj h
    exact At.iret rfl (Nat.zero_le _) (Nat.zero_le _) ⟨rfl, rfl⟩ dX12_meetAt_26
def fX12_ring_L75 (l3 : Int) (l4 : Int) (S : SS) : Nat → Int → Int → Option (Int)
  | 0, _, _ => none
  | n + 1, l2, l5 =>
    if 8 ≤ l5 then (
      some l2
    ) else (
      rdA S 141 120 l4 fun v1 =>
      Option.bind (
        if 268435456 ≤ v1 then (
          some l2
        ) else (
          rdA S 138 960 (w32 ((w32 (8 * l4)) + l5)) fun v4 =>
          if v4 = l3 then (
            rdA S 141 120 l4 fun v6 =>
            if l2 ≤ (w32 (v6 + 1)) then (
              some l2
            ) else (
              rdA S 141 120 l4 fun v8 =>
              lt (w32 (v8 + 1)) fun x10 =>
              some x10
            )
          ) else (
            some l2
          )
        )
        : Option (Int)) fun q3 =>
      lt (w32 (l5 + 1)) fun x14 =>
      fX12_ring_L75 l3 l4 S n q3 x14
    )
def fX12_ring_L63 (l3 : Int) (S : SS) : Nat → Int → Int → Option (Int)
  | 0, _, _ => none
  | n + 1, l2, l4 =>
    Option.bind (fX12_stands  S) fun q1 =>
    if q1 ≤ l4 then (
      some l2
    ) else (
      Option.bind (fX12_ring_L75 l3 l4 S FU l2 0) fun q2 =>
      lt (w32 (l4 + 1)) fun x4 =>
      fX12_ring_L63 l3 S n q2 x4
    )
def fX12_ring_L28 : Nat → Int → Int → SS → Option (Int × SS)
  | 0, _, _, _ => none
  | n + 1, l2, l3, S =>
    Option.bind (fX12_stands  S) fun q1 =>
    if q1 ≤ l3 then (
      some (l2, S)
    ) else (
      rdA S 140 120 l3 fun v2 =>
      Option.bind (
        if v2 = 268435456 then (
          some (l2, S)
        ) else (
          Option.bind (fX12_laysGone_120 l3 141 S) fun q5 =>
          Option.bind (fX12_ring_L63 l3 q5 FU l2 0) fun q6 =>
          some (q6, q5)
        )
        : Option (Int × SS)) fun q4 =>
      lt (w32 (l3 + 1)) fun x9 =>
      fX12_ring_L28 n q4.1 x9 q4.2
    )
def fX12_ring (p1 : Int) (S : SS) : Option (Int × SS) :=
  lt (up S 130 0 0) fun S1 =>
  Option.bind (fX12_isGoer p1 S1) fun q2 =>
  if q2 = true then (
    Option.bind (fX12_laysFromNow p1 S1) fun q3 =>
    Option.bind (fX12_ring_L28 FU 268435456 0 q3) fun q4 =>
    Option.bind (fX12_toldFar q4.1) fun q6 =>
    some (q6, q4.2)
  ) else (
    some ((-2), S1)
  )
set_option maxRecDepth 100000 in
set_option maxHeartbeats 4000000 in
theorem lX12_ring_L75 {G : GG} {Φ : Option VV → MM → Prop} {l3 : Int} {l4 : Int} {S : SS} : ∀ (n : Nat) (l2 : Int) (l5 : Int) (q : Int), fX12_ring_L75 l3 l4 S n l2 l5 = some q → At G mX12_ring 7 141 [(0, vr 130), (2, vi q), (3, vi l3), (4, vi l4)] [] (mm S) 0 0 Φ → At G mX12_ring 7 75 [(0, vr 130), (2, vi l2), (3, vi l3), (4, vi l4), (5, vi l5)] [] (mm S) 0 0 Φ := by
  intro n
  induction n with
  | zero =>
    intro _ _ _ h
    cases h
  | succ n ih =>
    intro l2 l5 q h K141
    unfold fX12_ring_L75 at h
    rcases ite_e h with ⟨c15, h⟩ | ⟨c15, h⟩
    · refine At.iload dX12_ring_75 rfl <| At.bipush dX12_ring_77 (by decide) <| At.icmp_ge_t (tgt := 141) dX12_ring_79 (by decide) c15 <| ?_
      obtain rfl := Option.some.inj h
      exact At.sub [0, 1, 2, 3] rfl K141
    · refine At.iload dX12_ring_75 rfl <| At.bipush dX12_ring_77 (by decide) <| At.icmp_ge_f (tgt := 141) dX12_ring_79 (by decide) c15 <| ?_
      refine At.aloadn dX12_ring_82 rfl <| At.getR fl_X12_48 sh_130 (le149 sh_130) rf_130_24 dX12_ring_83 <| At.iload dX12_ring_86 rfl <| ?_
      obtain ⟨v1, hv1, g2, h⟩ := rdA_e h
      obtain ⟨q3, hj135, h⟩ := bnd_e h
      have K135 : At G mX12_ring 7 135 [(0, vr 130), (2, vi q3), (3, vi l3), (4, vi l4), (5, vi l5)] [] (mm S) 0 0 Φ := by
        obtain ⟨x14, hx14, h⟩ := lt_e h
        refine At.iinc (ls' := [(5, vi x14), (0, vr 130), (2, vi q3), (3, vi l3), (4, vi l4)]) dX12_ring_135 rfl (by decide) (by rw [hx14]; rfl) <| At.goto (tgt := 75) dX12_ring_138 (by decide) <| ?_
        exact At.sub [1, 2, 3, 4, 0] rfl (ih _ _ _ h K141)
      clear h; have h := hj135; clear hj135
      rcases ite_e h with ⟨c13, h⟩ | ⟨c13, h⟩
      · refine At.iald sh_141 (le149 sh_141) g2.1 g2.2 dX12_ring_88 <| At.nm hv1 <| At.ldcw dX12_ring_89 ki_X12_328 (by decide) <| At.icmp_ge_t (tgt := 135) dX12_ring_92 (by decide) c13 <| ?_
        obtain rfl := Option.some.inj h
        exact At.sub [0, 1, 2, 3, 4] rfl K135
      · refine At.iald sh_141 (le149 sh_141) g2.1 g2.2 dX12_ring_88 <| At.nm hv1 <| At.ldcw dX12_ring_89 ki_X12_328 (by decide) <| At.icmp_ge_f (tgt := 135) dX12_ring_92 (by decide) c13 <| ?_
        refine At.aloadn dX12_ring_95 rfl <| At.getR fl_X12_39 sh_130 (le149 sh_130) rf_130_21 dX12_ring_96 <| At.bipush dX12_ring_99 (by decide) <| At.iload dX12_ring_101 rfl <| At.imul dX12_ring_103 <| At.iload dX12_ring_104 rfl <| At.iadd dX12_ring_106 <| ?_
        obtain ⟨v4, hv4, g5, h⟩ := rdA_e h
        rcases ite_e h with ⟨c12, h⟩ | ⟨c12, h⟩
        · refine At.iald sh_138 (le149 sh_138) g5.1 g5.2 dX12_ring_107 <| At.nm hv4 <| At.iloadn dX12_ring_108 rfl <| At.icmp_ne_f (tgt := 135) dX12_ring_109 (by decide) c12 <| ?_
          refine At.aloadn dX12_ring_112 rfl <| At.getR fl_X12_48 sh_130 (le149 sh_130) rf_130_24 dX12_ring_113 <| At.iload dX12_ring_116 rfl <| ?_
          obtain ⟨v6, hv6, g7, h⟩ := rdA_e h
          rcases ite_e h with ⟨c11, h⟩ | ⟨c11, h⟩
          · refine At.iald sh_141 (le149 sh_141) g7.1 g7.2 dX12_ring_118 <| At.nm hv6 <| At.iconst dX12_ring_119 (by decide) <| At.iadd dX12_ring_120 <| At.iloadn dX12_ring_121 rfl <| At.icmp_ge_t (tgt := 135) dX12_ring_122 (by decide) c11 <| ?_
            obtain rfl := Option.some.inj h
            exact At.sub [0, 1, 2, 3, 4] rfl K135
          · refine At.iald sh_141 (le149 sh_141) g7.1 g7.2 dX12_ring_118 <| At.nm hv6 <| At.iconst dX12_ring_119 (by decide) <| At.iadd dX12_ring_120 <| At.iloadn dX12_ring_121 rfl <| At.icmp_ge_f (tgt := 135) dX12_ring_122 (by decide) c11 <| ?_
            refine At.aloadn dX12_ring_125 rfl <| At.getR fl_X12_48 sh_130 (le149 sh_130) rf_130_24 dX12_ring_126 <| At.iload dX12_ring_129 rfl <| ?_
            obtain ⟨v8, hv8, g9, h⟩ := rdA_e h
            refine At.iald sh_141 (le149 sh_141) g9.1 g9.2 dX12_ring_131 <| At.nm hv8 <| At.iconst dX12_ring_132 (by decide) <| At.iadd dX12_ring_133 <| ?_
            obtain ⟨x10, hx10, h⟩ := lt_e h
            refine At.nm hx10 <| At.istoren (ls' := [(2, vi x10), (0, vr 130), (3, vi l3), (4, vi l4), (5, vi l5)]) dX12_ring_134 (by decide) rfl <| ?_
            obtain rfl := Option.some.inj h
            exact At.sub [1, 0, 2, 3, 4] rfl K135
        · refine At.iald sh_138 (le149 sh_138) g5.1 g5.2 dX12_ring_107 <| At.nm hv4 <| At.iloadn dX12_ring_108 rfl <| At.icmp_ne_t (tgt := 135) dX12_ring_109 (by decide) c12 <| ?_
          obtain rfl := Option.some.inj h
          exact At.sub [0, 1, 2, 3, 4] rfl K135
set_option maxRecDepth 100000 in
set_option maxHeartbeats 4000000 in
theorem lX12_ring_L63 {G : GG} {Φ : Option VV → MM → Prop} {l3 : Int} {S : SS} : ∀ (n : Nat) (l2 : Int) (l4 : Int) (q : Int), fX12_ring_L63 l3 S n l2 l4 = some q → At G mX12_ring 7 147 [(0, vr 130), (2, vi q), (3, vi l3)] [] (mm S) 0 0 Φ → At G mX12_ring 7 63 [(0, vr 130), (2, vi l2), (3, vi l3), (4, vi l4)] [] (mm S) 0 0 Φ := by
  intro n
  induction n with
  | zero =>
    intro _ _ _ h
    cases h
  | succ n ih =>
    intro l2 l4 q h K147
    unfold fX12_ring_L63 at h
    refine At.iload dX12_ring_63 rfl <| At.aloadn dX12_ring_65 rfl <| ?_
    obtain ⟨q1, hq1, h⟩ := bnd_e h
    rcases ite_e h with ⟨c5, h⟩ | ⟨c5, h⟩
    · refine At.cV1 (av := []) (rest := [vi l4]) mv_X12_stands lk_X12_329 dX12_ring_66 rfl rfl sh_130 (Nat.le_of_ble_eq_true rfl) (by decide) ⟨rfl, rfl⟩ (rX12_stands hq1) <| At.icmp_ge_t (tgt := 147) dX12_ring_69 (by decide) c5 <| ?_
      obtain rfl := Option.some.inj h
      exact At.sub [0, 1, 2] rfl K147
    · refine At.cV1 (av := []) (rest := [vi l4]) mv_X12_stands lk_X12_329 dX12_ring_66 rfl rfl sh_130 (Nat.le_of_ble_eq_true rfl) (by decide) ⟨rfl, rfl⟩ (rX12_stands hq1) <| At.icmp_ge_f (tgt := 147) dX12_ring_69 (by decide) c5 <| ?_
      refine At.iconst dX12_ring_72 (by decide) <| At.istore (ls' := [(5, vi 0), (0, vr 130), (2, vi l2), (3, vi l3), (4, vi l4)]) dX12_ring_73 (by decide) rfl <| ?_
      obtain ⟨q2, ho3, h⟩ := bnd_e h
      refine At.sub [1, 2, 3, 4, 0] rfl (lX12_ring_L75 FU _ _ q2 ho3 ?_)
      obtain ⟨x4, hx4, h⟩ := lt_e h
      refine At.iinc (ls' := [(4, vi x4), (0, vr 130), (2, vi q2), (3, vi l3)]) dX12_ring_141 rfl (by decide) (by rw [hx4]; rfl) <| At.goto (tgt := 63) dX12_ring_144 (by decide) <| ?_
      exact At.sub [1, 2, 3, 0] rfl (ih _ _ _ h K147)
set_option maxRecDepth 100000 in
set_option maxHeartbeats 4000000 in
theorem lX12_ring_L28 {G : GG} {Φ : Option VV → MM → Prop} : ∀ (n : Nat) (l2 : Int) (l3 : Int) (S : SS) (q : Int × SS), fX12_ring_L28 n l2 l3 S = some q → At G mX12_ring 7 153 [(2, vi q.1)] [] (mm q.2) 0 0 Φ → At G mX12_ring 7 28 [(0, vr 130), (2, vi l2), (3, vi l3)] [] (mm S) 0 0 Φ := by
  intro n
  induction n with
  | zero =>
    intro _ _ _ _ h
    cases h
  | succ n ih =>
    intro l2 l3 S q h K153
    unfold fX12_ring_L28 at h
    refine At.iloadn dX12_ring_28 rfl <| At.aloadn dX12_ring_29 rfl <| ?_
    obtain ⟨q1, hq1, h⟩ := bnd_e h
    rcases ite_e h with ⟨c10, h⟩ | ⟨c10, h⟩
    · refine At.cV1 (av := []) (rest := [vi l3]) mv_X12_stands lk_X12_329 dX12_ring_30 rfl rfl sh_130 (Nat.le_of_ble_eq_true rfl) (by decide) ⟨rfl, rfl⟩ (rX12_stands hq1) <| At.icmp_ge_t (tgt := 153) dX12_ring_33 (by decide) c10 <| ?_
      obtain rfl := Option.some.inj h
      exact At.sub [1] rfl K153
    · refine At.cV1 (av := []) (rest := [vi l3]) mv_X12_stands lk_X12_329 dX12_ring_30 rfl rfl sh_130 (Nat.le_of_ble_eq_true rfl) (by decide) ⟨rfl, rfl⟩ (rX12_stands hq1) <| At.icmp_ge_f (tgt := 153) dX12_ring_33 (by decide) c10 <| ?_
      refine At.aloadn dX12_ring_36 rfl <| At.getR fl_X12_45 sh_130 (le149 sh_130) rf_130_23 dX12_ring_37 <| At.iloadn dX12_ring_40 rfl <| ?_
      obtain ⟨v2, hv2, g3, h⟩ := rdA_e h
      obtain ⟨q4, hj147, h⟩ := bnd_e h
      have K147 : At G mX12_ring 7 147 [(0, vr 130), (2, vi q4.1), (3, vi l3)] [] (mm q4.2) 0 0 Φ := by
        obtain ⟨x9, hx9, h⟩ := lt_e h
        refine At.iinc (ls' := [(3, vi x9), (0, vr 130), (2, vi q4.1)]) dX12_ring_147 rfl (by decide) (by rw [hx9]; rfl) <| At.goto (tgt := 28) dX12_ring_150 (by decide) <| ?_
        exact At.sub [1, 2, 0] rfl (ih _ _ _ _ h K153)
      clear h; have h := hj147; clear hj147
      rcases ite_e h with ⟨c8, h⟩ | ⟨c8, h⟩
      · refine At.iald sh_140 (le149 sh_140) g3.1 g3.2 dX12_ring_41 <| At.nm hv2 <| At.ldcw dX12_ring_42 ki_X12_328 (by decide) <| At.icmp_ne_f (tgt := 51) dX12_ring_45 (by decide) c8 <| ?_
        refine At.goto (tgt := 147) dX12_ring_48 (by decide) <| ?_
        obtain rfl := Option.some.inj h
        exact At.sub [0, 1, 2] rfl K147
      · refine At.iald sh_140 (le149 sh_140) g3.1 g3.2 dX12_ring_41 <| At.nm hv2 <| At.ldcw dX12_ring_42 ki_X12_328 (by decide) <| At.icmp_ne_t (tgt := 51) dX12_ring_45 (by decide) c8 <| ?_
        refine At.aloadn dX12_ring_51 rfl <| At.iloadn dX12_ring_52 rfl <| At.aloadn dX12_ring_53 rfl <| At.getR fl_X12_48 sh_130 (le149 sh_130) rf_130_24 dX12_ring_54 <| ?_
        obtain ⟨q5, hq5, h⟩ := bnd_e h
        refine At.cV0 (av := [vi l3, vr 141]) (rest := []) mv_X12_laysGone lk_X12_365 dX12_ring_57 rfl rfl sh_130 (Nat.le_of_ble_eq_true rfl) (by decide) ⟨rfl, rfl⟩ (rX12_laysGone_120 sh_141 hq5) <| At.iconst dX12_ring_60 (by decide) <| At.istore (ls' := [(4, vi 0), (0, vr 130), (2, vi l2), (3, vi l3)]) dX12_ring_61 (by decide) rfl <| ?_
        obtain ⟨q6, ho7, h⟩ := bnd_e h
        refine At.sub [1, 2, 3, 0] rfl (lX12_ring_L63 FU _ _ q6 ho7 ?_)
        obtain rfl := Option.some.inj h
        exact At.sub [0, 1, 2] rfl K147
set_option maxRecDepth 100000 in
set_option maxHeartbeats 4000000 in
theorem rX12_ring {G : GG} {p1 : Int} {S : SS} {rr : (Int × SS)} (h : fX12_ring p1 S = some rr) : RD G mX12_ring 7 [vr 130, vi p1] S (some (vi rr.1)) rr.2 := by
  unfold fX12_ring at h
  refine Runs.of pl_X12 (Nat.le_of_ble_eq_true rfl) ?_
  show At G mX12_ring 7 0 [(0, vr 130), (1, vi p1)] [] (mm S) 0 0 (EQ (some (vi rr.1)) rr.2)
  refine At.aloadn dX12_ring_0 rfl <| At.iconst dX12_ring_1 (by decide) <| ?_
  obtain ⟨S1, hS1, h⟩ := lt_e h
  refine At.putI fw_X12_1 sh_130 (le149 sh_130) dX12_ring_2 <| At.nmS hS1 <| At.aloadn dX12_ring_5 rfl <| At.iloadn dX12_ring_6 rfl <| At.i2l dX12_ring_7 <| ?_
  obtain ⟨q2, hq2, h⟩ := bnd_e h
  rcases ite_e h with ⟨c7, h⟩ | ⟨c7, h⟩
  · refine At.cV1 (av := [vl p1]) (rest := []) mv_X12_isGoer lk_X12_233 dX12_ring_8 rfl rfl sh_130 (Nat.le_of_ble_eq_true rfl) (by decide) ⟨rfl, rfl⟩ (rX12_isGoer hq2) <| At.bifne_t (tgt := 17) dX12_ring_11 (by decide) c7 <| ?_
    refine At.aloadn dX12_ring_17 rfl <| At.iloadn dX12_ring_18 rfl <| ?_
    obtain ⟨q3, hq3, h⟩ := bnd_e h
    refine At.cV0 (av := [vi p1]) (rest := []) mv_X12_laysFromNow lk_X12_369 dX12_ring_19 rfl rfl sh_130 (Nat.le_of_ble_eq_true rfl) (by decide) ⟨rfl, rfl⟩ (rX12_laysFromNow hq3) <| At.ldcw dX12_ring_22 ki_X12_328 (by decide) <| At.istoren (ls' := [(2, vi 268435456), (0, vr 130), (1, vi p1)]) dX12_ring_25 (by decide) rfl <| At.iconst dX12_ring_26 (by decide) <| At.istoren (ls' := [(3, vi 0), (2, vi 268435456), (0, vr 130), (1, vi p1)]) dX12_ring_27 (by decide) rfl <| ?_
    obtain ⟨q4, ho5, h⟩ := bnd_e h
    refine At.sub [2, 1, 0] rfl (lX12_ring_L28 FU _ _ _ q4 ho5 ?_)
    refine At.iloadn dX12_ring_153 rfl <| ?_
    obtain ⟨q6, hq6, h⟩ := bnd_e h
    refine At.cS1 (av := [vi q4.1]) (rest := []) ms_X12_toldFar lk_X12_348 dX12_ring_154 rfl rfl (Nat.le_of_ble_eq_true rfl) (by decide) ⟨rfl, rfl⟩ (rX12_toldFar hq6) <| ?_
    obtain rfl := Option.some.inj h
    exact At.iret rfl (Nat.zero_le _) (Nat.zero_le _) ⟨rfl, rfl⟩ dX12_ring_157
  · refine At.cV1 (av := [vl p1]) (rest := []) mv_X12_isGoer lk_X12_233 dX12_ring_8 rfl rfl sh_130 (Nat.le_of_ble_eq_true rfl) (by decide) ⟨rfl, rfl⟩ (rX12_isGoer hq2) <| At.bifne_f (tgt := 17) dX12_ring_11 (by decide) c7 <| ?_
    refine At.bipush dX12_ring_14 (by decide) <| ?_
    obtain rfl := Option.some.inj h
    exact At.iret rfl (Nat.zero_le _) (Nat.zero_le _) ⟨rfl, rfl⟩ dX12_ring_16
def fX12_shutNow_L4 (S : SS) : Nat → Int → Int → Option (Int)
  | 0, _, _ => none
  | n + 1, l1, l2 =>
    rdA S 131 3303 2 fun v1 =>
    if v1 ≤ l2 then (
      some l1
    ) else (
      rdA S 131 3303 (w32 (40 + l2)) fun v3 =>
      Option.bind (
        if v3 = 3 then (
          some (jshl 1 l2)
        ) else (
          some 0
        )
        : Option (Int)) fun q5 =>
      lt (jor l1 q5) fun x7 =>
      lt (w32 (l2 + 1)) fun x8 =>
      fX12_shutNow_L4 S n x7 x8
    )
def fX12_shutNow (S : SS) : Option Int :=
  Option.bind (fX12_shutNow_L4 S FU 0 0) fun q1 =>
  some q1
set_option maxRecDepth 100000 in
set_option maxHeartbeats 4000000 in
theorem lX12_shutNow_L4 {G : GG} {Φ : Option VV → MM → Prop} {S : SS} : ∀ (n : Nat) (l1 : Int) (l2 : Int) (q : Int), fX12_shutNow_L4 S n l1 l2 = some q → At G mX12_shutNow 1 43 [(1, vi q)] [] (mm S) 0 0 Φ → At G mX12_shutNow 1 4 [(0, vr 130), (1, vi l1), (2, vi l2)] [] (mm S) 0 0 Φ := by
  intro n
  induction n with
  | zero =>
    intro _ _ _ h
    cases h
  | succ n ih =>
    intro l1 l2 q h K43
    unfold fX12_shutNow_L4 at h
    refine At.iloadn dX12_shutNow_4 rfl <| At.aloadn dX12_shutNow_5 rfl <| At.getR fl_X12_13 sh_130 (le149 sh_130) rf_130_1 dX12_shutNow_6 <| At.iconst dX12_shutNow_9 (by decide) <| ?_
    obtain ⟨v1, hv1, g2, h⟩ := rdA_e h
    rcases ite_e h with ⟨c9, h⟩ | ⟨c9, h⟩
    · refine At.iald sh_131 (le149 sh_131) g2.1 g2.2 dX12_shutNow_10 <| At.nm hv1 <| At.icmp_ge_t (tgt := 43) dX12_shutNow_11 (by decide) c9 <| ?_
      obtain rfl := Option.some.inj h
      exact At.sub [1] rfl K43
    · refine At.iald sh_131 (le149 sh_131) g2.1 g2.2 dX12_shutNow_10 <| At.nm hv1 <| At.icmp_ge_f (tgt := 43) dX12_shutNow_11 (by decide) c9 <| ?_
      refine At.iloadn dX12_shutNow_14 rfl <| At.aloadn dX12_shutNow_15 rfl <| At.getR fl_X12_13 sh_130 (le149 sh_130) rf_130_1 dX12_shutNow_16 <| At.bipush dX12_shutNow_19 (by decide) <| At.iloadn dX12_shutNow_21 rfl <| At.iadd dX12_shutNow_22 <| ?_
      obtain ⟨v3, hv3, g4, h⟩ := rdA_e h
      obtain ⟨q5, hj35, h⟩ := bnd_e h
      have K35 : At G mX12_shutNow 1 35 [(0, vr 130), (2, vi l2)] [vi q5, vi l1] (mm S) 0 0 Φ := by
        refine At.ior dX12_shutNow_35 <| ?_
        obtain ⟨x7, hx7, h⟩ := lt_e h
        refine At.nm hx7 <| At.istoren (ls' := [(1, vi x7), (0, vr 130), (2, vi l2)]) dX12_shutNow_36 (by decide) rfl <| ?_
        obtain ⟨x8, hx8, h⟩ := lt_e h
        refine At.iinc (ls' := [(2, vi x8), (1, vi x7), (0, vr 130)]) dX12_shutNow_37 rfl (by decide) (by rw [hx8]; rfl) <| At.goto (tgt := 4) dX12_shutNow_40 (by decide) <| ?_
        exact At.sub [2, 1, 0] rfl (ih _ _ _ h K43)
      clear h; have h := hj35; clear hj35
      rcases ite_e h with ⟨c6, h⟩ | ⟨c6, h⟩
      · refine At.iald sh_131 (le149 sh_131) g4.1 g4.2 dX12_shutNow_23 <| At.nm hv3 <| At.iconst dX12_shutNow_24 (by decide) <| At.icmp_ne_f (tgt := 34) dX12_shutNow_25 (by decide) c6 <| ?_
        refine At.iconst dX12_shutNow_28 (by decide) <| At.iloadn dX12_shutNow_29 rfl <| At.ishl dX12_shutNow_30 <| At.goto (tgt := 35) dX12_shutNow_31 (by decide) <| ?_
        obtain rfl := Option.some.inj h
        exact At.sub [0, 2] rfl K35
      · refine At.iald sh_131 (le149 sh_131) g4.1 g4.2 dX12_shutNow_23 <| At.nm hv3 <| At.iconst dX12_shutNow_24 (by decide) <| At.icmp_ne_t (tgt := 34) dX12_shutNow_25 (by decide) c6 <| ?_
        refine At.iconst dX12_shutNow_34 (by decide) <| ?_
        obtain rfl := Option.some.inj h
        exact At.sub [0, 2] rfl K35
set_option maxRecDepth 100000 in
set_option maxHeartbeats 4000000 in
theorem rX12_shutNow {G : GG} {S : SS} {rr : Int} (h : fX12_shutNow  S = some rr) : RD G mX12_shutNow 1 [vr 130] S (some (vi rr)) S := by
  unfold fX12_shutNow at h
  refine Runs.of pl_X12 (Nat.le_of_ble_eq_true rfl) ?_
  show At G mX12_shutNow 1 0 [(0, vr 130)] [] (mm S) 0 0 (EQ (some (vi rr)) S)
  refine At.iconst dX12_shutNow_0 (by decide) <| At.istoren (ls' := [(1, vi 0), (0, vr 130)]) dX12_shutNow_1 (by decide) rfl <| At.iconst dX12_shutNow_2 (by decide) <| At.istoren (ls' := [(2, vi 0), (1, vi 0), (0, vr 130)]) dX12_shutNow_3 (by decide) rfl <| ?_
  obtain ⟨q1, ho2, h⟩ := bnd_e h
  refine At.sub [2, 1, 0] rfl (lX12_shutNow_L4 FU _ _ q1 ho2 ?_)
  refine At.iloadn dX12_shutNow_43 rfl <| ?_
  obtain rfl := Option.some.inj h
  exact At.iret rfl (Nat.zero_le _) (Nat.zero_le _) ⟨rfl, rfl⟩ dX12_shutNow_44
def fX12_laysBoth_L12 (l1 : Int) (l2 : Int) : Nat → Int → SS → Option (SS)
  | 0, _, _ => none
  | n + 1, l3, S =>
    if 16 ≤ l3 then (
      some S
    ) else (
      lt (w32 (Int.tdiv l3 2)) fun x1 =>
      rdA S 131 3303 2 fun v2 =>
      Option.bind (
        if v2 ≤ x1 then (
          some (0, S)
        ) else (
          Option.bind (
            if (Int.tmod l3 2) = 0 then (
              rdA S 131 3303 (w32 (10 + x1)) fun v6 =>
              some v6
            ) else (
              rdA S 131 3303 (w32 (18 + x1)) fun v8 =>
              some v8
            )
            : Option (Int)) fun q5 =>
          if (w32 (Int.tdiv l2 20)) = q5 then (
            Option.bind (fX12_whyBy l1 l2 x1 2 S) fun q11 =>
            if q11.1 = 0 then (
              some (1, q11.2)
            ) else (
              some (0, q11.2)
            )
          ) else (
            some (0, S)
          )
        )
        : Option (Int × SS)) fun q4 =>
      Option.bind (
        if q4.1 = 0 then (
          some ((-1), q4.2)
        ) else (
          Option.bind (fX12_goneTo l1 l2 x1 q4.2) fun q16 =>
          some (q16.1, q16.2)
        )
        : Option (Int × SS)) fun q15 =>
      wrA q15.2 144 1920 (w32 ((w32 (16 * l2)) + l3)) q15.1 fun S18 =>
      lt (w32 (l3 + 1)) fun x20 =>
      fX12_laysBoth_L12 l1 l2 n x20 S18
    )
def fX12_laysBoth_L2 (l1 : Int) : Nat → Int → SS → Option (SS)
  | 0, _, _ => none
  | n + 1, l2, S =>
    Option.bind (fX12_stands  S) fun q1 =>
    if q1 ≤ l2 then (
      some S
    ) else (
      Option.bind (fX12_laysBoth_L12 l1 l2 FU 0 S) fun q2 =>
      lt (w32 (l2 + 1)) fun x4 =>
      fX12_laysBoth_L2 l1 n x4 q2
    )
def fX12_laysBoth (p1 : Int) (S : SS) : Option SS :=
  Option.bind (fX12_laysBoth_L2 p1 FU 0 S) fun q1 =>
  some q1
set_option maxRecDepth 100000 in
set_option maxHeartbeats 4000000 in
theorem lX12_laysBoth_L12 {G : GG} {Φ : Option VV → MM → Prop} {l1 : Int} {l2 : Int} : ∀ (n : Nat) (l3 : Int) (S : SS) (q : SS), fX12_laysBoth_L12 l1 l2 n l3 S = some q → At G mX12_laysBoth 5 123 [(0, vr 130), (1, vi l1), (2, vi l2)] [] (mm q) 0 0 Φ → At G mX12_laysBoth 5 12 [(0, vr 130), (1, vi l1), (2, vi l2), (3, vi l3)] [] (mm S) 0 0 Φ := by
  intro n
  induction n with
  | zero =>
    intro _ _ _ h
    cases h
  | succ n ih =>
    intro l3 S q h K123
    unfold fX12_laysBoth_L12 at h
    rcases ite_e h with ⟨c21, h⟩ | ⟨c21, h⟩
    · refine At.iloadn dX12_laysBoth_12 rfl <| At.bipush dX12_laysBoth_13 (by decide) <| At.icmp_ge_t (tgt := 123) dX12_laysBoth_15 (by decide) c21 <| ?_
      obtain rfl := Option.some.inj h
      exact At.sub [0, 1, 2] rfl K123
    · refine At.iloadn dX12_laysBoth_12 rfl <| At.bipush dX12_laysBoth_13 (by decide) <| At.icmp_ge_f (tgt := 123) dX12_laysBoth_15 (by decide) c21 <| ?_
      refine At.iloadn dX12_laysBoth_18 rfl <| At.iconst dX12_laysBoth_19 (by decide) <| At.idiv dX12_laysBoth_20 (by decide) <| ?_
      obtain ⟨x1, hx1, h⟩ := lt_e h
      refine At.nm hx1 <| At.istore (ls' := [(4, vi x1), (0, vr 130), (1, vi l1), (2, vi l2), (3, vi l3)]) dX12_laysBoth_21 (by decide) rfl <| At.iload dX12_laysBoth_23 rfl <| At.aloadn dX12_laysBoth_25 rfl <| At.getR fl_X12_13 sh_130 (le149 sh_130) rf_130_1 dX12_laysBoth_26 <| At.iconst dX12_laysBoth_29 (by decide) <| ?_
      obtain ⟨v2, hv2, g3, h⟩ := rdA_e h
      obtain ⟨q4, hj87, h⟩ := bnd_e h
      have K87 : At G mX12_laysBoth 5 87 [(0, vr 130), (1, vi l1), (2, vi l2), (3, vi l3), (4, vi x1)] [vi q4.1] (mm q4.2) 0 0 Φ := by
        obtain ⟨q15, hj116, h⟩ := bnd_e h
        have K116 : At G mX12_laysBoth 5 116 [(0, vr 130), (1, vi l1), (2, vi l2), (3, vi l3)] [vi q15.1, vi (w32 ((w32 (16 * l2)) + l3)), vr 144] (mm q15.2) 0 0 Φ := by
          obtain ⟨S18, hS18, g19, h⟩ := wrA_e h
          refine At.iast sh_144 (le149 sh_144) g19.1 g19.2 dX12_laysBoth_116 <| At.nmS hS18 <| ?_
          obtain ⟨x20, hx20, h⟩ := lt_e h
          refine At.iinc (ls' := [(3, vi x20), (0, vr 130), (1, vi l1), (2, vi l2)]) dX12_laysBoth_117 rfl (by decide) (by rw [hx20]; rfl) <| At.goto (tgt := 12) dX12_laysBoth_120 (by decide) <| ?_
          exact At.sub [1, 2, 3, 0] rfl (ih _ _ _ h K123)
        clear h; have h := hj116; clear hj116
        rcases ite_e h with ⟨c17, h⟩ | ⟨c17, h⟩
        · refine At.istore (ls' := [(5, vi q4.1), (0, vr 130), (1, vi l1), (2, vi l2), (3, vi l3), (4, vi x1)]) dX12_laysBoth_87 (by decide) rfl <| At.aloadn dX12_laysBoth_89 rfl <| At.getR fl_X12_58 sh_130 (le149 sh_130) rf_130_27 dX12_laysBoth_90 <| At.bipush dX12_laysBoth_93 (by decide) <| At.iloadn dX12_laysBoth_95 rfl <| At.imul dX12_laysBoth_96 <| At.iloadn dX12_laysBoth_97 rfl <| At.iadd dX12_laysBoth_98 <| At.iload dX12_laysBoth_99 rfl <| At.if_eq_t (tgt := 115) dX12_laysBoth_101 (by decide) c17 <| ?_
          refine At.iconst dX12_laysBoth_115 (by decide) <| ?_
          obtain rfl := Option.some.inj h
          exact At.sub [1, 2, 3, 4] rfl K116
        · refine At.istore (ls' := [(5, vi q4.1), (0, vr 130), (1, vi l1), (2, vi l2), (3, vi l3), (4, vi x1)]) dX12_laysBoth_87 (by decide) rfl <| At.aloadn dX12_laysBoth_89 rfl <| At.getR fl_X12_58 sh_130 (le149 sh_130) rf_130_27 dX12_laysBoth_90 <| At.bipush dX12_laysBoth_93 (by decide) <| At.iloadn dX12_laysBoth_95 rfl <| At.imul dX12_laysBoth_96 <| At.iloadn dX12_laysBoth_97 rfl <| At.iadd dX12_laysBoth_98 <| At.iload dX12_laysBoth_99 rfl <| At.if_eq_f (tgt := 115) dX12_laysBoth_101 (by decide) c17 <| ?_
          refine At.aloadn dX12_laysBoth_104 rfl <| At.iloadn dX12_laysBoth_105 rfl <| At.iloadn dX12_laysBoth_106 rfl <| At.iload dX12_laysBoth_107 rfl <| ?_
          obtain ⟨q16, hq16, h⟩ := bnd_e h
          refine At.cV1 (av := [vi l1, vi l2, vi x1]) (rest := [vi (w32 ((w32 (16 * l2)) + l3)), vr 144]) mv_X12_goneTo lk_X12_251 dX12_laysBoth_109 rfl rfl sh_130 (Nat.le_of_ble_eq_true rfl) (by decide) ⟨rfl, rfl⟩ (rX12_goneTo hq16) <| At.goto (tgt := 116) dX12_laysBoth_112 (by decide) <| ?_
          obtain rfl := Option.some.inj h
          exact At.sub [1, 2, 3, 4] rfl K116
      clear h; have h := hj87; clear hj87
      rcases ite_e h with ⟨c14, h⟩ | ⟨c14, h⟩
      · refine At.iald sh_131 (le149 sh_131) g3.1 g3.2 dX12_laysBoth_30 <| At.nm hv2 <| At.icmp_ge_t (tgt := 86) dX12_laysBoth_31 (by decide) c14 <| ?_
        refine At.iconst dX12_laysBoth_86 (by decide) <| ?_
        obtain rfl := Option.some.inj h
        exact At.sub [1, 2, 3, 4, 0] rfl K87
      · refine At.iald sh_131 (le149 sh_131) g3.1 g3.2 dX12_laysBoth_30 <| At.nm hv2 <| At.icmp_ge_f (tgt := 86) dX12_laysBoth_31 (by decide) c14 <| ?_
        obtain ⟨q5, hj67, h⟩ := bnd_e h
        have K67 : At G mX12_laysBoth 5 67 [(0, vr 130), (1, vi l1), (2, vi l2), (3, vi l3), (4, vi x1)] [vi q5, vi (w32 (Int.tdiv l2 20))] (mm S) 0 0 Φ := by
          rcases ite_e h with ⟨c13, h⟩ | ⟨c13, h⟩
          · refine At.icmp_ne_f (tgt := 86) dX12_laysBoth_67 (by decide) c13 <| ?_
            refine At.aloadn dX12_laysBoth_70 rfl <| At.iloadn dX12_laysBoth_71 rfl <| At.iloadn dX12_laysBoth_72 rfl <| At.iload dX12_laysBoth_73 rfl <| At.iconst dX12_laysBoth_75 (by decide) <| ?_
            obtain ⟨q11, hq11, h⟩ := bnd_e h
            rcases ite_e h with ⟨c12, h⟩ | ⟨c12, h⟩
            · refine At.cV1 (av := [vi l1, vi l2, vi x1, vi 2]) (rest := []) mv_X12_whyBy lk_X12_242 dX12_laysBoth_76 rfl rfl sh_130 (Nat.le_of_ble_eq_true rfl) (by decide) ⟨rfl, rfl⟩ (rX12_whyBy hq11) <| At.if_ne_f (tgt := 86) dX12_laysBoth_79 (by decide) c12 <| ?_
              refine At.iconst dX12_laysBoth_82 (by decide) <| At.goto (tgt := 87) dX12_laysBoth_83 (by decide) <| ?_
              obtain rfl := Option.some.inj h
              exact At.sub [0, 1, 2, 3, 4] rfl K87
            · refine At.cV1 (av := [vi l1, vi l2, vi x1, vi 2]) (rest := []) mv_X12_whyBy lk_X12_242 dX12_laysBoth_76 rfl rfl sh_130 (Nat.le_of_ble_eq_true rfl) (by decide) ⟨rfl, rfl⟩ (rX12_whyBy hq11) <| At.if_ne_t (tgt := 86) dX12_laysBoth_79 (by decide) c12 <| ?_
              refine At.iconst dX12_laysBoth_86 (by decide) <| ?_
              obtain rfl := Option.some.inj h
              exact At.sub [0, 1, 2, 3, 4] rfl K87
          · refine At.icmp_ne_t (tgt := 86) dX12_laysBoth_67 (by decide) c13 <| ?_
            refine At.iconst dX12_laysBoth_86 (by decide) <| ?_
            obtain rfl := Option.some.inj h
            exact At.sub [0, 1, 2, 3, 4] rfl K87
        clear h; have h := hj67; clear hj67
        rcases ite_e h with ⟨c10, h⟩ | ⟨c10, h⟩
        · refine At.iloadn dX12_laysBoth_34 rfl <| At.bipush dX12_laysBoth_35 (by decide) <| At.idiv dX12_laysBoth_37 (by decide) <| At.iloadn dX12_laysBoth_38 rfl <| At.iconst dX12_laysBoth_39 (by decide) <| At.irem dX12_laysBoth_40 (by decide) <| At.if_ne_f (tgt := 57) dX12_laysBoth_41 (by decide) c10 <| ?_
          refine At.aloadn dX12_laysBoth_44 rfl <| At.getR fl_X12_13 sh_130 (le149 sh_130) rf_130_1 dX12_laysBoth_45 <| At.bipush dX12_laysBoth_48 (by decide) <| At.iload dX12_laysBoth_50 rfl <| At.iadd dX12_laysBoth_52 <| ?_
          obtain ⟨v6, hv6, g7, h⟩ := rdA_e h
          refine At.iald sh_131 (le149 sh_131) g7.1 g7.2 dX12_laysBoth_53 <| At.nm hv6 <| At.goto (tgt := 67) dX12_laysBoth_54 (by decide) <| ?_
          obtain rfl := Option.some.inj h
          exact At.sub [1, 2, 3, 4, 0] rfl K67
        · refine At.iloadn dX12_laysBoth_34 rfl <| At.bipush dX12_laysBoth_35 (by decide) <| At.idiv dX12_laysBoth_37 (by decide) <| At.iloadn dX12_laysBoth_38 rfl <| At.iconst dX12_laysBoth_39 (by decide) <| At.irem dX12_laysBoth_40 (by decide) <| At.if_ne_t (tgt := 57) dX12_laysBoth_41 (by decide) c10 <| ?_
          refine At.aloadn dX12_laysBoth_57 rfl <| At.getR fl_X12_13 sh_130 (le149 sh_130) rf_130_1 dX12_laysBoth_58 <| At.bipush dX12_laysBoth_61 (by decide) <| At.iload dX12_laysBoth_63 rfl <| At.iadd dX12_laysBoth_65 <| ?_
          obtain ⟨v8, hv8, g9, h⟩ := rdA_e h
          refine At.iald sh_131 (le149 sh_131) g9.1 g9.2 dX12_laysBoth_66 <| At.nm hv8 <| ?_
          obtain rfl := Option.some.inj h
          exact At.sub [1, 2, 3, 4, 0] rfl K67
set_option maxRecDepth 100000 in
set_option maxHeartbeats 4000000 in
theorem lX12_laysBoth_L2 {G : GG} {Φ : Option VV → MM → Prop} {l1 : Int} : ∀ (n : Nat) (l2 : Int) (S : SS) (q : SS), fX12_laysBoth_L2 l1 n l2 S = some q → At G mX12_laysBoth 5 129 [] [] (mm q) 0 0 Φ → At G mX12_laysBoth 5 2 [(0, vr 130), (1, vi l1), (2, vi l2)] [] (mm S) 0 0 Φ := by
  intro n
  induction n with
  | zero =>
    intro _ _ _ h
    cases h
  | succ n ih =>
    intro l2 S q h K129
    unfold fX12_laysBoth_L2 at h
    refine At.iloadn dX12_laysBoth_2 rfl <| At.aloadn dX12_laysBoth_3 rfl <| ?_
    obtain ⟨q1, hq1, h⟩ := bnd_e h
    rcases ite_e h with ⟨c5, h⟩ | ⟨c5, h⟩
    · refine At.cV1 (av := []) (rest := [vi l2]) mv_X12_stands lk_X12_329 dX12_laysBoth_4 rfl rfl sh_130 (Nat.le_of_ble_eq_true rfl) (by decide) ⟨rfl, rfl⟩ (rX12_stands hq1) <| At.icmp_ge_t (tgt := 129) dX12_laysBoth_7 (by decide) c5 <| ?_
      obtain rfl := Option.some.inj h
      exact At.sub [] rfl K129
    · refine At.cV1 (av := []) (rest := [vi l2]) mv_X12_stands lk_X12_329 dX12_laysBoth_4 rfl rfl sh_130 (Nat.le_of_ble_eq_true rfl) (by decide) ⟨rfl, rfl⟩ (rX12_stands hq1) <| At.icmp_ge_f (tgt := 129) dX12_laysBoth_7 (by decide) c5 <| ?_
      refine At.iconst dX12_laysBoth_10 (by decide) <| At.istoren (ls' := [(3, vi 0), (0, vr 130), (1, vi l1), (2, vi l2)]) dX12_laysBoth_11 (by decide) rfl <| ?_
      obtain ⟨q2, ho3, h⟩ := bnd_e h
      refine At.sub [1, 2, 3, 0] rfl (lX12_laysBoth_L12 FU _ _ q2 ho3 ?_)
      obtain ⟨x4, hx4, h⟩ := lt_e h
      refine At.iinc (ls' := [(2, vi x4), (0, vr 130), (1, vi l1)]) dX12_laysBoth_123 rfl (by decide) (by rw [hx4]; rfl) <| At.goto (tgt := 2) dX12_laysBoth_126 (by decide) <| ?_
      exact At.sub [1, 2, 0] rfl (ih _ _ _ h K129)
set_option maxRecDepth 100000 in
set_option maxHeartbeats 4000000 in
theorem rX12_laysBoth {G : GG} {p1 : Int} {S : SS} {rr : SS} (h : fX12_laysBoth p1 S = some rr) : RD G mX12_laysBoth 5 [vr 130, vi p1] S none rr := by
  unfold fX12_laysBoth at h
  refine Runs.of pl_X12 (Nat.le_of_ble_eq_true rfl) ?_
  show At G mX12_laysBoth 5 0 [(0, vr 130), (1, vi p1)] [] (mm S) 0 0 (EQ none rr)
  refine At.iconst dX12_laysBoth_0 (by decide) <| At.istoren (ls' := [(2, vi 0), (0, vr 130), (1, vi p1)]) dX12_laysBoth_1 (by decide) rfl <| ?_
  obtain ⟨q1, ho2, h⟩ := bnd_e h
  refine At.sub [1, 2, 0] rfl (lX12_laysBoth_L2 FU _ _ q1 ho2 ?_)
  obtain rfl := Option.some.inj h
  exact At.vret rfl (Nat.zero_le _) (Nat.zero_le _) ⟨rfl, rfl⟩ dX12_laysBoth_129
def fX12_lawTo (p1 : Int) (p2 : Int) (p3 : Int) (S : SS) : Option Int :=
  rdA S 131 3303 (w32 (40 + p2)) fun v1 =>
  if v1 = 3 then (
    some ((-1))
  ) else (
    Option.bind (fX12_isIn p3 p2) fun q3 =>
    Option.bind (
      if q3 = true then (
        some 1
      ) else (
        some 0
      )
      : Option (Int)) fun q4 =>
    rdA S 144 1920 (w32 ((w32 ((w32 (16 * p1)) + (w32 (2 * p2)))) + q4)) fun v6 =>
    some v6
  )
set_option maxRecDepth 100000 in
set_option maxHeartbeats 4000000 in
theorem rX12_lawTo {G : GG} {p1 : Int} {p2 : Int} {p3 : Int} {S : SS} {rr : Int} (h : fX12_lawTo p1 p2 p3 S = some rr) : RD G mX12_lawTo 2 [vr 130, vi p1, vi p2, vi p3] S (some (vi rr)) S := by
  unfold fX12_lawTo at h
  refine Runs.of pl_X12 (Nat.le_of_ble_eq_true rfl) ?_
  show At G mX12_lawTo 2 0 [(0, vr 130), (1, vi p1), (2, vi p2), (3, vi p3)] [] (mm S) 0 0 (EQ (some (vi rr)) S)
  refine At.aloadn dX12_lawTo_0 rfl <| At.getR fl_X12_13 sh_130 (le149 sh_130) rf_130_1 dX12_lawTo_1 <| At.bipush dX12_lawTo_4 (by decide) <| At.iloadn dX12_lawTo_6 rfl <| At.iadd dX12_lawTo_7 <| ?_
  obtain ⟨v1, hv1, g2, h⟩ := rdA_e h
  rcases ite_e h with ⟨c8, h⟩ | ⟨c8, h⟩
  · refine At.iald sh_131 (le149 sh_131) g2.1 g2.2 dX12_lawTo_8 <| At.nm hv1 <| At.iconst dX12_lawTo_9 (by decide) <| At.icmp_ne_f (tgt := 17) dX12_lawTo_10 (by decide) c8 <| ?_
    refine At.iconst dX12_lawTo_13 (by decide) <| At.goto (tgt := 45) dX12_lawTo_14 (by decide) <| ?_
    obtain rfl := Option.some.inj h
    exact At.iret rfl (Nat.zero_le _) (Nat.zero_le _) ⟨rfl, rfl⟩ dX12_lawTo_45
  · refine At.iald sh_131 (le149 sh_131) g2.1 g2.2 dX12_lawTo_8 <| At.nm hv1 <| At.iconst dX12_lawTo_9 (by decide) <| At.icmp_ne_t (tgt := 17) dX12_lawTo_10 (by decide) c8 <| ?_
    refine At.aloadn dX12_lawTo_17 rfl <| At.getR fl_X12_58 sh_130 (le149 sh_130) rf_130_27 dX12_lawTo_18 <| At.bipush dX12_lawTo_21 (by decide) <| At.iloadn dX12_lawTo_23 rfl <| At.imul dX12_lawTo_24 <| At.iconst dX12_lawTo_25 (by decide) <| At.iloadn dX12_lawTo_26 rfl <| At.imul dX12_lawTo_27 <| At.iadd dX12_lawTo_28 <| At.iloadn dX12_lawTo_29 rfl <| At.i2l dX12_lawTo_30 <| At.iloadn dX12_lawTo_31 rfl <| ?_
    obtain ⟨q3, hq3, h⟩ := bnd_e h
    obtain ⟨q4, hj43, h⟩ := bnd_e h
    have K43 : At G mX12_lawTo 2 43 [] [vi q4, vi (w32 ((w32 (16 * p1)) + (w32 (2 * p2)))), vr 144] (mm S) 0 0 (EQ (some (vi rr)) S) := by
      refine At.iadd dX12_lawTo_43 <| ?_
      obtain ⟨v6, hv6, g7, h⟩ := rdA_e h
      refine At.iald sh_144 (le149 sh_144) g7.1 g7.2 dX12_lawTo_44 <| At.nm hv6 <| ?_
      obtain rfl := Option.some.inj h
      exact At.iret rfl (Nat.zero_le _) (Nat.zero_le _) ⟨rfl, rfl⟩ dX12_lawTo_45
    clear h; have h := hj43; clear hj43
    rcases ite_e h with ⟨c5, h⟩ | ⟨c5, h⟩
    · refine At.cS1 (av := [vl p3, vi p2]) (rest := [vi (w32 ((w32 (16 * p1)) + (w32 (2 * p2)))), vr 144]) ms_X12_isIn lk_X12_324 dX12_lawTo_32 rfl rfl (Nat.le_of_ble_eq_true rfl) (by decide) ⟨rfl, rfl⟩ (rX12_isIn hq3) <| At.bifeq_f (tgt := 42) dX12_lawTo_35 (by decide) c5 <| ?_
      refine At.iconst dX12_lawTo_38 (by decide) <| At.goto (tgt := 43) dX12_lawTo_39 (by decide) <| ?_
      obtain rfl := Option.some.inj h
      exact At.sub [] rfl K43
    · refine At.cS1 (av := [vl p3, vi p2]) (rest := [vi (w32 ((w32 (16 * p1)) + (w32 (2 * p2)))), vr 144]) ms_X12_isIn lk_X12_324 dX12_lawTo_32 rfl rfl (Nat.le_of_ble_eq_true rfl) (by decide) ⟨rfl, rfl⟩ (rX12_isIn hq3) <| At.bifeq_t (tgt := 42) dX12_lawTo_35 (by decide) c5 <| ?_
      refine At.iconst dX12_lawTo_42 (by decide) <| ?_
      obtain rfl := Option.some.inj h
      exact At.sub [] rfl K43
def fX12_noRing_L2 (l1 : Int) (l2 : Int) : Nat → Int → SS → Option (SS)
  | 0, _, _ => none
  | n + 1, l3, S =>
    if 120 ≤ l3 then (
      some S
    ) else (
      Option.bind (fX12_standOf l1 S) fun q1 =>
      Option.bind (
        if l3 = q1 then (
          some 0
        ) else (
          some 268435456
        )
        : Option (Int)) fun q2 =>
      wrA S 140 120 l3 q2 fun S4 =>
      wrA S4 145 120 l3 0 fun S6 =>
      lt (w32 (l3 + 1)) fun x8 =>
      fX12_noRing_L2 l1 l2 n x8 S6
    )
def fX12_noRing_L66 (l2 : Int) (l4 : Int) : Nat → Int → Int → SS → Option (Int × SS)
  | 0, _, _, _ => none
  | n + 1, l3, l5, S =>
    rdA S 131 3303 2 fun v1 =>
    if v1 ≤ l5 then (
      some (l3, S)
    ) else (
      rdA S 140 120 l4 fun v3 =>
      if v3 = 0 then (
        Option.bind (fX12_lawTo l4 l5 l2 S) fun q5 =>
        Option.bind (
          if q5 = ((-1)) then (
            some (l3, S)
          ) else (
            rdA S 140 120 q5 fun v7 =>
            if v7 = 0 then (
              some (l3, S)
            ) else (
              wrA S 140 120 q5 0 fun S9 =>
              some (1, S9)
            )
          )
          : Option (Int × SS)) fun q6 =>
        lt (w32 (l5 + 1)) fun x13 =>
        fX12_noRing_L66 l2 l4 n q6.1 x13 q6.2
      ) else (
        some (l3, S)
      )
    )
def fX12_noRing_L54 (l2 : Int) : Nat → Int → Int → SS → Option (Int × SS)
  | 0, _, _, _ => none
  | n + 1, l3, l4, S =>
    Option.bind (fX12_stands  S) fun q1 =>
    if q1 ≤ l4 then (
      some (l3, S)
    ) else (
      Option.bind (fX12_noRing_L66 l2 l4 FU l3 0 S) fun q2 =>
      lt (w32 (l4 + 1)) fun x4 =>
      fX12_noRing_L54 l2 n q2.1 x4 q2.2
    )
def fX12_noRing_L45 (l2 : Int) : Nat → Int → SS → Option (SS)
  | 0, _, _ => none
  | n + 1, l3, S =>
    if l3 = 0 then (
      some S
    ) else (
      Option.bind (fX12_noRing_L54 l2 FU 0 0 S) fun q1 =>
      fX12_noRing_L45 l2 n q1.1 q1.2
    )
def fX12_noRing_L157 (l2 : Int) (l4 : Int) : Nat → Int → SS → Option (SS)
  | 0, _, _ => none
  | n + 1, l5, S =>
    rdA S 131 3303 2 fun v1 =>
    if v1 ≤ l5 then (
      some S
    ) else (
      rdA S 140 120 l4 fun v3 =>
      if v3 = 0 then (
        Option.bind (fX12_lawTo l4 l5 l2 S) fun q5 =>
        Option.bind (
          if q5 = ((-1)) then (
            some S
          ) else (
            Option.bind (fX12_lawTo l4 l5 l2 S) fun q7 =>
            rdA S 145 120 q7 fun v8 =>
            wrA S 145 120 q7 (w32 (v8 + 1)) fun S10 =>
            some S10
          )
          : Option (SS)) fun q6 =>
        lt (w32 (l5 + 1)) fun x13 =>
        fX12_noRing_L157 l2 l4 n x13 q6
      ) else (
        some S
      )
    )
def fX12_noRing_L145 (l2 : Int) : Nat → Int → SS → Option (SS)
  | 0, _, _ => none
  | n + 1, l4, S =>
    Option.bind (fX12_stands  S) fun q1 =>
    if q1 ≤ l4 then (
      some S
    ) else (
      Option.bind (fX12_noRing_L157 l2 l4 FU 0 S) fun q2 =>
      lt (w32 (l4 + 1)) fun x4 =>
      fX12_noRing_L145 l2 n x4 q2
    )
def fX12_noRing_L279 (l2 : Int) (l3 : Int) (l4 : Int) : Nat → Int → SS → Option (SS)
  | 0, _, _ => none
  | n + 1, l5, S =>
    rdA S 131 3303 2 fun v1 =>
    if v1 ≤ l5 then (
      some S
    ) else (
      Option.bind (fX12_lawTo l4 l5 l2 S) fun q3 =>
      Option.bind (
        if q3 = ((-1)) then (
          some S
        ) else (
          Option.bind (fX12_lawTo l4 l5 l2 S) fun q5 =>
          rdA S 145 120 q5 fun v6 =>
          wrA S 145 120 q5 (w32 (v6 - 1)) fun S8 =>
          some S8
        )
        : Option (SS)) fun q4 =>
      lt (w32 (l5 + 1)) fun x11 =>
      fX12_noRing_L279 l2 l3 l4 n x11 q4
    )
def fX12_noRing_L232 (l2 : Int) : Nat → Int → Int → SS → Option (Int × SS)
  | 0, _, _, _ => none
  | n + 1, l3, l4, S =>
    Option.bind (fX12_stands  S) fun q1 =>
    if q1 ≤ l4 then (
      some (l3, S)
    ) else (
      rdA S 140 120 l4 fun v2 =>
      Option.bind (
        if v2 = 0 then (
          rdA S 145 120 l4 fun v5 =>
          if v5 ≤ 0 then (
            wrA S 140 120 l4 268435456 fun S7 =>
            Option.bind (fX12_noRing_L279 l2 1 l4 FU 0 S7) fun q9 =>
            some (1, q9)
          ) else (
            some (l3, S)
          )
        ) else (
          some (l3, S)
        )
        : Option (Int × SS)) fun q4 =>
      lt (w32 (l4 + 1)) fun x13 =>
      fX12_noRing_L232 l2 n q4.1 x13 q4.2
    )
def fX12_noRing_L223 (l2 : Int) : Nat → Int → SS → Option (SS)
  | 0, _, _ => none
  | n + 1, l3, S =>
    if l3 = 0 then (
      some S
    ) else (
      Option.bind (fX12_noRing_L232 l2 FU 0 0 S) fun q1 =>
      fX12_noRing_L223 l2 n q1.1 q1.2
    )
def fX12_noRing_L339 (S : SS) : Nat → Int → Option (Nat)
  | 0, _ => none
  | n + 1, l4 =>
    Option.bind (fX12_stands  S) fun q1 =>
    if q1 ≤ l4 then (
      some 1
    ) else (
      rdA S 140 120 l4 fun v2 =>
      if v2 = 0 then (
        some 0
      ) else (
        lt (w32 (l4 + 1)) fun x4 =>
        fX12_noRing_L339 S n x4
      )
    )
def fX12_noRing (p1 : Int) (p2 : Int) (S : SS) : Option (Bool × SS) :=
  Option.bind (fX12_noRing_L2 p1 p2 FU 0 S) fun q1 =>
  Option.bind (fX12_noRing_L45 p2 FU 1 q1) fun q3 =>
  Option.bind (fX12_noRing_L145 p2 FU 0 q3) fun q5 =>
  Option.bind (fX12_noRing_L223 p2 FU 1 q5) fun q7 =>
  Option.bind (fX12_noRing_L339 q7 FU 0) fun q9 =>
  if q9 = 0 then (
    some (false, q7)
  ) else (
    some (true, q7)
  )
set_option maxRecDepth 100000 in
set_option maxHeartbeats 4000000 in
theorem lX12_noRing_L2 {G : GG} {Φ : Option VV → MM → Prop} {l1 : Int} {l2 : Int} : ∀ (n : Nat) (l3 : Int) (S : SS) (q : SS), fX12_noRing_L2 l1 l2 n l3 S = some q → At G mX12_noRing 3 43 [(0, vr 130), (2, vi l2)] [] (mm q) 0 0 Φ → At G mX12_noRing 3 2 [(0, vr 130), (1, vi l1), (2, vi l2), (3, vi l3)] [] (mm S) 0 0 Φ := by
  intro n
  induction n with
  | zero =>
    intro _ _ _ h
    cases h
  | succ n ih =>
    intro l3 S q h K43
    unfold fX12_noRing_L2 at h
    rcases ite_e h with ⟨c9, h⟩ | ⟨c9, h⟩
    · refine At.iloadn dX12_noRing_2 rfl <| At.bipush dX12_noRing_3 (by decide) <| At.icmp_ge_t (tgt := 43) dX12_noRing_5 (by decide) c9 <| ?_
      obtain rfl := Option.some.inj h
      exact At.sub [0, 2] rfl K43
    · refine At.iloadn dX12_noRing_2 rfl <| At.bipush dX12_noRing_3 (by decide) <| At.icmp_ge_f (tgt := 43) dX12_noRing_5 (by decide) c9 <| ?_
      refine At.aloadn dX12_noRing_8 rfl <| At.getR fl_X12_45 sh_130 (le149 sh_130) rf_130_23 dX12_noRing_9 <| At.iloadn dX12_noRing_12 rfl <| At.iloadn dX12_noRing_13 rfl <| At.aloadn dX12_noRing_14 rfl <| At.iloadn dX12_noRing_15 rfl <| ?_
      obtain ⟨q1, hq1, h⟩ := bnd_e h
      obtain ⟨q2, hj29, h⟩ := bnd_e h
      have K29 : At G mX12_noRing 3 29 [(0, vr 130), (1, vi l1), (2, vi l2), (3, vi l3)] [vi q2, vi l3, vr 140] (mm S) 0 0 Φ := by
        obtain ⟨S4, hS4, g5, h⟩ := wrA_e h
        refine At.iast sh_140 (le149 sh_140) g5.1 g5.2 dX12_noRing_29 <| At.nmS hS4 <| At.aloadn dX12_noRing_30 rfl <| At.getR fl_X12_61 sh_130 (le149 sh_130) rf_130_28 dX12_noRing_31 <| At.iloadn dX12_noRing_34 rfl <| At.iconst dX12_noRing_35 (by decide) <| ?_
        obtain ⟨S6, hS6, g7, h⟩ := wrA_e h
        refine At.iast sh_145 (le149 sh_145) g7.1 g7.2 dX12_noRing_36 <| At.nmS hS6 <| ?_
        obtain ⟨x8, hx8, h⟩ := lt_e h
        refine At.iinc (ls' := [(3, vi x8), (0, vr 130), (1, vi l1), (2, vi l2)]) dX12_noRing_37 rfl (by decide) (by rw [hx8]; rfl) <| At.goto (tgt := 2) dX12_noRing_40 (by decide) <| ?_
        exact At.sub [1, 2, 3, 0] rfl (ih _ _ _ h K43)
      clear h; have h := hj29; clear hj29
      rcases ite_e h with ⟨c3, h⟩ | ⟨c3, h⟩
      · refine At.cV1 (av := [vi l1]) (rest := [vi l3, vi l3, vr 140]) mv_X12_standOf lk_X12_239 dX12_noRing_16 rfl rfl sh_130 (Nat.le_of_ble_eq_true rfl) (by decide) ⟨rfl, rfl⟩ (rX12_standOf hq1) <| At.icmp_ne_f (tgt := 26) dX12_noRing_19 (by decide) c3 <| ?_
        refine At.iconst dX12_noRing_22 (by decide) <| At.goto (tgt := 29) dX12_noRing_23 (by decide) <| ?_
        obtain rfl := Option.some.inj h
        exact At.sub [0, 1, 2, 3] rfl K29
      · refine At.cV1 (av := [vi l1]) (rest := [vi l3, vi l3, vr 140]) mv_X12_standOf lk_X12_239 dX12_noRing_16 rfl rfl sh_130 (Nat.le_of_ble_eq_true rfl) (by decide) ⟨rfl, rfl⟩ (rX12_standOf hq1) <| At.icmp_ne_t (tgt := 26) dX12_noRing_19 (by decide) c3 <| ?_
        refine At.ldcw dX12_noRing_26 ki_X12_328 (by decide) <| ?_
        obtain rfl := Option.some.inj h
        exact At.sub [0, 1, 2, 3] rfl K29
set_option maxRecDepth 100000 in
set_option maxHeartbeats 4000000 in
theorem lX12_noRing_L66 {G : GG} {Φ : Option VV → MM → Prop} {l2 : Int} {l4 : Int} : ∀ (n : Nat) (l3 : Int) (l5 : Int) (S : SS) (q : Int × SS), fX12_noRing_L66 l2 l4 n l3 l5 S = some q → At G mX12_noRing 3 133 [(0, vr 130), (2, vi l2), (3, vi q.1), (4, vi l4)] [] (mm q.2) 0 0 Φ → At G mX12_noRing 3 66 [(0, vr 130), (2, vi l2), (3, vi l3), (4, vi l4), (5, vi l5)] [] (mm S) 0 0 Φ := by
  intro n
  induction n with
  | zero =>
    intro _ _ _ _ h
    cases h
  | succ n ih =>
    intro l3 l5 S q h K133
    unfold fX12_noRing_L66 at h
    refine At.iload dX12_noRing_66 rfl <| At.aloadn dX12_noRing_68 rfl <| At.getR fl_X12_13 sh_130 (le149 sh_130) rf_130_1 dX12_noRing_69 <| At.iconst dX12_noRing_72 (by decide) <| ?_
    obtain ⟨v1, hv1, g2, h⟩ := rdA_e h
    rcases ite_e h with ⟨c15, h⟩ | ⟨c15, h⟩
    · refine At.iald sh_131 (le149 sh_131) g2.1 g2.2 dX12_noRing_73 <| At.nm hv1 <| At.icmp_ge_t (tgt := 133) dX12_noRing_74 (by decide) c15 <| ?_
      obtain rfl := Option.some.inj h
      exact At.sub [0, 1, 2, 3] rfl K133
    · refine At.iald sh_131 (le149 sh_131) g2.1 g2.2 dX12_noRing_73 <| At.nm hv1 <| At.icmp_ge_f (tgt := 133) dX12_noRing_74 (by decide) c15 <| ?_
      refine At.aloadn dX12_noRing_77 rfl <| At.getR fl_X12_45 sh_130 (le149 sh_130) rf_130_23 dX12_noRing_78 <| At.iload dX12_noRing_81 rfl <| ?_
      obtain ⟨v3, hv3, g4, h⟩ := rdA_e h
      rcases ite_e h with ⟨c14, h⟩ | ⟨c14, h⟩
      · refine At.iald sh_140 (le149 sh_140) g4.1 g4.2 dX12_noRing_83 <| At.nm hv3 <| At.if_ne_f (tgt := 133) dX12_noRing_84 (by decide) c14 <| ?_
        refine At.aloadn dX12_noRing_87 rfl <| At.iload dX12_noRing_88 rfl <| At.iload dX12_noRing_90 rfl <| At.iloadn dX12_noRing_92 rfl <| ?_
        obtain ⟨q5, hq5, h⟩ := bnd_e h
        obtain ⟨q6, hj127, h⟩ := bnd_e h
        have K127 : At G mX12_noRing 3 127 [(0, vr 130), (2, vi l2), (3, vi q6.1), (4, vi l4), (5, vi l5)] [] (mm q6.2) 0 0 Φ := by
          obtain ⟨x13, hx13, h⟩ := lt_e h
          refine At.iinc (ls' := [(5, vi x13), (0, vr 130), (2, vi l2), (3, vi q6.1), (4, vi l4)]) dX12_noRing_127 rfl (by decide) (by rw [hx13]; rfl) <| At.goto (tgt := 66) dX12_noRing_130 (by decide) <| ?_
          exact At.sub [1, 2, 3, 4, 0] rfl (ih _ _ _ _ h K133)
        clear h; have h := hj127; clear hj127
        rcases ite_e h with ⟨c12, h⟩ | ⟨c12, h⟩
        · refine At.cV1 (av := [vi l4, vi l5, vi l2]) (rest := []) mv_X12_lawTo lk_X12_381 dX12_noRing_93 rfl rfl sh_130 (Nat.le_of_ble_eq_true rfl) (by decide) ⟨rfl, rfl⟩ (rX12_lawTo hq5) <| At.istore (ls' := [(6, vi q5), (0, vr 130), (2, vi l2), (3, vi l3), (4, vi l4), (5, vi l5)]) dX12_noRing_96 (by decide) rfl <| At.iload dX12_noRing_98 rfl <| At.iconst dX12_noRing_100 (by decide) <| At.icmp_eq_t (tgt := 127) dX12_noRing_101 (by decide) c12 <| ?_
          obtain rfl := Option.some.inj h
          exact At.sub [1, 2, 3, 4, 5] rfl K127
        · refine At.cV1 (av := [vi l4, vi l5, vi l2]) (rest := []) mv_X12_lawTo lk_X12_381 dX12_noRing_93 rfl rfl sh_130 (Nat.le_of_ble_eq_true rfl) (by decide) ⟨rfl, rfl⟩ (rX12_lawTo hq5) <| At.istore (ls' := [(6, vi q5), (0, vr 130), (2, vi l2), (3, vi l3), (4, vi l4), (5, vi l5)]) dX12_noRing_96 (by decide) rfl <| At.iload dX12_noRing_98 rfl <| At.iconst dX12_noRing_100 (by decide) <| At.icmp_eq_f (tgt := 127) dX12_noRing_101 (by decide) c12 <| ?_
          refine At.aloadn dX12_noRing_104 rfl <| At.getR fl_X12_45 sh_130 (le149 sh_130) rf_130_23 dX12_noRing_105 <| At.iload dX12_noRing_108 rfl <| ?_
          obtain ⟨v7, hv7, g8, h⟩ := rdA_e h
          rcases ite_e h with ⟨c11, h⟩ | ⟨c11, h⟩
          · refine At.iald sh_140 (le149 sh_140) g8.1 g8.2 dX12_noRing_110 <| At.nm hv7 <| At.if_ne_f (tgt := 117) dX12_noRing_111 (by decide) c11 <| ?_
            refine At.goto (tgt := 127) dX12_noRing_114 (by decide) <| ?_
            obtain rfl := Option.some.inj h
            exact At.sub [1, 2, 3, 4, 5] rfl K127
          · refine At.iald sh_140 (le149 sh_140) g8.1 g8.2 dX12_noRing_110 <| At.nm hv7 <| At.if_ne_t (tgt := 117) dX12_noRing_111 (by decide) c11 <| ?_
            refine At.aloadn dX12_noRing_117 rfl <| At.getR fl_X12_45 sh_130 (le149 sh_130) rf_130_23 dX12_noRing_118 <| At.iload dX12_noRing_121 rfl <| At.iconst dX12_noRing_123 (by decide) <| ?_
            obtain ⟨S9, hS9, g10, h⟩ := wrA_e h
            refine At.iast sh_140 (le149 sh_140) g10.1 g10.2 dX12_noRing_124 <| At.nmS hS9 <| At.iconst dX12_noRing_125 (by decide) <| At.istoren (ls' := [(3, vi 1), (6, vi q5), (0, vr 130), (2, vi l2), (4, vi l4), (5, vi l5)]) dX12_noRing_126 (by decide) rfl <| ?_
            obtain rfl := Option.some.inj h
            exact At.sub [2, 3, 0, 4, 5] rfl K127
      · refine At.iald sh_140 (le149 sh_140) g4.1 g4.2 dX12_noRing_83 <| At.nm hv3 <| At.if_ne_t (tgt := 133) dX12_noRing_84 (by decide) c14 <| ?_
        obtain rfl := Option.some.inj h
        exact At.sub [0, 1, 2, 3] rfl K133
set_option maxRecDepth 100000 in
set_option maxHeartbeats 4000000 in
theorem lX12_noRing_L54 {G : GG} {Φ : Option VV → MM → Prop} {l2 : Int} : ∀ (n : Nat) (l3 : Int) (l4 : Int) (S : SS) (q : Int × SS), fX12_noRing_L54 l2 n l3 l4 S = some q → At G mX12_noRing 3 139 [(0, vr 130), (2, vi l2), (3, vi q.1)] [] (mm q.2) 0 0 Φ → At G mX12_noRing 3 54 [(0, vr 130), (2, vi l2), (3, vi l3), (4, vi l4)] [] (mm S) 0 0 Φ := by
  intro n
  induction n with
  | zero =>
    intro _ _ _ _ h
    cases h
  | succ n ih =>
    intro l3 l4 S q h K139
    unfold fX12_noRing_L54 at h
    refine At.iload dX12_noRing_54 rfl <| At.aloadn dX12_noRing_56 rfl <| ?_
    obtain ⟨q1, hq1, h⟩ := bnd_e h
    rcases ite_e h with ⟨c5, h⟩ | ⟨c5, h⟩
    · refine At.cV1 (av := []) (rest := [vi l4]) mv_X12_stands lk_X12_329 dX12_noRing_57 rfl rfl sh_130 (Nat.le_of_ble_eq_true rfl) (by decide) ⟨rfl, rfl⟩ (rX12_stands hq1) <| At.icmp_ge_t (tgt := 139) dX12_noRing_60 (by decide) c5 <| ?_
      obtain rfl := Option.some.inj h
      exact At.sub [0, 1, 2] rfl K139
    · refine At.cV1 (av := []) (rest := [vi l4]) mv_X12_stands lk_X12_329 dX12_noRing_57 rfl rfl sh_130 (Nat.le_of_ble_eq_true rfl) (by decide) ⟨rfl, rfl⟩ (rX12_stands hq1) <| At.icmp_ge_f (tgt := 139) dX12_noRing_60 (by decide) c5 <| ?_
      refine At.iconst dX12_noRing_63 (by decide) <| At.istore (ls' := [(5, vi 0), (0, vr 130), (2, vi l2), (3, vi l3), (4, vi l4)]) dX12_noRing_64 (by decide) rfl <| ?_
      obtain ⟨q2, ho3, h⟩ := bnd_e h
      refine At.sub [1, 2, 3, 4, 0] rfl (lX12_noRing_L66 FU _ _ _ q2 ho3 ?_)
      obtain ⟨x4, hx4, h⟩ := lt_e h
      refine At.iinc (ls' := [(4, vi x4), (0, vr 130), (2, vi l2), (3, vi q2.1)]) dX12_noRing_133 rfl (by decide) (by rw [hx4]; rfl) <| At.goto (tgt := 54) dX12_noRing_136 (by decide) <| ?_
      exact At.sub [1, 2, 3, 0] rfl (ih _ _ _ _ h K139)
set_option maxRecDepth 100000 in
set_option maxHeartbeats 4000000 in
theorem lX12_noRing_L45 {G : GG} {Φ : Option VV → MM → Prop} {l2 : Int} : ∀ (n : Nat) (l3 : Int) (S : SS) (q : SS), fX12_noRing_L45 l2 n l3 S = some q → At G mX12_noRing 3 142 [(0, vr 130), (2, vi l2)] [] (mm q) 0 0 Φ → At G mX12_noRing 3 45 [(0, vr 130), (2, vi l2), (3, vi l3)] [] (mm S) 0 0 Φ := by
  intro n
  induction n with
  | zero =>
    intro _ _ _ h
    cases h
  | succ n ih =>
    intro l3 S q h K142
    unfold fX12_noRing_L45 at h
    rcases ite_e h with ⟨c3, h⟩ | ⟨c3, h⟩
    · refine At.iloadn dX12_noRing_45 rfl <| At.if_eq_t (tgt := 142) dX12_noRing_46 (by decide) c3 <| ?_
      obtain rfl := Option.some.inj h
      exact At.sub [0, 1] rfl K142
    · refine At.iloadn dX12_noRing_45 rfl <| At.if_eq_f (tgt := 142) dX12_noRing_46 (by decide) c3 <| ?_
      refine At.iconst dX12_noRing_49 (by decide) <| At.istoren (ls' := [(3, vi 0), (0, vr 130), (2, vi l2)]) dX12_noRing_50 (by decide) rfl <| At.iconst dX12_noRing_51 (by decide) <| At.istore (ls' := [(4, vi 0), (3, vi 0), (0, vr 130), (2, vi l2)]) dX12_noRing_52 (by decide) rfl <| ?_
      obtain ⟨q1, ho2, h⟩ := bnd_e h
      refine At.sub [2, 3, 1, 0] rfl (lX12_noRing_L54 FU _ _ _ q1 ho2 ?_)
      refine At.goto (tgt := 45) dX12_noRing_139 (by decide) <| ?_
      exact At.sub [0, 1, 2] rfl (ih _ _ _ h K142)
set_option maxRecDepth 100000 in
set_option maxHeartbeats 4000000 in
theorem lX12_noRing_L157 {G : GG} {Φ : Option VV → MM → Prop} {l2 : Int} {l4 : Int} : ∀ (n : Nat) (l5 : Int) (S : SS) (q : SS), fX12_noRing_L157 l2 l4 n l5 S = some q → At G mX12_noRing 3 215 [(0, vr 130), (2, vi l2), (4, vi l4)] [] (mm q) 0 0 Φ → At G mX12_noRing 3 157 [(0, vr 130), (2, vi l2), (4, vi l4), (5, vi l5)] [] (mm S) 0 0 Φ := by
  intro n
  induction n with
  | zero =>
    intro _ _ _ h
    cases h
  | succ n ih =>
    intro l5 S q h K215
    unfold fX12_noRing_L157 at h
    refine At.iload dX12_noRing_157 rfl <| At.aloadn dX12_noRing_159 rfl <| At.getR fl_X12_13 sh_130 (le149 sh_130) rf_130_1 dX12_noRing_160 <| At.iconst dX12_noRing_163 (by decide) <| ?_
    obtain ⟨v1, hv1, g2, h⟩ := rdA_e h
    rcases ite_e h with ⟨c15, h⟩ | ⟨c15, h⟩
    · refine At.iald sh_131 (le149 sh_131) g2.1 g2.2 dX12_noRing_164 <| At.nm hv1 <| At.icmp_ge_t (tgt := 215) dX12_noRing_165 (by decide) c15 <| ?_
      obtain rfl := Option.some.inj h
      exact At.sub [0, 1, 2] rfl K215
    · refine At.iald sh_131 (le149 sh_131) g2.1 g2.2 dX12_noRing_164 <| At.nm hv1 <| At.icmp_ge_f (tgt := 215) dX12_noRing_165 (by decide) c15 <| ?_
      refine At.aloadn dX12_noRing_168 rfl <| At.getR fl_X12_45 sh_130 (le149 sh_130) rf_130_23 dX12_noRing_169 <| At.iload dX12_noRing_172 rfl <| ?_
      obtain ⟨v3, hv3, g4, h⟩ := rdA_e h
      rcases ite_e h with ⟨c14, h⟩ | ⟨c14, h⟩
      · refine At.iald sh_140 (le149 sh_140) g4.1 g4.2 dX12_noRing_174 <| At.nm hv3 <| At.if_ne_f (tgt := 215) dX12_noRing_175 (by decide) c14 <| ?_
        refine At.aloadn dX12_noRing_178 rfl <| At.iload dX12_noRing_179 rfl <| At.iload dX12_noRing_181 rfl <| At.iloadn dX12_noRing_183 rfl <| ?_
        obtain ⟨q5, hq5, h⟩ := bnd_e h
        obtain ⟨q6, hj209, h⟩ := bnd_e h
        have K209 : At G mX12_noRing 3 209 [(0, vr 130), (2, vi l2), (4, vi l4), (5, vi l5)] [] (mm q6) 0 0 Φ := by
          obtain ⟨x13, hx13, h⟩ := lt_e h
          refine At.iinc (ls' := [(5, vi x13), (0, vr 130), (2, vi l2), (4, vi l4)]) dX12_noRing_209 rfl (by decide) (by rw [hx13]; rfl) <| At.goto (tgt := 157) dX12_noRing_212 (by decide) <| ?_
          exact At.sub [1, 2, 3, 0] rfl (ih _ _ _ h K215)
        clear h; have h := hj209; clear hj209
        rcases ite_e h with ⟨c12, h⟩ | ⟨c12, h⟩
        · refine At.cV1 (av := [vi l4, vi l5, vi l2]) (rest := []) mv_X12_lawTo lk_X12_381 dX12_noRing_184 rfl rfl sh_130 (Nat.le_of_ble_eq_true rfl) (by decide) ⟨rfl, rfl⟩ (rX12_lawTo hq5) <| At.iconst dX12_noRing_187 (by decide) <| At.icmp_eq_t (tgt := 209) dX12_noRing_188 (by decide) c12 <| ?_
          obtain rfl := Option.some.inj h
          exact At.sub [0, 1, 2, 3] rfl K209
        · refine At.cV1 (av := [vi l4, vi l5, vi l2]) (rest := []) mv_X12_lawTo lk_X12_381 dX12_noRing_184 rfl rfl sh_130 (Nat.le_of_ble_eq_true rfl) (by decide) ⟨rfl, rfl⟩ (rX12_lawTo hq5) <| At.iconst dX12_noRing_187 (by decide) <| At.icmp_eq_f (tgt := 209) dX12_noRing_188 (by decide) c12 <| ?_
          refine At.aloadn dX12_noRing_191 rfl <| At.getR fl_X12_61 sh_130 (le149 sh_130) rf_130_28 dX12_noRing_192 <| At.aloadn dX12_noRing_195 rfl <| At.iload dX12_noRing_196 rfl <| At.iload dX12_noRing_198 rfl <| At.iloadn dX12_noRing_200 rfl <| ?_
          obtain ⟨q7, hq7, h⟩ := bnd_e h
          refine At.cV1 (av := [vi l4, vi l5, vi l2]) (rest := [vr 145]) mv_X12_lawTo lk_X12_381 dX12_noRing_201 rfl rfl sh_130 (Nat.le_of_ble_eq_true rfl) (by decide) ⟨rfl, rfl⟩ (rX12_lawTo hq7) <| At.dup2 rfl rfl dX12_noRing_204 <| ?_
          obtain ⟨v8, hv8, g9, h⟩ := rdA_e h
          refine At.iald sh_145 (le149 sh_145) g9.1 g9.2 dX12_noRing_205 <| At.nm hv8 <| At.iconst dX12_noRing_206 (by decide) <| At.iadd dX12_noRing_207 <| ?_
          obtain ⟨S10, hS10, g11, h⟩ := wrA_e h
          refine At.iast sh_145 (le149 sh_145) g11.1 g11.2 dX12_noRing_208 <| At.nmS hS10 <| ?_
          obtain rfl := Option.some.inj h
          exact At.sub [0, 1, 2, 3] rfl K209
      · refine At.iald sh_140 (le149 sh_140) g4.1 g4.2 dX12_noRing_174 <| At.nm hv3 <| At.if_ne_t (tgt := 215) dX12_noRing_175 (by decide) c14 <| ?_
        obtain rfl := Option.some.inj h
        exact At.sub [0, 1, 2] rfl K215
set_option maxRecDepth 100000 in
set_option maxHeartbeats 4000000 in
theorem lX12_noRing_L145 {G : GG} {Φ : Option VV → MM → Prop} {l2 : Int} : ∀ (n : Nat) (l4 : Int) (S : SS) (q : SS), fX12_noRing_L145 l2 n l4 S = some q → At G mX12_noRing 3 221 [(0, vr 130), (2, vi l2)] [] (mm q) 0 0 Φ → At G mX12_noRing 3 145 [(0, vr 130), (2, vi l2), (4, vi l4)] [] (mm S) 0 0 Φ := by
  intro n
  induction n with
  | zero =>
    intro _ _ _ h
    cases h
  | succ n ih =>
    intro l4 S q h K221
    unfold fX12_noRing_L145 at h
    refine At.iload dX12_noRing_145 rfl <| At.aloadn dX12_noRing_147 rfl <| ?_
    obtain ⟨q1, hq1, h⟩ := bnd_e h
    rcases ite_e h with ⟨c5, h⟩ | ⟨c5, h⟩
    · refine At.cV1 (av := []) (rest := [vi l4]) mv_X12_stands lk_X12_329 dX12_noRing_148 rfl rfl sh_130 (Nat.le_of_ble_eq_true rfl) (by decide) ⟨rfl, rfl⟩ (rX12_stands hq1) <| At.icmp_ge_t (tgt := 221) dX12_noRing_151 (by decide) c5 <| ?_
      obtain rfl := Option.some.inj h
      exact At.sub [0, 1] rfl K221
    · refine At.cV1 (av := []) (rest := [vi l4]) mv_X12_stands lk_X12_329 dX12_noRing_148 rfl rfl sh_130 (Nat.le_of_ble_eq_true rfl) (by decide) ⟨rfl, rfl⟩ (rX12_stands hq1) <| At.icmp_ge_f (tgt := 221) dX12_noRing_151 (by decide) c5 <| ?_
      refine At.iconst dX12_noRing_154 (by decide) <| At.istore (ls' := [(5, vi 0), (0, vr 130), (2, vi l2), (4, vi l4)]) dX12_noRing_155 (by decide) rfl <| ?_
      obtain ⟨q2, ho3, h⟩ := bnd_e h
      refine At.sub [1, 2, 3, 0] rfl (lX12_noRing_L157 FU _ _ q2 ho3 ?_)
      obtain ⟨x4, hx4, h⟩ := lt_e h
      refine At.iinc (ls' := [(4, vi x4), (0, vr 130), (2, vi l2)]) dX12_noRing_215 rfl (by decide) (by rw [hx4]; rfl) <| At.goto (tgt := 145) dX12_noRing_218 (by decide) <| ?_
      exact At.sub [1, 2, 0] rfl (ih _ _ _ h K221)
set_option maxRecDepth 100000 in
set_option maxHeartbeats 4000000 in
theorem lX12_noRing_L279 {G : GG} {Φ : Option VV → MM → Prop} {l2 : Int} {l3 : Int} {l4 : Int} : ∀ (n : Nat) (l5 : Int) (S : SS) (q : SS), fX12_noRing_L279 l2 l3 l4 n l5 S = some q → At G mX12_noRing 3 327 [(0, vr 130), (2, vi l2), (3, vi l3), (4, vi l4)] [] (mm q) 0 0 Φ → At G mX12_noRing 3 279 [(0, vr 130), (2, vi l2), (3, vi l3), (4, vi l4), (5, vi l5)] [] (mm S) 0 0 Φ := by
  intro n
  induction n with
  | zero =>
    intro _ _ _ h
    cases h
  | succ n ih =>
    intro l5 S q h K327
    unfold fX12_noRing_L279 at h
    refine At.iload dX12_noRing_279 rfl <| At.aloadn dX12_noRing_281 rfl <| At.getR fl_X12_13 sh_130 (le149 sh_130) rf_130_1 dX12_noRing_282 <| At.iconst dX12_noRing_285 (by decide) <| ?_
    obtain ⟨v1, hv1, g2, h⟩ := rdA_e h
    rcases ite_e h with ⟨c12, h⟩ | ⟨c12, h⟩
    · refine At.iald sh_131 (le149 sh_131) g2.1 g2.2 dX12_noRing_286 <| At.nm hv1 <| At.icmp_ge_t (tgt := 327) dX12_noRing_287 (by decide) c12 <| ?_
      obtain rfl := Option.some.inj h
      exact At.sub [0, 1, 2, 3] rfl K327
    · refine At.iald sh_131 (le149 sh_131) g2.1 g2.2 dX12_noRing_286 <| At.nm hv1 <| At.icmp_ge_f (tgt := 327) dX12_noRing_287 (by decide) c12 <| ?_
      refine At.aloadn dX12_noRing_290 rfl <| At.iload dX12_noRing_291 rfl <| At.iload dX12_noRing_293 rfl <| At.iloadn dX12_noRing_295 rfl <| ?_
      obtain ⟨q3, hq3, h⟩ := bnd_e h
      obtain ⟨q4, hj321, h⟩ := bnd_e h
      have K321 : At G mX12_noRing 3 321 [(0, vr 130), (2, vi l2), (3, vi l3), (4, vi l4), (5, vi l5)] [] (mm q4) 0 0 Φ := by
        obtain ⟨x11, hx11, h⟩ := lt_e h
        refine At.iinc (ls' := [(5, vi x11), (0, vr 130), (2, vi l2), (3, vi l3), (4, vi l4)]) dX12_noRing_321 rfl (by decide) (by rw [hx11]; rfl) <| At.goto (tgt := 279) dX12_noRing_324 (by decide) <| ?_
        exact At.sub [1, 2, 3, 4, 0] rfl (ih _ _ _ h K327)
      clear h; have h := hj321; clear hj321
      rcases ite_e h with ⟨c10, h⟩ | ⟨c10, h⟩
      · refine At.cV1 (av := [vi l4, vi l5, vi l2]) (rest := []) mv_X12_lawTo lk_X12_381 dX12_noRing_296 rfl rfl sh_130 (Nat.le_of_ble_eq_true rfl) (by decide) ⟨rfl, rfl⟩ (rX12_lawTo hq3) <| At.iconst dX12_noRing_299 (by decide) <| At.icmp_eq_t (tgt := 321) dX12_noRing_300 (by decide) c10 <| ?_
        obtain rfl := Option.some.inj h
        exact At.sub [0, 1, 2, 3, 4] rfl K321
      · refine At.cV1 (av := [vi l4, vi l5, vi l2]) (rest := []) mv_X12_lawTo lk_X12_381 dX12_noRing_296 rfl rfl sh_130 (Nat.le_of_ble_eq_true rfl) (by decide) ⟨rfl, rfl⟩ (rX12_lawTo hq3) <| At.iconst dX12_noRing_299 (by decide) <| At.icmp_eq_f (tgt := 321) dX12_noRing_300 (by decide) c10 <| ?_
        refine At.aloadn dX12_noRing_303 rfl <| At.getR fl_X12_61 sh_130 (le149 sh_130) rf_130_28 dX12_noRing_304 <| At.aloadn dX12_noRing_307 rfl <| At.iload dX12_noRing_308 rfl <| At.iload dX12_noRing_310 rfl <| At.iloadn dX12_noRing_312 rfl <| ?_
        obtain ⟨q5, hq5, h⟩ := bnd_e h
        refine At.cV1 (av := [vi l4, vi l5, vi l2]) (rest := [vr 145]) mv_X12_lawTo lk_X12_381 dX12_noRing_313 rfl rfl sh_130 (Nat.le_of_ble_eq_true rfl) (by decide) ⟨rfl, rfl⟩ (rX12_lawTo hq5) <| At.dup2 rfl rfl dX12_noRing_316 <| ?_
        obtain ⟨v6, hv6, g7, h⟩ := rdA_e h
        refine At.iald sh_145 (le149 sh_145) g7.1 g7.2 dX12_noRing_317 <| At.nm hv6 <| At.iconst dX12_noRing_318 (by decide) <| At.isub dX12_noRing_319 <| ?_
        obtain ⟨S8, hS8, g9, h⟩ := wrA_e h
        refine At.iast sh_145 (le149 sh_145) g9.1 g9.2 dX12_noRing_320 <| At.nmS hS8 <| ?_
        obtain rfl := Option.some.inj h
        exact At.sub [0, 1, 2, 3, 4] rfl K321
set_option maxRecDepth 100000 in
set_option maxHeartbeats 4000000 in
theorem lX12_noRing_L232 {G : GG} {Φ : Option VV → MM → Prop} {l2 : Int} : ∀ (n : Nat) (l3 : Int) (l4 : Int) (S : SS) (q : Int × SS), fX12_noRing_L232 l2 n l3 l4 S = some q → At G mX12_noRing 3 333 [(0, vr 130), (2, vi l2), (3, vi q.1)] [] (mm q.2) 0 0 Φ → At G mX12_noRing 3 232 [(0, vr 130), (2, vi l2), (3, vi l3), (4, vi l4)] [] (mm S) 0 0 Φ := by
  intro n
  induction n with
  | zero =>
    intro _ _ _ _ h
    cases h
  | succ n ih =>
    intro l3 l4 S q h K333
    unfold fX12_noRing_L232 at h
    refine At.iload dX12_noRing_232 rfl <| At.aloadn dX12_noRing_234 rfl <| ?_
    obtain ⟨q1, hq1, h⟩ := bnd_e h
    rcases ite_e h with ⟨c14, h⟩ | ⟨c14, h⟩
    · refine At.cV1 (av := []) (rest := [vi l4]) mv_X12_stands lk_X12_329 dX12_noRing_235 rfl rfl sh_130 (Nat.le_of_ble_eq_true rfl) (by decide) ⟨rfl, rfl⟩ (rX12_stands hq1) <| At.icmp_ge_t (tgt := 333) dX12_noRing_238 (by decide) c14 <| ?_
      obtain rfl := Option.some.inj h
      exact At.sub [0, 1, 2] rfl K333
    · refine At.cV1 (av := []) (rest := [vi l4]) mv_X12_stands lk_X12_329 dX12_noRing_235 rfl rfl sh_130 (Nat.le_of_ble_eq_true rfl) (by decide) ⟨rfl, rfl⟩ (rX12_stands hq1) <| At.icmp_ge_f (tgt := 333) dX12_noRing_238 (by decide) c14 <| ?_
      refine At.aloadn dX12_noRing_241 rfl <| At.getR fl_X12_45 sh_130 (le149 sh_130) rf_130_23 dX12_noRing_242 <| At.iload dX12_noRing_245 rfl <| ?_
      obtain ⟨v2, hv2, g3, h⟩ := rdA_e h
      obtain ⟨q4, hj327, h⟩ := bnd_e h
      have K327 : At G mX12_noRing 3 327 [(0, vr 130), (2, vi l2), (3, vi q4.1), (4, vi l4)] [] (mm q4.2) 0 0 Φ := by
        obtain ⟨x13, hx13, h⟩ := lt_e h
        refine At.iinc (ls' := [(4, vi x13), (0, vr 130), (2, vi l2), (3, vi q4.1)]) dX12_noRing_327 rfl (by decide) (by rw [hx13]; rfl) <| At.goto (tgt := 232) dX12_noRing_330 (by decide) <| ?_
        exact At.sub [1, 2, 3, 0] rfl (ih _ _ _ _ h K333)
      clear h; have h := hj327; clear hj327
      rcases ite_e h with ⟨c12, h⟩ | ⟨c12, h⟩
      · refine At.iald sh_140 (le149 sh_140) g3.1 g3.2 dX12_noRing_247 <| At.nm hv2 <| At.if_ne_f (tgt := 327) dX12_noRing_248 (by decide) c12 <| ?_
        refine At.aloadn dX12_noRing_251 rfl <| At.getR fl_X12_61 sh_130 (le149 sh_130) rf_130_28 dX12_noRing_252 <| At.iload dX12_noRing_255 rfl <| ?_
        obtain ⟨v5, hv5, g6, h⟩ := rdA_e h
        rcases ite_e h with ⟨c11, h⟩ | ⟨c11, h⟩
        · refine At.iald sh_145 (le149 sh_145) g6.1 g6.2 dX12_noRing_257 <| At.nm hv5 <| At.if_le_t (tgt := 264) dX12_noRing_258 (by decide) c11 <| ?_
          refine At.aloadn dX12_noRing_264 rfl <| At.getR fl_X12_45 sh_130 (le149 sh_130) rf_130_23 dX12_noRing_265 <| At.iload dX12_noRing_268 rfl <| At.ldcw dX12_noRing_270 ki_X12_328 (by decide) <| ?_
          obtain ⟨S7, hS7, g8, h⟩ := wrA_e h
          refine At.iast sh_140 (le149 sh_140) g8.1 g8.2 dX12_noRing_273 <| At.nmS hS7 <| At.iconst dX12_noRing_274 (by decide) <| At.istoren (ls' := [(3, vi 1), (0, vr 130), (2, vi l2), (4, vi l4)]) dX12_noRing_275 (by decide) rfl <| At.iconst dX12_noRing_276 (by decide) <| At.istore (ls' := [(5, vi 0), (3, vi 1), (0, vr 130), (2, vi l2), (4, vi l4)]) dX12_noRing_277 (by decide) rfl <| ?_
          obtain ⟨q9, ho10, h⟩ := bnd_e h
          refine At.sub [2, 3, 1, 4, 0] rfl (lX12_noRing_L279 FU _ _ q9 ho10 ?_)
          obtain rfl := Option.some.inj h
          exact At.sub [0, 1, 2, 3] rfl K327
        · refine At.iald sh_145 (le149 sh_145) g6.1 g6.2 dX12_noRing_257 <| At.nm hv5 <| At.if_le_f (tgt := 264) dX12_noRing_258 (by decide) c11 <| ?_
          refine At.goto (tgt := 327) dX12_noRing_261 (by decide) <| ?_
          obtain rfl := Option.some.inj h
          exact At.sub [0, 1, 2, 3] rfl K327
      · refine At.iald sh_140 (le149 sh_140) g3.1 g3.2 dX12_noRing_247 <| At.nm hv2 <| At.if_ne_t (tgt := 327) dX12_noRing_248 (by decide) c12 <| ?_
        obtain rfl := Option.some.inj h
        exact At.sub [0, 1, 2, 3] rfl K327
set_option maxRecDepth 100000 in
set_option maxHeartbeats 4000000 in
theorem lX12_noRing_L223 {G : GG} {Φ : Option VV → MM → Prop} {l2 : Int} : ∀ (n : Nat) (l3 : Int) (S : SS) (q : SS), fX12_noRing_L223 l2 n l3 S = some q → At G mX12_noRing 3 336 [(0, vr 130)] [] (mm q) 0 0 Φ → At G mX12_noRing 3 223 [(0, vr 130), (2, vi l2), (3, vi l3)] [] (mm S) 0 0 Φ := by
  intro n
  induction n with
  | zero =>
    intro _ _ _ h
    cases h
  | succ n ih =>
    intro l3 S q h K336
    unfold fX12_noRing_L223 at h
    rcases ite_e h with ⟨c3, h⟩ | ⟨c3, h⟩
    · refine At.iloadn dX12_noRing_223 rfl <| At.if_eq_t (tgt := 336) dX12_noRing_224 (by decide) c3 <| ?_
      obtain rfl := Option.some.inj h
      exact At.sub [0] rfl K336
    · refine At.iloadn dX12_noRing_223 rfl <| At.if_eq_f (tgt := 336) dX12_noRing_224 (by decide) c3 <| ?_
      refine At.iconst dX12_noRing_227 (by decide) <| At.istoren (ls' := [(3, vi 0), (0, vr 130), (2, vi l2)]) dX12_noRing_228 (by decide) rfl <| At.iconst dX12_noRing_229 (by decide) <| At.istore (ls' := [(4, vi 0), (3, vi 0), (0, vr 130), (2, vi l2)]) dX12_noRing_230 (by decide) rfl <| ?_
      obtain ⟨q1, ho2, h⟩ := bnd_e h
      refine At.sub [2, 3, 1, 0] rfl (lX12_noRing_L232 FU _ _ _ q1 ho2 ?_)
      refine At.goto (tgt := 223) dX12_noRing_333 (by decide) <| ?_
      exact At.sub [0, 1, 2] rfl (ih _ _ _ h K336)
set_option maxRecDepth 100000 in
set_option maxHeartbeats 4000000 in
theorem lX12_noRing_L339 {G : GG} {Φ : Option VV → MM → Prop} {S : SS} : ∀ (n : Nat) (l4 : Int) (q : Nat), fX12_noRing_L339 S n l4 = some q → (q = 0 → At G mX12_noRing 3 358 [] [] (mm S) 0 0 Φ) → (q = 1 → At G mX12_noRing 3 366 [] [] (mm S) 0 0 Φ) → At G mX12_noRing 3 339 [(0, vr 130), (4, vi l4)] [] (mm S) 0 0 Φ := by
  intro n
  induction n with
  | zero =>
    intro _ _ h
    cases h
  | succ n ih =>
    intro l4 q h K358 K366
    unfold fX12_noRing_L339 at h
    refine At.iload dX12_noRing_339 rfl <| At.aloadn dX12_noRing_341 rfl <| ?_
    obtain ⟨q1, hq1, h⟩ := bnd_e h
    rcases ite_e h with ⟨c6, h⟩ | ⟨c6, h⟩
    · refine At.cV1 (av := []) (rest := [vi l4]) mv_X12_stands lk_X12_329 dX12_noRing_342 rfl rfl sh_130 (Nat.le_of_ble_eq_true rfl) (by decide) ⟨rfl, rfl⟩ (rX12_stands hq1) <| At.icmp_ge_t (tgt := 366) dX12_noRing_345 (by decide) c6 <| ?_
      obtain rfl := Option.some.inj h
      exact At.sub [] rfl (K366 rfl)
    · refine At.cV1 (av := []) (rest := [vi l4]) mv_X12_stands lk_X12_329 dX12_noRing_342 rfl rfl sh_130 (Nat.le_of_ble_eq_true rfl) (by decide) ⟨rfl, rfl⟩ (rX12_stands hq1) <| At.icmp_ge_f (tgt := 366) dX12_noRing_345 (by decide) c6 <| ?_
      refine At.aloadn dX12_noRing_348 rfl <| At.getR fl_X12_45 sh_130 (le149 sh_130) rf_130_23 dX12_noRing_349 <| At.iload dX12_noRing_352 rfl <| ?_
      obtain ⟨v2, hv2, g3, h⟩ := rdA_e h
      rcases ite_e h with ⟨c5, h⟩ | ⟨c5, h⟩
      · refine At.iald sh_140 (le149 sh_140) g3.1 g3.2 dX12_noRing_354 <| At.nm hv2 <| At.if_ne_f (tgt := 360) dX12_noRing_355 (by decide) c5 <| ?_
        obtain rfl := Option.some.inj h
        exact At.sub [] rfl (K358 rfl)
      · refine At.iald sh_140 (le149 sh_140) g3.1 g3.2 dX12_noRing_354 <| At.nm hv2 <| At.if_ne_t (tgt := 360) dX12_noRing_355 (by decide) c5 <| ?_
        obtain ⟨x4, hx4, h⟩ := lt_e h
        refine At.iinc (ls' := [(4, vi x4), (0, vr 130)]) dX12_noRing_360 rfl (by decide) (by rw [hx4]; rfl) <| At.goto (tgt := 339) dX12_noRing_363 (by decide) <| ?_
        exact At.sub [1, 0] rfl (ih _ _ h K358 K366)
set_option maxRecDepth 100000 in
set_option maxHeartbeats 4000000 in
theorem rX12_noRing {G : GG} {p1 : Int} {p2 : Int} {S : SS} {rr : (Bool × SS)} (h : fX12_noRing p1 p2 S = some rr) : RD G mX12_noRing 3 [vr 130, vi p1, vi p2] S (some (vi (bI rr.1))) rr.2 := by
  unfold fX12_noRing at h
  refine Runs.of pl_X12 (Nat.le_of_ble_eq_true rfl) ?_
  show At G mX12_noRing 3 0 [(0, vr 130), (1, vi p1), (2, vi p2)] [] (mm S) 0 0 (EQ (some (vi (bI rr.1))) rr.2)
  refine At.iconst dX12_noRing_0 (by decide) <| At.istoren (ls' := [(3, vi 0), (0, vr 130), (1, vi p1), (2, vi p2)]) dX12_noRing_1 (by decide) rfl <| ?_
  obtain ⟨q1, ho2, h⟩ := bnd_e h
  refine At.sub [1, 2, 3, 0] rfl (lX12_noRing_L2 FU _ _ q1 ho2 ?_)
  refine At.iconst dX12_noRing_43 (by decide) <| At.istoren (ls' := [(3, vi 1), (0, vr 130), (2, vi p2)]) dX12_noRing_44 (by decide) rfl <| ?_
  obtain ⟨q3, ho4, h⟩ := bnd_e h
  refine At.sub [1, 2, 0] rfl (lX12_noRing_L45 FU _ _ q3 ho4 ?_)
  refine At.iconst dX12_noRing_142 (by decide) <| At.istore (ls' := [(4, vi 0), (0, vr 130), (2, vi p2)]) dX12_noRing_143 (by decide) rfl <| ?_
  obtain ⟨q5, ho6, h⟩ := bnd_e h
  refine At.sub [1, 2, 0] rfl (lX12_noRing_L145 FU _ _ q5 ho6 ?_)
  refine At.iconst dX12_noRing_221 (by decide) <| At.istoren (ls' := [(3, vi 1), (0, vr 130), (2, vi p2)]) dX12_noRing_222 (by decide) rfl <| ?_
  obtain ⟨q7, ho8, h⟩ := bnd_e h
  refine At.sub [1, 2, 0] rfl (lX12_noRing_L223 FU _ _ q7 ho8 ?_)
  refine At.iconst dX12_noRing_336 (by decide) <| At.istore (ls' := [(4, vi 0), (0, vr 130)]) dX12_noRing_337 (by decide) rfl <| ?_
  obtain ⟨q9, ho10, h⟩ := bnd_e h
  refine At.sub [1, 0] rfl (lX12_noRing_L339 FU _ q9 ho10 (fun hq => ?_) (fun hq => ?_))
  · rw [if_pos hq] at h
    refine At.iconst dX12_noRing_358 (by decide) <| ?_
    obtain rfl := Option.some.inj h
    exact At.zret (b := false) rfl (Nat.zero_le _) (Nat.zero_le _) ⟨rfl, rfl⟩ dX12_noRing_359
  · rw [if_neg (by omega)] at h
    refine At.iconst dX12_noRing_366 (by decide) <| ?_
    obtain rfl := Option.some.inj h
    exact At.zret (b := true) rfl (Nat.zero_le _) (Nat.zero_le _) ⟨rfl, rfl⟩ dX12_noRing_367
def fX12_isByLaw (p1 : Int) (p2 : Int) (S : SS) : Option (Bool × SS) :=
  Option.bind (fX12_shutNow  S) fun q1 =>
  if (jand p2 q1) = 0 then (
    Option.bind (fX12_noRing p1 p2 S) fun q2 =>
    if q2.1 = true then (
      some (true, q2.2)
    ) else (
      some (false, q2.2)
    )
  ) else (
    some (false, S)
  )
set_option maxRecDepth 100000 in
set_option maxHeartbeats 4000000 in
theorem rX12_isByLaw {G : GG} {p1 : Int} {p2 : Int} {S : SS} {rr : (Bool × SS)} (h : fX12_isByLaw p1 p2 S = some rr) : RD G mX12_isByLaw 4 [vr 130, vi p1, vi p2] S (some (vi (bI rr.1))) rr.2 := by
  unfold fX12_isByLaw at h
  refine Runs.of pl_X12 (Nat.le_of_ble_eq_true rfl) ?_
  show At G mX12_isByLaw 4 0 [(0, vr 130), (1, vi p1), (2, vi p2)] [] (mm S) 0 0 (EQ (some (vi (bI rr.1))) rr.2)
  refine At.iloadn dX12_isByLaw_0 rfl <| At.aloadn dX12_isByLaw_1 rfl <| ?_
  obtain ⟨q1, hq1, h⟩ := bnd_e h
  rcases ite_e h with ⟨c4, h⟩ | ⟨c4, h⟩
  · refine At.cV1 (av := []) (rest := [vi p2]) mv_X12_shutNow lk_X12_384 dX12_isByLaw_2 rfl rfl sh_130 (Nat.le_of_ble_eq_true rfl) (by decide) ⟨rfl, rfl⟩ (rX12_shutNow hq1) <| At.iand dX12_isByLaw_5 <| At.if_ne_f (tgt := 22) dX12_isByLaw_6 (by decide) c4 <| ?_
    refine At.aloadn dX12_isByLaw_9 rfl <| At.iloadn dX12_isByLaw_10 rfl <| At.iloadn dX12_isByLaw_11 rfl <| ?_
    obtain ⟨q2, hq2, h⟩ := bnd_e h
    rcases ite_e h with ⟨c3, h⟩ | ⟨c3, h⟩
    · refine At.cV1 (av := [vi p1, vi p2]) (rest := []) mv_X12_noRing lk_X12_387 dX12_isByLaw_12 rfl rfl sh_130 (Nat.le_of_ble_eq_true rfl) (by decide) ⟨rfl, rfl⟩ (rX12_noRing hq2) <| At.bifeq_f (tgt := 22) dX12_isByLaw_15 (by decide) c3 <| ?_
      refine At.iconst dX12_isByLaw_18 (by decide) <| At.goto (tgt := 23) dX12_isByLaw_19 (by decide) <| ?_
      obtain rfl := Option.some.inj h
      exact At.zret (b := true) rfl (Nat.zero_le _) (Nat.zero_le _) ⟨rfl, rfl⟩ dX12_isByLaw_23
    · refine At.cV1 (av := [vi p1, vi p2]) (rest := []) mv_X12_noRing lk_X12_387 dX12_isByLaw_12 rfl rfl sh_130 (Nat.le_of_ble_eq_true rfl) (by decide) ⟨rfl, rfl⟩ (rX12_noRing hq2) <| At.bifeq_t (tgt := 22) dX12_isByLaw_15 (by decide) c3 <| ?_
      refine At.iconst dX12_isByLaw_22 (by decide) <| ?_
      obtain rfl := Option.some.inj h
      exact At.zret (b := false) rfl (Nat.zero_le _) (Nat.zero_le _) ⟨rfl, rfl⟩ dX12_isByLaw_23
  · refine At.cV1 (av := []) (rest := [vi p2]) mv_X12_shutNow lk_X12_384 dX12_isByLaw_2 rfl rfl sh_130 (Nat.le_of_ble_eq_true rfl) (by decide) ⟨rfl, rfl⟩ (rX12_shutNow hq1) <| At.iand dX12_isByLaw_5 <| At.if_ne_t (tgt := 22) dX12_isByLaw_6 (by decide) c4 <| ?_
    refine At.iconst dX12_isByLaw_22 (by decide) <| ?_
    obtain rfl := Option.some.inj h
    exact At.zret (b := false) rfl (Nat.zero_le _) (Nat.zero_le _) ⟨rfl, rfl⟩ dX12_isByLaw_23
def fX12_laws_L26 (l1 : Int) : Nat → Int → Int → SS → Option (Int × SS)
  | 0, _, _, _ => none
  | n + 1, l2, l3, S =>
    rdA S 131 3303 2 fun v1 =>
    if (jshl 1 v1) ≤ l3 then (
      some (l2, S)
    ) else (
      Option.bind (fX12_isByLaw l1 l3 S) fun q3 =>
      Option.bind (
        if q3.1 = true then (
          some 1
        ) else (
          some 0
        )
        : Option (Int)) fun q4 =>
      lt (w32 (l2 + q4)) fun x6 =>
      lt (w32 (l3 + 1)) fun x7 =>
      fX12_laws_L26 l1 n x6 x7 q3.2
    )
def fX12_laws (p1 : Int) (S : SS) : Option (Int × SS) :=
  lt (up S 130 0 0) fun S1 =>
  Option.bind (fX12_isGoer p1 S1) fun q2 =>
  if q2 = true then (
    Option.bind (fX12_laysBoth p1 S1) fun q3 =>
    Option.bind (fX12_laws_L26 p1 FU 0 0 q3) fun q4 =>
    some (q4.1, q4.2)
  ) else (
    some ((-2), S1)
  )
set_option maxRecDepth 100000 in
set_option maxHeartbeats 4000000 in
theorem lX12_laws_L26 {G : GG} {Φ : Option VV → MM → Prop} {l1 : Int} : ∀ (n : Nat) (l2 : Int) (l3 : Int) (S : SS) (q : Int × SS), fX12_laws_L26 l1 n l2 l3 S = some q → At G mX12_laws 6 61 [(2, vi q.1)] [] (mm q.2) 0 0 Φ → At G mX12_laws 6 26 [(0, vr 130), (1, vi l1), (2, vi l2), (3, vi l3)] [] (mm S) 0 0 Φ := by
  intro n
  induction n with
  | zero =>
    intro _ _ _ _ h
    cases h
  | succ n ih =>
    intro l2 l3 S q h K61
    unfold fX12_laws_L26 at h
    refine At.iloadn dX12_laws_26 rfl <| At.iconst dX12_laws_27 (by decide) <| At.aloadn dX12_laws_28 rfl <| At.getR fl_X12_13 sh_130 (le149 sh_130) rf_130_1 dX12_laws_29 <| At.iconst dX12_laws_32 (by decide) <| ?_
    obtain ⟨v1, hv1, g2, h⟩ := rdA_e h
    rcases ite_e h with ⟨c8, h⟩ | ⟨c8, h⟩
    · refine At.iald sh_131 (le149 sh_131) g2.1 g2.2 dX12_laws_33 <| At.nm hv1 <| At.ishl dX12_laws_34 <| At.icmp_ge_t (tgt := 61) dX12_laws_35 (by decide) c8 <| ?_
      obtain rfl := Option.some.inj h
      exact At.sub [2] rfl K61
    · refine At.iald sh_131 (le149 sh_131) g2.1 g2.2 dX12_laws_33 <| At.nm hv1 <| At.ishl dX12_laws_34 <| At.icmp_ge_f (tgt := 61) dX12_laws_35 (by decide) c8 <| ?_
      refine At.iloadn dX12_laws_38 rfl <| At.aloadn dX12_laws_39 rfl <| At.iloadn dX12_laws_40 rfl <| At.iloadn dX12_laws_41 rfl <| ?_
      obtain ⟨q3, hq3, h⟩ := bnd_e h
      obtain ⟨q4, hj53, h⟩ := bnd_e h
      have K53 : At G mX12_laws 6 53 [(0, vr 130), (1, vi l1), (3, vi l3)] [vi q4, vi l2] (mm q3.2) 0 0 Φ := by
        refine At.iadd dX12_laws_53 <| ?_
        obtain ⟨x6, hx6, h⟩ := lt_e h
        refine At.nm hx6 <| At.istoren (ls' := [(2, vi x6), (0, vr 130), (1, vi l1), (3, vi l3)]) dX12_laws_54 (by decide) rfl <| ?_
        obtain ⟨x7, hx7, h⟩ := lt_e h
        refine At.iinc (ls' := [(3, vi x7), (2, vi x6), (0, vr 130), (1, vi l1)]) dX12_laws_55 rfl (by decide) (by rw [hx7]; rfl) <| At.goto (tgt := 26) dX12_laws_58 (by decide) <| ?_
        exact At.sub [2, 3, 1, 0] rfl (ih _ _ _ _ h K61)
      clear h; have h := hj53; clear hj53
      rcases ite_e h with ⟨c5, h⟩ | ⟨c5, h⟩
      · refine At.cV1 (av := [vi l1, vi l3]) (rest := [vi l2]) mv_X12_isByLaw lk_X12_393 dX12_laws_42 rfl rfl sh_130 (Nat.le_of_ble_eq_true rfl) (by decide) ⟨rfl, rfl⟩ (rX12_isByLaw hq3) <| At.bifeq_f (tgt := 52) dX12_laws_45 (by decide) c5 <| ?_
        refine At.iconst dX12_laws_48 (by decide) <| At.goto (tgt := 53) dX12_laws_49 (by decide) <| ?_
        obtain rfl := Option.some.inj h
        exact At.sub [0, 1, 3] rfl K53
      · refine At.cV1 (av := [vi l1, vi l3]) (rest := [vi l2]) mv_X12_isByLaw lk_X12_393 dX12_laws_42 rfl rfl sh_130 (Nat.le_of_ble_eq_true rfl) (by decide) ⟨rfl, rfl⟩ (rX12_isByLaw hq3) <| At.bifeq_t (tgt := 52) dX12_laws_45 (by decide) c5 <| ?_
        refine At.iconst dX12_laws_52 (by decide) <| ?_
        obtain rfl := Option.some.inj h
        exact At.sub [0, 1, 3] rfl K53
set_option maxRecDepth 100000 in
set_option maxHeartbeats 4000000 in
theorem rX12_laws {G : GG} {p1 : Int} {S : SS} {rr : (Int × SS)} (h : fX12_laws p1 S = some rr) : RD G mX12_laws 6 [vr 130, vi p1] S (some (vi rr.1)) rr.2 := by
  unfold fX12_laws at h
  refine Runs.of pl_X12 (Nat.le_of_ble_eq_true rfl) ?_
  show At G mX12_laws 6 0 [(0, vr 130), (1, vi p1)] [] (mm S) 0 0 (EQ (some (vi rr.1)) rr.2)
  refine At.aloadn dX12_laws_0 rfl <| At.iconst dX12_laws_1 (by decide) <| ?_
  obtain ⟨S1, hS1, h⟩ := lt_e h
  refine At.putI fw_X12_1 sh_130 (le149 sh_130) dX12_laws_2 <| At.nmS hS1 <| At.aloadn dX12_laws_5 rfl <| At.iloadn dX12_laws_6 rfl <| At.i2l dX12_laws_7 <| ?_
  obtain ⟨q2, hq2, h⟩ := bnd_e h
  rcases ite_e h with ⟨c6, h⟩ | ⟨c6, h⟩
  · refine At.cV1 (av := [vl p1]) (rest := []) mv_X12_isGoer lk_X12_233 dX12_laws_8 rfl rfl sh_130 (Nat.le_of_ble_eq_true rfl) (by decide) ⟨rfl, rfl⟩ (rX12_isGoer hq2) <| At.bifne_t (tgt := 17) dX12_laws_11 (by decide) c6 <| ?_
    refine At.aloadn dX12_laws_17 rfl <| At.iloadn dX12_laws_18 rfl <| ?_
    obtain ⟨q3, hq3, h⟩ := bnd_e h
    refine At.cV0 (av := [vi p1]) (rest := []) mv_X12_laysBoth lk_X12_390 dX12_laws_19 rfl rfl sh_130 (Nat.le_of_ble_eq_true rfl) (by decide) ⟨rfl, rfl⟩ (rX12_laysBoth hq3) <| At.iconst dX12_laws_22 (by decide) <| At.istoren (ls' := [(2, vi 0), (0, vr 130), (1, vi p1)]) dX12_laws_23 (by decide) rfl <| At.iconst dX12_laws_24 (by decide) <| At.istoren (ls' := [(3, vi 0), (2, vi 0), (0, vr 130), (1, vi p1)]) dX12_laws_25 (by decide) rfl <| ?_
    obtain ⟨q4, ho5, h⟩ := bnd_e h
    refine At.sub [2, 3, 1, 0] rfl (lX12_laws_L26 FU _ _ _ q4 ho5 ?_)
    refine At.iloadn dX12_laws_61 rfl <| ?_
    obtain rfl := Option.some.inj h
    exact At.iret rfl (Nat.zero_le _) (Nat.zero_le _) ⟨rfl, rfl⟩ dX12_laws_62
  · refine At.cV1 (av := [vl p1]) (rest := []) mv_X12_isGoer lk_X12_233 dX12_laws_8 rfl rfl sh_130 (Nat.le_of_ble_eq_true rfl) (by decide) ⟨rfl, rfl⟩ (rX12_isGoer hq2) <| At.bifne_f (tgt := 17) dX12_laws_11 (by decide) c6 <| ?_
    refine At.bipush dX12_laws_14 (by decide) <| ?_
    obtain rfl := Option.some.inj h
    exact At.iret rfl (Nat.zero_le _) (Nat.zero_le _) ⟨rfl, rfl⟩ dX12_laws_16
def fX12_othersBy_L4 (l1 : Int) (S : SS) : Nat → Int → Int → Option (Int)
  | 0, _, _ => none
  | n + 1, l2, l3 =>
    rdA S 131 3303 2 fun v1 =>
    if v1 ≤ l3 then (
      some l2
    ) else (
      rdA S 131 3303 (w32 (40 + l3)) fun v3 =>
      Option.bind (
        if v3 = 3 then (
          some 0
        ) else (
          rdA S 131 3303 (w32 (40 + l3)) fun v6 =>
          if v6 = (jand (jshr l1 l3) 1) then (
            some 0
          ) else (
            some 1
          )
        )
        : Option (Int)) fun q5 =>
      lt (w32 (l2 + q5)) fun x10 =>
      lt (w32 (l3 + 1)) fun x11 =>
      fX12_othersBy_L4 l1 S n x10 x11
    )
def fX12_othersBy (p1 : Int) (S : SS) : Option Int :=
  Option.bind (fX12_othersBy_L4 p1 S FU 0 0) fun q1 =>
  some q1
set_option maxRecDepth 100000 in
set_option maxHeartbeats 4000000 in
theorem lX12_othersBy_L4 {G : GG} {Φ : Option VV → MM → Prop} {l1 : Int} {S : SS} : ∀ (n : Nat) (l2 : Int) (l3 : Int) (q : Int), fX12_othersBy_L4 l1 S n l2 l3 = some q → At G mX12_othersBy 1 58 [(2, vi q)] [] (mm S) 0 0 Φ → At G mX12_othersBy 1 4 [(0, vr 130), (1, vi l1), (2, vi l2), (3, vi l3)] [] (mm S) 0 0 Φ := by
  intro n
  induction n with
  | zero =>
    intro _ _ _ h
    cases h
  | succ n ih =>
    intro l2 l3 q h K58
    unfold fX12_othersBy_L4 at h
    refine At.iloadn dX12_othersBy_4 rfl <| At.aloadn dX12_othersBy_5 rfl <| At.getR fl_X12_13 sh_130 (le149 sh_130) rf_130_1 dX12_othersBy_6 <| At.iconst dX12_othersBy_9 (by decide) <| ?_
    obtain ⟨v1, hv1, g2, h⟩ := rdA_e h
    rcases ite_e h with ⟨c12, h⟩ | ⟨c12, h⟩
    · refine At.iald sh_131 (le149 sh_131) g2.1 g2.2 dX12_othersBy_10 <| At.nm hv1 <| At.icmp_ge_t (tgt := 58) dX12_othersBy_11 (by decide) c12 <| ?_
      obtain rfl := Option.some.inj h
      exact At.sub [2] rfl K58
    · refine At.iald sh_131 (le149 sh_131) g2.1 g2.2 dX12_othersBy_10 <| At.nm hv1 <| At.icmp_ge_f (tgt := 58) dX12_othersBy_11 (by decide) c12 <| ?_
      refine At.iloadn dX12_othersBy_14 rfl <| At.aloadn dX12_othersBy_15 rfl <| At.getR fl_X12_13 sh_130 (le149 sh_130) rf_130_1 dX12_othersBy_16 <| At.bipush dX12_othersBy_19 (by decide) <| At.iloadn dX12_othersBy_21 rfl <| At.iadd dX12_othersBy_22 <| ?_
      obtain ⟨v3, hv3, g4, h⟩ := rdA_e h
      obtain ⟨q5, hj50, h⟩ := bnd_e h
      have K50 : At G mX12_othersBy 1 50 [(0, vr 130), (1, vi l1), (3, vi l3)] [vi q5, vi l2] (mm S) 0 0 Φ := by
        refine At.iadd dX12_othersBy_50 <| ?_
        obtain ⟨x10, hx10, h⟩ := lt_e h
        refine At.nm hx10 <| At.istoren (ls' := [(2, vi x10), (0, vr 130), (1, vi l1), (3, vi l3)]) dX12_othersBy_51 (by decide) rfl <| ?_
        obtain ⟨x11, hx11, h⟩ := lt_e h
        refine At.iinc (ls' := [(3, vi x11), (2, vi x10), (0, vr 130), (1, vi l1)]) dX12_othersBy_52 rfl (by decide) (by rw [hx11]; rfl) <| At.goto (tgt := 4) dX12_othersBy_55 (by decide) <| ?_
        exact At.sub [2, 3, 1, 0] rfl (ih _ _ _ h K58)
      clear h; have h := hj50; clear hj50
      rcases ite_e h with ⟨c9, h⟩ | ⟨c9, h⟩
      · refine At.iald sh_131 (le149 sh_131) g4.1 g4.2 dX12_othersBy_23 <| At.nm hv3 <| At.iconst dX12_othersBy_24 (by decide) <| At.icmp_eq_t (tgt := 49) dX12_othersBy_25 (by decide) c9 <| ?_
        refine At.iconst dX12_othersBy_49 (by decide) <| ?_
        obtain rfl := Option.some.inj h
        exact At.sub [0, 1, 3] rfl K50
      · refine At.iald sh_131 (le149 sh_131) g4.1 g4.2 dX12_othersBy_23 <| At.nm hv3 <| At.iconst dX12_othersBy_24 (by decide) <| At.icmp_eq_f (tgt := 49) dX12_othersBy_25 (by decide) c9 <| ?_
        refine At.aloadn dX12_othersBy_28 rfl <| At.getR fl_X12_13 sh_130 (le149 sh_130) rf_130_1 dX12_othersBy_29 <| At.bipush dX12_othersBy_32 (by decide) <| At.iloadn dX12_othersBy_34 rfl <| At.iadd dX12_othersBy_35 <| ?_
        obtain ⟨v6, hv6, g7, h⟩ := rdA_e h
        rcases ite_e h with ⟨c8, h⟩ | ⟨c8, h⟩
        · refine At.iald sh_131 (le149 sh_131) g7.1 g7.2 dX12_othersBy_36 <| At.nm hv6 <| At.iloadn dX12_othersBy_37 rfl <| At.iloadn dX12_othersBy_38 rfl <| At.ishr dX12_othersBy_39 <| At.iconst dX12_othersBy_40 (by decide) <| At.iand dX12_othersBy_41 <| At.icmp_eq_t (tgt := 49) dX12_othersBy_42 (by decide) c8 <| ?_
          refine At.iconst dX12_othersBy_49 (by decide) <| ?_
          obtain rfl := Option.some.inj h
          exact At.sub [0, 1, 3] rfl K50
        · refine At.iald sh_131 (le149 sh_131) g7.1 g7.2 dX12_othersBy_36 <| At.nm hv6 <| At.iloadn dX12_othersBy_37 rfl <| At.iloadn dX12_othersBy_38 rfl <| At.ishr dX12_othersBy_39 <| At.iconst dX12_othersBy_40 (by decide) <| At.iand dX12_othersBy_41 <| At.icmp_eq_f (tgt := 49) dX12_othersBy_42 (by decide) c8 <| ?_
          refine At.iconst dX12_othersBy_45 (by decide) <| At.goto (tgt := 50) dX12_othersBy_46 (by decide) <| ?_
          obtain rfl := Option.some.inj h
          exact At.sub [0, 1, 3] rfl K50
set_option maxRecDepth 100000 in
set_option maxHeartbeats 4000000 in
theorem rX12_othersBy {G : GG} {p1 : Int} {S : SS} {rr : Int} (h : fX12_othersBy p1 S = some rr) : RD G mX12_othersBy 1 [vr 130, vi p1] S (some (vi rr)) S := by
  unfold fX12_othersBy at h
  refine Runs.of pl_X12 (Nat.le_of_ble_eq_true rfl) ?_
  show At G mX12_othersBy 1 0 [(0, vr 130), (1, vi p1)] [] (mm S) 0 0 (EQ (some (vi rr)) S)
  refine At.iconst dX12_othersBy_0 (by decide) <| At.istoren (ls' := [(2, vi 0), (0, vr 130), (1, vi p1)]) dX12_othersBy_1 (by decide) rfl <| At.iconst dX12_othersBy_2 (by decide) <| At.istoren (ls' := [(3, vi 0), (2, vi 0), (0, vr 130), (1, vi p1)]) dX12_othersBy_3 (by decide) rfl <| ?_
  obtain ⟨q1, ho2, h⟩ := bnd_e h
  refine At.sub [2, 3, 1, 0] rfl (lX12_othersBy_L4 FU _ _ q1 ho2 ?_)
  refine At.iloadn dX12_othersBy_58 rfl <| ?_
  obtain rfl := Option.some.inj h
  exact At.iret rfl (Nat.zero_le _) (Nat.zero_le _) ⟨rfl, rfl⟩ dX12_othersBy_59
def fX12_bylaw_L37 (l1 : Int) (l2 : Int) : Nat → Int → Int → SS → Option (Int × SS)
  | 0, _, _, _ => none
  | n + 1, l3, l4, S =>
    rdA S 131 3303 2 fun v1 =>
    if (jshl 1 v1) ≤ l4 then (
      some (l3, S)
    ) else (
      Option.bind (
        if l3 = ((-1)) then (
          Option.bind (fX12_isByLaw l1 l4 S) fun q4 =>
          if q4.1 = true then (
            some (l4, q4.2)
          ) else (
            some (l3, q4.2)
          )
        ) else (
          Option.bind (fX12_othersBy l4 S) fun q6 =>
          Option.bind (fX12_othersBy l3 S) fun q7 =>
          if q7 ≤ q6 then (
            some (l3, S)
          ) else (
            Option.bind (fX12_isByLaw l1 l4 S) fun q8 =>
            if q8.1 = true then (
              some (l4, q8.2)
            ) else (
              some (l3, q8.2)
            )
          )
        )
        : Option (Int × SS)) fun q3 =>
      lt (w32 (l4 + 1)) fun x12 =>
      fX12_bylaw_L37 l1 l2 n q3.1 x12 q3.2
    )
def fX12_bylaw (p1 : Int) (p2 : Int) (S : SS) : Option (Int × SS) :=
  lt (up S 130 0 0) fun S1 =>
  Option.bind (fX12_isGoer p1 S1) fun q2 =>
  if q2 = true then (
    Option.bind (fX12_within p2 0 1) fun q3 =>
    if q3 = true then (
      Option.bind (fX12_laysBoth p1 S1) fun q4 =>
      lt ((-1)) fun x5 =>
      Option.bind (fX12_bylaw_L37 p1 p2 FU x5 0 q4) fun q6 =>
      if q6.1 = ((-1)) then (
        some (q6.1, q6.2)
      ) else (
        if p2 = 1 then (
          some (q6.1, q6.2)
        ) else (
          Option.bind (fX12_othersBy q6.1 q6.2) fun q8 =>
          some (q8, q6.2)
        )
      )
    ) else (
      some ((-2), S1)
    )
  ) else (
    some ((-2), S1)
  )
set_option maxRecDepth 100000 in
set_option maxHeartbeats 4000000 in
theorem lX12_bylaw_L37 {G : GG} {Φ : Option VV → MM → Prop} {l1 : Int} {l2 : Int} : ∀ (n : Nat) (l3 : Int) (l4 : Int) (S : SS) (q : Int × SS), fX12_bylaw_L37 l1 l2 n l3 l4 S = some q → At G mX12_bylaw 6 88 [(0, vr 130), (2, vi l2), (3, vi q.1)] [] (mm q.2) 0 0 Φ → At G mX12_bylaw 6 37 [(0, vr 130), (1, vi l1), (2, vi l2), (3, vi l3), (4, vi l4)] [] (mm S) 0 0 Φ := by
  intro n
  induction n with
  | zero =>
    intro _ _ _ _ h
    cases h
  | succ n ih =>
    intro l3 l4 S q h K88
    unfold fX12_bylaw_L37 at h
    refine At.iload dX12_bylaw_37 rfl <| At.iconst dX12_bylaw_39 (by decide) <| At.aloadn dX12_bylaw_40 rfl <| At.getR fl_X12_13 sh_130 (le149 sh_130) rf_130_1 dX12_bylaw_41 <| At.iconst dX12_bylaw_44 (by decide) <| ?_
    obtain ⟨v1, hv1, g2, h⟩ := rdA_e h
    rcases ite_e h with ⟨c13, h⟩ | ⟨c13, h⟩
    · refine At.iald sh_131 (le149 sh_131) g2.1 g2.2 dX12_bylaw_45 <| At.nm hv1 <| At.ishl dX12_bylaw_46 <| At.icmp_ge_t (tgt := 88) dX12_bylaw_47 (by decide) c13 <| ?_
      obtain rfl := Option.some.inj h
      exact At.sub [0, 2, 3] rfl K88
    · refine At.iald sh_131 (le149 sh_131) g2.1 g2.2 dX12_bylaw_45 <| At.nm hv1 <| At.ishl dX12_bylaw_46 <| At.icmp_ge_f (tgt := 88) dX12_bylaw_47 (by decide) c13 <| ?_
      obtain ⟨q3, hj82, h⟩ := bnd_e h
      have K82 : At G mX12_bylaw 6 82 [(0, vr 130), (1, vi l1), (2, vi l2), (3, vi q3.1), (4, vi l4)] [] (mm q3.2) 0 0 Φ := by
        obtain ⟨x12, hx12, h⟩ := lt_e h
        refine At.iinc (ls' := [(4, vi x12), (0, vr 130), (1, vi l1), (2, vi l2), (3, vi q3.1)]) dX12_bylaw_82 rfl (by decide) (by rw [hx12]; rfl) <| At.goto (tgt := 37) dX12_bylaw_85 (by decide) <| ?_
        exact At.sub [1, 2, 3, 4, 0] rfl (ih _ _ _ _ h K88)
      clear h; have h := hj82; clear hj82
      rcases ite_e h with ⟨c11, h⟩ | ⟨c11, h⟩
      · refine At.iloadn dX12_bylaw_50 rfl <| At.iconst dX12_bylaw_51 (by decide) <| At.icmp_eq_t (tgt := 69) dX12_bylaw_52 (by decide) c11 <| ?_
        refine At.aloadn dX12_bylaw_69 rfl <| At.iloadn dX12_bylaw_70 rfl <| At.iload dX12_bylaw_71 rfl <| ?_
        obtain ⟨q4, hq4, h⟩ := bnd_e h
        rcases ite_e h with ⟨c5, h⟩ | ⟨c5, h⟩
        · refine At.cV1 (av := [vi l1, vi l4]) (rest := []) mv_X12_isByLaw lk_X12_393 dX12_bylaw_73 rfl rfl sh_130 (Nat.le_of_ble_eq_true rfl) (by decide) ⟨rfl, rfl⟩ (rX12_isByLaw hq4) <| At.bifeq_f (tgt := 82) dX12_bylaw_76 (by decide) c5 <| ?_
          refine At.iload dX12_bylaw_79 rfl <| At.istoren (ls' := [(3, vi l4), (0, vr 130), (1, vi l1), (2, vi l2), (4, vi l4)]) dX12_bylaw_81 (by decide) rfl <| ?_
          obtain rfl := Option.some.inj h
          exact At.sub [1, 2, 3, 0, 4] rfl K82
        · refine At.cV1 (av := [vi l1, vi l4]) (rest := []) mv_X12_isByLaw lk_X12_393 dX12_bylaw_73 rfl rfl sh_130 (Nat.le_of_ble_eq_true rfl) (by decide) ⟨rfl, rfl⟩ (rX12_isByLaw hq4) <| At.bifeq_t (tgt := 82) dX12_bylaw_76 (by decide) c5 <| ?_
          obtain rfl := Option.some.inj h
          exact At.sub [0, 1, 2, 3, 4] rfl K82
      · refine At.iloadn dX12_bylaw_50 rfl <| At.iconst dX12_bylaw_51 (by decide) <| At.icmp_eq_f (tgt := 69) dX12_bylaw_52 (by decide) c11 <| ?_
        refine At.aloadn dX12_bylaw_55 rfl <| At.iload dX12_bylaw_56 rfl <| ?_
        obtain ⟨q6, hq6, h⟩ := bnd_e h
        refine At.cV1 (av := [vi l4]) (rest := []) mv_X12_othersBy lk_X12_396 dX12_bylaw_58 rfl rfl sh_130 (Nat.le_of_ble_eq_true rfl) (by decide) ⟨rfl, rfl⟩ (rX12_othersBy hq6) <| At.aloadn dX12_bylaw_61 rfl <| At.iloadn dX12_bylaw_62 rfl <| ?_
        obtain ⟨q7, hq7, h⟩ := bnd_e h
        rcases ite_e h with ⟨c10, h⟩ | ⟨c10, h⟩
        · refine At.cV1 (av := [vi l3]) (rest := [vi q6]) mv_X12_othersBy lk_X12_396 dX12_bylaw_63 rfl rfl sh_130 (Nat.le_of_ble_eq_true rfl) (by decide) ⟨rfl, rfl⟩ (rX12_othersBy hq7) <| At.icmp_ge_t (tgt := 82) dX12_bylaw_66 (by decide) c10 <| ?_
          obtain rfl := Option.some.inj h
          exact At.sub [0, 1, 2, 3, 4] rfl K82
        · refine At.cV1 (av := [vi l3]) (rest := [vi q6]) mv_X12_othersBy lk_X12_396 dX12_bylaw_63 rfl rfl sh_130 (Nat.le_of_ble_eq_true rfl) (by decide) ⟨rfl, rfl⟩ (rX12_othersBy hq7) <| At.icmp_ge_f (tgt := 82) dX12_bylaw_66 (by decide) c10 <| ?_
          refine At.aloadn dX12_bylaw_69 rfl <| At.iloadn dX12_bylaw_70 rfl <| At.iload dX12_bylaw_71 rfl <| ?_
          obtain ⟨q8, hq8, h⟩ := bnd_e h
          rcases ite_e h with ⟨c9, h⟩ | ⟨c9, h⟩
          · refine At.cV1 (av := [vi l1, vi l4]) (rest := []) mv_X12_isByLaw lk_X12_393 dX12_bylaw_73 rfl rfl sh_130 (Nat.le_of_ble_eq_true rfl) (by decide) ⟨rfl, rfl⟩ (rX12_isByLaw hq8) <| At.bifeq_f (tgt := 82) dX12_bylaw_76 (by decide) c9 <| ?_
            refine At.iload dX12_bylaw_79 rfl <| At.istoren (ls' := [(3, vi l4), (0, vr 130), (1, vi l1), (2, vi l2), (4, vi l4)]) dX12_bylaw_81 (by decide) rfl <| ?_
            obtain rfl := Option.some.inj h
            exact At.sub [1, 2, 3, 0, 4] rfl K82
          · refine At.cV1 (av := [vi l1, vi l4]) (rest := []) mv_X12_isByLaw lk_X12_393 dX12_bylaw_73 rfl rfl sh_130 (Nat.le_of_ble_eq_true rfl) (by decide) ⟨rfl, rfl⟩ (rX12_isByLaw hq8) <| At.bifeq_t (tgt := 82) dX12_bylaw_76 (by decide) c9 <| ?_
            obtain rfl := Option.some.inj h
            exact At.sub [0, 1, 2, 3, 4] rfl K82
set_option maxRecDepth 100000 in
set_option maxHeartbeats 4000000 in
theorem rX12_bylaw {G : GG} {p1 : Int} {p2 : Int} {S : SS} {rr : (Int × SS)} (h : fX12_bylaw p1 p2 S = some rr) : RD G mX12_bylaw 6 [vr 130, vi p1, vi p2] S (some (vi rr.1)) rr.2 := by
  unfold fX12_bylaw at h
  refine Runs.of pl_X12 (Nat.le_of_ble_eq_true rfl) ?_
  show At G mX12_bylaw 6 0 [(0, vr 130), (1, vi p1), (2, vi p2)] [] (mm S) 0 0 (EQ (some (vi rr.1)) rr.2)
  refine At.aloadn dX12_bylaw_0 rfl <| At.iconst dX12_bylaw_1 (by decide) <| ?_
  obtain ⟨S1, hS1, h⟩ := lt_e h
  refine At.putI fw_X12_1 sh_130 (le149 sh_130) dX12_bylaw_2 <| At.nmS hS1 <| At.aloadn dX12_bylaw_5 rfl <| At.iloadn dX12_bylaw_6 rfl <| At.i2l dX12_bylaw_7 <| ?_
  obtain ⟨q2, hq2, h⟩ := bnd_e h
  rcases ite_e h with ⟨c12, h⟩ | ⟨c12, h⟩
  · refine At.cV1 (av := [vl p1]) (rest := []) mv_X12_isGoer lk_X12_233 dX12_bylaw_8 rfl rfl sh_130 (Nat.le_of_ble_eq_true rfl) (by decide) ⟨rfl, rfl⟩ (rX12_isGoer hq2) <| At.bifeq_f (tgt := 24) dX12_bylaw_11 (by decide) c12 <| ?_
    refine At.iloadn dX12_bylaw_14 rfl <| At.i2l dX12_bylaw_15 <| At.lconst0 dX12_bylaw_16 <| At.lconst1 dX12_bylaw_17 <| ?_
    obtain ⟨q3, hq3, h⟩ := bnd_e h
    rcases ite_e h with ⟨c11, h⟩ | ⟨c11, h⟩
    · refine At.cS1 (av := [vl p2, vl 0, vl 1]) (rest := []) ms_X12_within lk_X12_142 dX12_bylaw_18 rfl rfl (Nat.le_of_ble_eq_true rfl) (by decide) ⟨rfl, rfl⟩ (rX12_within hq3) <| At.bifne_t (tgt := 27) dX12_bylaw_21 (by decide) c11 <| ?_
      refine At.aloadn dX12_bylaw_27 rfl <| At.iloadn dX12_bylaw_28 rfl <| ?_
      obtain ⟨q4, hq4, h⟩ := bnd_e h
      refine At.cV0 (av := [vi p1]) (rest := []) mv_X12_laysBoth lk_X12_390 dX12_bylaw_29 rfl rfl sh_130 (Nat.le_of_ble_eq_true rfl) (by decide) ⟨rfl, rfl⟩ (rX12_laysBoth hq4) <| At.iconst dX12_bylaw_32 (by decide) <| ?_
      obtain ⟨x5, hx5, h⟩ := lt_e h
      refine At.nm hx5 <| At.istoren (ls' := [(3, vi x5), (0, vr 130), (1, vi p1), (2, vi p2)]) dX12_bylaw_33 (by decide) rfl <| At.iconst dX12_bylaw_34 (by decide) <| At.istore (ls' := [(4, vi 0), (3, vi x5), (0, vr 130), (1, vi p1), (2, vi p2)]) dX12_bylaw_35 (by decide) rfl <| ?_
      obtain ⟨q6, ho7, h⟩ := bnd_e h
      refine At.sub [2, 3, 4, 1, 0] rfl (lX12_bylaw_L37 FU _ _ _ q6 ho7 ?_)
      rcases ite_e h with ⟨c10, h⟩ | ⟨c10, h⟩
      · refine At.iloadn dX12_bylaw_88 rfl <| At.iconst dX12_bylaw_89 (by decide) <| At.icmp_eq_t (tgt := 98) dX12_bylaw_90 (by decide) c10 <| ?_
        refine At.iloadn dX12_bylaw_98 rfl <| At.goto (tgt := 107) dX12_bylaw_99 (by decide) <| ?_
        obtain rfl := Option.some.inj h
        exact At.iret rfl (Nat.zero_le _) (Nat.zero_le _) ⟨rfl, rfl⟩ dX12_bylaw_107
      · refine At.iloadn dX12_bylaw_88 rfl <| At.iconst dX12_bylaw_89 (by decide) <| At.icmp_eq_f (tgt := 98) dX12_bylaw_90 (by decide) c10 <| ?_
        rcases ite_e h with ⟨c9, h⟩ | ⟨c9, h⟩
        · refine At.iloadn dX12_bylaw_93 rfl <| At.iconst dX12_bylaw_94 (by decide) <| At.icmp_ne_f (tgt := 102) dX12_bylaw_95 (by decide) c9 <| ?_
          refine At.iloadn dX12_bylaw_98 rfl <| At.goto (tgt := 107) dX12_bylaw_99 (by decide) <| ?_
          obtain rfl := Option.some.inj h
          exact At.iret rfl (Nat.zero_le _) (Nat.zero_le _) ⟨rfl, rfl⟩ dX12_bylaw_107
        · refine At.iloadn dX12_bylaw_93 rfl <| At.iconst dX12_bylaw_94 (by decide) <| At.icmp_ne_t (tgt := 102) dX12_bylaw_95 (by decide) c9 <| ?_
          refine At.aloadn dX12_bylaw_102 rfl <| At.iloadn dX12_bylaw_103 rfl <| ?_
          obtain ⟨q8, hq8, h⟩ := bnd_e h
          refine At.cV1 (av := [vi q6.1]) (rest := []) mv_X12_othersBy lk_X12_396 dX12_bylaw_104 rfl rfl sh_130 (Nat.le_of_ble_eq_true rfl) (by decide) ⟨rfl, rfl⟩ (rX12_othersBy hq8) <| ?_
          obtain rfl := Option.some.inj h
          exact At.iret rfl (Nat.zero_le _) (Nat.zero_le _) ⟨rfl, rfl⟩ dX12_bylaw_107
    · refine At.cS1 (av := [vl p2, vl 0, vl 1]) (rest := []) ms_X12_within lk_X12_142 dX12_bylaw_18 rfl rfl (Nat.le_of_ble_eq_true rfl) (by decide) ⟨rfl, rfl⟩ (rX12_within hq3) <| At.bifne_f (tgt := 27) dX12_bylaw_21 (by decide) c11 <| ?_
      refine At.bipush dX12_bylaw_24 (by decide) <| ?_
      obtain rfl := Option.some.inj h
      exact At.iret rfl (Nat.zero_le _) (Nat.zero_le _) ⟨rfl, rfl⟩ dX12_bylaw_26
  · refine At.cV1 (av := [vl p1]) (rest := []) mv_X12_isGoer lk_X12_233 dX12_bylaw_8 rfl rfl sh_130 (Nat.le_of_ble_eq_true rfl) (by decide) ⟨rfl, rfl⟩ (rX12_isGoer hq2) <| At.bifeq_t (tgt := 24) dX12_bylaw_11 (by decide) c12 <| ?_
    refine At.bipush dX12_bylaw_24 (by decide) <| ?_
    obtain rfl := Option.some.inj h
    exact At.iret rfl (Nat.zero_le _) (Nat.zero_le _) ⟨rfl, rfl⟩ dX12_bylaw_26
def fX12_canCome (p1 : Int) (p2 : Int) (p3 : Int) (S : SS) : Option (Bool × SS) :=
  Option.bind (fX12_laysThen p1 p3 S) fun q1 =>
  Option.bind (fX12_standOf p1 q1) fun q2 =>
  Option.bind (fX12_laysGone_120 q2 140 q1) fun q3 =>
  Option.bind (fX12_cornersGone  q3) fun q4 =>
  Option.bind (fX12_isIn q4 p2) fun q5 =>
  some (q5, q3)
set_option maxRecDepth 100000 in
set_option maxHeartbeats 4000000 in
theorem rX12_canCome {G : GG} {p1 : Int} {p2 : Int} {p3 : Int} {S : SS} {rr : (Bool × SS)} (h : fX12_canCome p1 p2 p3 S = some rr) : RD G mX12_canCome 6 [vr 130, vi p1, vi p2, vi p3] S (some (vi (bI rr.1))) rr.2 := by
  unfold fX12_canCome at h
  refine Runs.of pl_X12 (Nat.le_of_ble_eq_true rfl) ?_
  show At G mX12_canCome 6 0 [(0, vr 130), (1, vi p1), (2, vi p2), (3, vi p3)] [] (mm S) 0 0 (EQ (some (vi (bI rr.1))) rr.2)
  refine At.aloadn dX12_canCome_0 rfl <| At.iloadn dX12_canCome_1 rfl <| At.iloadn dX12_canCome_2 rfl <| ?_
  obtain ⟨q1, hq1, h⟩ := bnd_e h
  refine At.cV0 (av := [vi p1, vi p3]) (rest := []) mv_X12_laysThen lk_X12_332 dX12_canCome_3 rfl rfl sh_130 (Nat.le_of_ble_eq_true rfl) (by decide) ⟨rfl, rfl⟩ (rX12_laysThen hq1) <| At.aloadn dX12_canCome_6 rfl <| At.aloadn dX12_canCome_7 rfl <| At.iloadn dX12_canCome_8 rfl <| ?_
  obtain ⟨q2, hq2, h⟩ := bnd_e h
  refine At.cV1 (av := [vi p1]) (rest := [vr 130]) mv_X12_standOf lk_X12_239 dX12_canCome_9 rfl rfl sh_130 (Nat.le_of_ble_eq_true rfl) (by decide) ⟨rfl, rfl⟩ (rX12_standOf hq2) <| At.aloadn dX12_canCome_12 rfl <| At.getR fl_X12_45 sh_130 (le149 sh_130) rf_130_23 dX12_canCome_13 <| ?_
  obtain ⟨q3, hq3, h⟩ := bnd_e h
  refine At.cV0 (av := [vi q2, vr 140]) (rest := []) mv_X12_laysGone lk_X12_365 dX12_canCome_16 rfl rfl sh_130 (Nat.le_of_ble_eq_true rfl) (by decide) ⟨rfl, rfl⟩ (rX12_laysGone_120 sh_140 hq3) <| At.aloadn dX12_canCome_19 rfl <| ?_
  obtain ⟨q4, hq4, h⟩ := bnd_e h
  refine At.cV1 (av := []) (rest := []) mv_X12_cornersGone lk_X12_372 dX12_canCome_20 rfl rfl sh_130 (Nat.le_of_ble_eq_true rfl) (by decide) ⟨rfl, rfl⟩ (rX12_cornersGone hq4) <| At.i2l dX12_canCome_23 <| At.iloadn dX12_canCome_24 rfl <| ?_
  obtain ⟨q5, hq5, h⟩ := bnd_e h
  refine At.cS1 (av := [vl q4, vi p2]) (rest := []) ms_X12_isIn lk_X12_324 dX12_canCome_25 rfl rfl (Nat.le_of_ble_eq_true rfl) (by decide) ⟨rfl, rfl⟩ (rX12_isIn hq5) <| ?_
  obtain rfl := Option.some.inj h
  exact At.zret (b := q5) rfl (Nat.zero_le _) (Nat.zero_le _) ⟨rfl, rfl⟩ dX12_canCome_28
def fX12_shut_L57 (l1 : Int) (l2 : Int) (l3 : Int) : Nat → Int → Int → SS → Option (Int × SS)
  | 0, _, _, _ => none
  | n + 1, l4, l5, S =>
    rdA S 131 3303 2 fun v1 =>
    if (jshl 1 v1) ≤ l5 then (
      some (l4, S)
    ) else (
      Option.bind (fX12_shutNow  S) fun q3 =>
      Option.bind (
        if (jand l5 q3) = 0 then (
          if l4 = ((-1)) then (
            Option.bind (fX12_canCome l1 l2 l5 S) fun q5 =>
            if q5.1 = true then (
              some (l4, q5.2)
            ) else (
              some (l5, q5.2)
            )
          ) else (
            Option.bind (fX12_bitsOf l5) fun q7 =>
            Option.bind (fX12_bitsOf l4) fun q8 =>
            if q7 < q8 then (
              Option.bind (fX12_canCome l1 l2 l5 S) fun q9 =>
              if q9.1 = true then (
                some (l4, q9.2)
              ) else (
                some (l5, q9.2)
              )
            ) else (
              some (l4, S)
            )
          )
        ) else (
          some (l4, S)
        )
        : Option (Int × SS)) fun q4 =>
      lt (w32 (l5 + 1)) fun x14 =>
      fX12_shut_L57 l1 l2 l3 n q4.1 x14 q4.2
    )
def fX12_shut (p1 : Int) (p2 : Int) (p3 : Int) (S : SS) : Option (Int × SS) :=
  lt (up S 130 0 0) fun S1 =>
  Option.bind (fX12_isGoer p1 S1) fun q2 =>
  if q2 = true then (
    Option.bind (fX12_isCorner p2 S1) fun q3 =>
    if q3 = true then (
      Option.bind (fX12_within p3 0 1) fun q4 =>
      if q4 = true then (
        rdA S1 131 3303 (w32 (34 + p1)) fun v5 =>
        if v5 = p2 then (
          some ((-1), S1)
        ) else (
          lt ((-1)) fun x7 =>
          Option.bind (fX12_shut_L57 p1 p2 p3 FU x7 0 S1) fun q8 =>
          if p3 = 1 then (
            some (q8.1, q8.2)
          ) else (
            Option.bind (fX12_bitsOf q8.1) fun q10 =>
            some (q10, q8.2)
          )
        )
      ) else (
        some ((-2), S1)
      )
    ) else (
      some ((-2), S1)
    )
  ) else (
    some ((-2), S1)
  )
set_option maxRecDepth 100000 in
set_option maxHeartbeats 4000000 in
theorem lX12_shut_L57 {G : GG} {Φ : Option VV → MM → Prop} {l1 : Int} {l2 : Int} {l3 : Int} : ∀ (n : Nat) (l4 : Int) (l5 : Int) (S : SS) (q : Int × SS), fX12_shut_L57 l1 l2 l3 n l4 l5 S = some q → At G mX12_shut 7 123 [(3, vi l3), (4, vi q.1)] [] (mm q.2) 0 0 Φ → At G mX12_shut 7 57 [(0, vr 130), (1, vi l1), (2, vi l2), (3, vi l3), (4, vi l4), (5, vi l5)] [] (mm S) 0 0 Φ := by
  intro n
  induction n with
  | zero =>
    intro _ _ _ _ h
    cases h
  | succ n ih =>
    intro l4 l5 S q h K123
    unfold fX12_shut_L57 at h
    refine At.iload dX12_shut_57 rfl <| At.iconst dX12_shut_59 (by decide) <| At.aloadn dX12_shut_60 rfl <| At.getR fl_X12_13 sh_130 (le149 sh_130) rf_130_1 dX12_shut_61 <| At.iconst dX12_shut_64 (by decide) <| ?_
    obtain ⟨v1, hv1, g2, h⟩ := rdA_e h
    rcases ite_e h with ⟨c15, h⟩ | ⟨c15, h⟩
    · refine At.iald sh_131 (le149 sh_131) g2.1 g2.2 dX12_shut_65 <| At.nm hv1 <| At.ishl dX12_shut_66 <| At.icmp_ge_t (tgt := 123) dX12_shut_67 (by decide) c15 <| ?_
      obtain rfl := Option.some.inj h
      exact At.sub [3, 4] rfl K123
    · refine At.iald sh_131 (le149 sh_131) g2.1 g2.2 dX12_shut_65 <| At.nm hv1 <| At.ishl dX12_shut_66 <| At.icmp_ge_f (tgt := 123) dX12_shut_67 (by decide) c15 <| ?_
      refine At.iload dX12_shut_70 rfl <| At.aloadn dX12_shut_72 rfl <| ?_
      obtain ⟨q3, hq3, h⟩ := bnd_e h
      obtain ⟨q4, hj117, h⟩ := bnd_e h
      have K117 : At G mX12_shut 7 117 [(0, vr 130), (1, vi l1), (2, vi l2), (3, vi l3), (4, vi q4.1), (5, vi l5)] [] (mm q4.2) 0 0 Φ := by
        obtain ⟨x14, hx14, h⟩ := lt_e h
        refine At.iinc (ls' := [(5, vi x14), (0, vr 130), (1, vi l1), (2, vi l2), (3, vi l3), (4, vi q4.1)]) dX12_shut_117 rfl (by decide) (by rw [hx14]; rfl) <| At.goto (tgt := 57) dX12_shut_120 (by decide) <| ?_
        exact At.sub [1, 2, 3, 4, 5, 0] rfl (ih _ _ _ _ h K123)
      clear h; have h := hj117; clear hj117
      rcases ite_e h with ⟨c13, h⟩ | ⟨c13, h⟩
      · refine At.cV1 (av := []) (rest := [vi l5]) mv_X12_shutNow lk_X12_384 dX12_shut_73 rfl rfl sh_130 (Nat.le_of_ble_eq_true rfl) (by decide) ⟨rfl, rfl⟩ (rX12_shutNow hq3) <| At.iand dX12_shut_76 <| At.if_ne_f (tgt := 117) dX12_shut_77 (by decide) c13 <| ?_
        rcases ite_e h with ⟨c12, h⟩ | ⟨c12, h⟩
        · refine At.iload dX12_shut_80 rfl <| At.iconst dX12_shut_82 (by decide) <| At.icmp_eq_t (tgt := 102) dX12_shut_83 (by decide) c12 <| ?_
          refine At.aloadn dX12_shut_102 rfl <| At.iloadn dX12_shut_103 rfl <| At.iloadn dX12_shut_104 rfl <| At.iload dX12_shut_105 rfl <| ?_
          obtain ⟨q5, hq5, h⟩ := bnd_e h
          rcases ite_e h with ⟨c6, h⟩ | ⟨c6, h⟩
          · refine At.cV1 (av := [vi l1, vi l2, vi l5]) (rest := []) mv_X12_canCome lk_X12_402 dX12_shut_107 rfl rfl sh_130 (Nat.le_of_ble_eq_true rfl) (by decide) ⟨rfl, rfl⟩ (rX12_canCome hq5) <| At.bifne_t (tgt := 117) dX12_shut_110 (by decide) c6 <| ?_
            obtain rfl := Option.some.inj h
            exact At.sub [0, 1, 2, 3, 4, 5] rfl K117
          · refine At.cV1 (av := [vi l1, vi l2, vi l5]) (rest := []) mv_X12_canCome lk_X12_402 dX12_shut_107 rfl rfl sh_130 (Nat.le_of_ble_eq_true rfl) (by decide) ⟨rfl, rfl⟩ (rX12_canCome hq5) <| At.bifne_f (tgt := 117) dX12_shut_110 (by decide) c6 <| ?_
            refine At.iload dX12_shut_113 rfl <| At.istore (ls' := [(4, vi l5), (0, vr 130), (1, vi l1), (2, vi l2), (3, vi l3), (5, vi l5)]) dX12_shut_115 (by decide) rfl <| ?_
            obtain rfl := Option.some.inj h
            exact At.sub [1, 2, 3, 4, 0, 5] rfl K117
        · refine At.iload dX12_shut_80 rfl <| At.iconst dX12_shut_82 (by decide) <| At.icmp_eq_f (tgt := 102) dX12_shut_83 (by decide) c12 <| ?_
          refine At.iload dX12_shut_86 rfl <| ?_
          obtain ⟨q7, hq7, h⟩ := bnd_e h
          refine At.cS1 (av := [vi l5]) (rest := []) ms_X12_bitsOf lk_X12_399 dX12_shut_88 rfl rfl (Nat.le_of_ble_eq_true rfl) (by decide) ⟨rfl, rfl⟩ (rX12_bitsOf hq7) <| At.iload dX12_shut_91 rfl <| ?_
          obtain ⟨q8, hq8, h⟩ := bnd_e h
          rcases ite_e h with ⟨c11, h⟩ | ⟨c11, h⟩
          · refine At.cS1 (av := [vi l4]) (rest := [vi q7]) ms_X12_bitsOf lk_X12_399 dX12_shut_93 rfl rfl (Nat.le_of_ble_eq_true rfl) (by decide) ⟨rfl, rfl⟩ (rX12_bitsOf hq8) <| At.icmp_lt_t (tgt := 102) dX12_shut_96 (by decide) c11 <| ?_
            refine At.aloadn dX12_shut_102 rfl <| At.iloadn dX12_shut_103 rfl <| At.iloadn dX12_shut_104 rfl <| At.iload dX12_shut_105 rfl <| ?_
            obtain ⟨q9, hq9, h⟩ := bnd_e h
            rcases ite_e h with ⟨c10, h⟩ | ⟨c10, h⟩
            · refine At.cV1 (av := [vi l1, vi l2, vi l5]) (rest := []) mv_X12_canCome lk_X12_402 dX12_shut_107 rfl rfl sh_130 (Nat.le_of_ble_eq_true rfl) (by decide) ⟨rfl, rfl⟩ (rX12_canCome hq9) <| At.bifne_t (tgt := 117) dX12_shut_110 (by decide) c10 <| ?_
              obtain rfl := Option.some.inj h
              exact At.sub [0, 1, 2, 3, 4, 5] rfl K117
            · refine At.cV1 (av := [vi l1, vi l2, vi l5]) (rest := []) mv_X12_canCome lk_X12_402 dX12_shut_107 rfl rfl sh_130 (Nat.le_of_ble_eq_true rfl) (by decide) ⟨rfl, rfl⟩ (rX12_canCome hq9) <| At.bifne_f (tgt := 117) dX12_shut_110 (by decide) c10 <| ?_
              refine At.iload dX12_shut_113 rfl <| At.istore (ls' := [(4, vi l5), (0, vr 130), (1, vi l1), (2, vi l2), (3, vi l3), (5, vi l5)]) dX12_shut_115 (by decide) rfl <| ?_
              obtain rfl := Option.some.inj h
              exact At.sub [1, 2, 3, 4, 0, 5] rfl K117
          · refine At.cS1 (av := [vi l4]) (rest := [vi q7]) ms_X12_bitsOf lk_X12_399 dX12_shut_93 rfl rfl (Nat.le_of_ble_eq_true rfl) (by decide) ⟨rfl, rfl⟩ (rX12_bitsOf hq8) <| At.icmp_lt_f (tgt := 102) dX12_shut_96 (by decide) c11 <| ?_
            refine At.goto (tgt := 117) dX12_shut_99 (by decide) <| ?_
            obtain rfl := Option.some.inj h
            exact At.sub [0, 1, 2, 3, 4, 5] rfl K117
      · refine At.cV1 (av := []) (rest := [vi l5]) mv_X12_shutNow lk_X12_384 dX12_shut_73 rfl rfl sh_130 (Nat.le_of_ble_eq_true rfl) (by decide) ⟨rfl, rfl⟩ (rX12_shutNow hq3) <| At.iand dX12_shut_76 <| At.if_ne_t (tgt := 117) dX12_shut_77 (by decide) c13 <| ?_
        obtain rfl := Option.some.inj h
        exact At.sub [0, 1, 2, 3, 4, 5] rfl K117
set_option maxRecDepth 100000 in
set_option maxHeartbeats 4000000 in
theorem rX12_shut {G : GG} {p1 : Int} {p2 : Int} {p3 : Int} {S : SS} {rr : (Int × SS)} (h : fX12_shut p1 p2 p3 S = some rr) : RD G mX12_shut 7 [vr 130, vi p1, vi p2, vi p3] S (some (vi rr.1)) rr.2 := by
  unfold fX12_shut at h
  refine Runs.of pl_X12 (Nat.le_of_ble_eq_true rfl) ?_
  show At G mX12_shut 7 0 [(0, vr 130), (1, vi p1), (2, vi p2), (3, vi p3)] [] (mm S) 0 0 (EQ (some (vi rr.1)) rr.2)
  refine At.aloadn dX12_shut_0 rfl <| At.iconst dX12_shut_1 (by decide) <| ?_
  obtain ⟨S1, hS1, h⟩ := lt_e h
  refine At.putI fw_X12_1 sh_130 (le149 sh_130) dX12_shut_2 <| At.nmS hS1 <| At.aloadn dX12_shut_5 rfl <| At.iloadn dX12_shut_6 rfl <| At.i2l dX12_shut_7 <| ?_
  obtain ⟨q2, hq2, h⟩ := bnd_e h
  rcases ite_e h with ⟨c15, h⟩ | ⟨c15, h⟩
  · refine At.cV1 (av := [vl p1]) (rest := []) mv_X12_isGoer lk_X12_233 dX12_shut_8 rfl rfl sh_130 (Nat.le_of_ble_eq_true rfl) (by decide) ⟨rfl, rfl⟩ (rX12_isGoer hq2) <| At.bifeq_f (tgt := 33) dX12_shut_11 (by decide) c15 <| ?_
    refine At.aloadn dX12_shut_14 rfl <| At.iloadn dX12_shut_15 rfl <| At.i2l dX12_shut_16 <| ?_
    obtain ⟨q3, hq3, h⟩ := bnd_e h
    rcases ite_e h with ⟨c14, h⟩ | ⟨c14, h⟩
    · refine At.cV1 (av := [vl p2]) (rest := []) mv_X12_isCorner lk_X12_268 dX12_shut_17 rfl rfl sh_130 (Nat.le_of_ble_eq_true rfl) (by decide) ⟨rfl, rfl⟩ (rX12_isCorner hq3) <| At.bifeq_f (tgt := 33) dX12_shut_20 (by decide) c14 <| ?_
      refine At.iloadn dX12_shut_23 rfl <| At.i2l dX12_shut_24 <| At.lconst0 dX12_shut_25 <| At.lconst1 dX12_shut_26 <| ?_
      obtain ⟨q4, hq4, h⟩ := bnd_e h
      rcases ite_e h with ⟨c13, h⟩ | ⟨c13, h⟩
      · refine At.cS1 (av := [vl p3, vl 0, vl 1]) (rest := []) ms_X12_within lk_X12_142 dX12_shut_27 rfl rfl (Nat.le_of_ble_eq_true rfl) (by decide) ⟨rfl, rfl⟩ (rX12_within hq4) <| At.bifne_t (tgt := 36) dX12_shut_30 (by decide) c13 <| ?_
        refine At.aloadn dX12_shut_36 rfl <| At.getR fl_X12_13 sh_130 (le149 sh_130) rf_130_1 dX12_shut_37 <| At.bipush dX12_shut_40 (by decide) <| At.iloadn dX12_shut_42 rfl <| At.iadd dX12_shut_43 <| ?_
        obtain ⟨v5, hv5, g6, h⟩ := rdA_e h
        rcases ite_e h with ⟨c12, h⟩ | ⟨c12, h⟩
        · refine At.iald sh_131 (le149 sh_131) g6.1 g6.2 dX12_shut_44 <| At.nm hv5 <| At.iloadn dX12_shut_45 rfl <| At.icmp_ne_f (tgt := 51) dX12_shut_46 (by decide) c12 <| ?_
          refine At.iconst dX12_shut_49 (by decide) <| ?_
          obtain rfl := Option.some.inj h
          exact At.iret rfl (Nat.zero_le _) (Nat.zero_le _) ⟨rfl, rfl⟩ dX12_shut_50
        · refine At.iald sh_131 (le149 sh_131) g6.1 g6.2 dX12_shut_44 <| At.nm hv5 <| At.iloadn dX12_shut_45 rfl <| At.icmp_ne_t (tgt := 51) dX12_shut_46 (by decide) c12 <| ?_
          refine At.iconst dX12_shut_51 (by decide) <| ?_
          obtain ⟨x7, hx7, h⟩ := lt_e h
          refine At.nm hx7 <| At.istore (ls' := [(4, vi x7), (0, vr 130), (1, vi p1), (2, vi p2), (3, vi p3)]) dX12_shut_52 (by decide) rfl <| At.iconst dX12_shut_54 (by decide) <| At.istore (ls' := [(5, vi 0), (4, vi x7), (0, vr 130), (1, vi p1), (2, vi p2), (3, vi p3)]) dX12_shut_55 (by decide) rfl <| ?_
          obtain ⟨q8, ho9, h⟩ := bnd_e h
          refine At.sub [2, 3, 4, 5, 1, 0] rfl (lX12_shut_L57 FU _ _ _ q8 ho9 ?_)
          rcases ite_e h with ⟨c11, h⟩ | ⟨c11, h⟩
          · refine At.iloadn dX12_shut_123 rfl <| At.iconst dX12_shut_124 (by decide) <| At.icmp_ne_f (tgt := 133) dX12_shut_125 (by decide) c11 <| ?_
            refine At.iload dX12_shut_128 rfl <| At.goto (tgt := 138) dX12_shut_130 (by decide) <| ?_
            obtain rfl := Option.some.inj h
            exact At.iret rfl (Nat.zero_le _) (Nat.zero_le _) ⟨rfl, rfl⟩ dX12_shut_138
          · refine At.iloadn dX12_shut_123 rfl <| At.iconst dX12_shut_124 (by decide) <| At.icmp_ne_t (tgt := 133) dX12_shut_125 (by decide) c11 <| ?_
            refine At.iload dX12_shut_133 rfl <| ?_
            obtain ⟨q10, hq10, h⟩ := bnd_e h
            refine At.cS1 (av := [vi q8.1]) (rest := []) ms_X12_bitsOf lk_X12_399 dX12_shut_135 rfl rfl (Nat.le_of_ble_eq_true rfl) (by decide) ⟨rfl, rfl⟩ (rX12_bitsOf hq10) <| ?_
            obtain rfl := Option.some.inj h
            exact At.iret rfl (Nat.zero_le _) (Nat.zero_le _) ⟨rfl, rfl⟩ dX12_shut_138
      · refine At.cS1 (av := [vl p3, vl 0, vl 1]) (rest := []) ms_X12_within lk_X12_142 dX12_shut_27 rfl rfl (Nat.le_of_ble_eq_true rfl) (by decide) ⟨rfl, rfl⟩ (rX12_within hq4) <| At.bifne_f (tgt := 36) dX12_shut_30 (by decide) c13 <| ?_
        refine At.bipush dX12_shut_33 (by decide) <| ?_
        obtain rfl := Option.some.inj h
        exact At.iret rfl (Nat.zero_le _) (Nat.zero_le _) ⟨rfl, rfl⟩ dX12_shut_35
    · refine At.cV1 (av := [vl p2]) (rest := []) mv_X12_isCorner lk_X12_268 dX12_shut_17 rfl rfl sh_130 (Nat.le_of_ble_eq_true rfl) (by decide) ⟨rfl, rfl⟩ (rX12_isCorner hq3) <| At.bifeq_t (tgt := 33) dX12_shut_20 (by decide) c14 <| ?_
      refine At.bipush dX12_shut_33 (by decide) <| ?_
      obtain rfl := Option.some.inj h
      exact At.iret rfl (Nat.zero_le _) (Nat.zero_le _) ⟨rfl, rfl⟩ dX12_shut_35
  · refine At.cV1 (av := [vl p1]) (rest := []) mv_X12_isGoer lk_X12_233 dX12_shut_8 rfl rfl sh_130 (Nat.le_of_ble_eq_true rfl) (by decide) ⟨rfl, rfl⟩ (rX12_isGoer hq2) <| At.bifeq_t (tgt := 33) dX12_shut_11 (by decide) c15 <| ?_
    refine At.bipush dX12_shut_33 (by decide) <| ?_
    obtain rfl := Option.some.inj h
    exact At.iret rfl (Nat.zero_le _) (Nat.zero_le _) ⟨rfl, rfl⟩ dX12_shut_35
def fX12_needed_L43 (l1 : Int) (l2 : Int) : Nat → Int → Int → SS → Option (Int × SS)
  | 0, _, _, _ => none
  | n + 1, l3, l4, S =>
    rdA S 131 3303 2 fun v1 =>
    if v1 ≤ l4 then (
      some (l3, S)
    ) else (
      rdA S 131 3303 (w32 (40 + l4)) fun v3 =>
      Option.bind (
        if v3 = 3 then (
          some (l3, S)
        ) else (
          Option.bind (fX12_canCome l1 l2 (jshl 1 l4) S) fun q6 =>
          if q6.1 = true then (
            some (l3, q6.2)
          ) else (
            lt (jor l3 (jshl 1 l4)) fun x7 =>
            some (x7, q6.2)
          )
        )
        : Option (Int × SS)) fun q5 =>
      lt (w32 (l4 + 1)) fun x10 =>
      fX12_needed_L43 l1 l2 n q5.1 x10 q5.2
    )
def fX12_needed (p1 : Int) (p2 : Int) (S : SS) : Option (Int × SS) :=
  lt (up S 130 0 0) fun S1 =>
  Option.bind (fX12_isGoer p1 S1) fun q2 =>
  if q2 = true then (
    Option.bind (fX12_isCorner p2 S1) fun q3 =>
    if q3 = true then (
      Option.bind (fX12_canCome p1 p2 0 S1) fun q4 =>
      if q4.1 = true then (
        Option.bind (fX12_needed_L43 p1 p2 FU 0 0 q4.2) fun q5 =>
        some (q5.1, q5.2)
      ) else (
        some (0, q4.2)
      )
    ) else (
      some ((-2), S1)
    )
  ) else (
    some ((-2), S1)
  )
set_option maxRecDepth 100000 in
set_option maxHeartbeats 4000000 in
theorem lX12_needed_L43 {G : GG} {Φ : Option VV → MM → Prop} {l1 : Int} {l2 : Int} : ∀ (n : Nat) (l3 : Int) (l4 : Int) (S : SS) (q : Int × SS), fX12_needed_L43 l1 l2 n l3 l4 S = some q → At G mX12_needed 7 94 [(3, vi q.1)] [] (mm q.2) 0 0 Φ → At G mX12_needed 7 43 [(0, vr 130), (1, vi l1), (2, vi l2), (3, vi l3), (4, vi l4)] [] (mm S) 0 0 Φ := by
  intro n
  induction n with
  | zero =>
    intro _ _ _ _ h
    cases h
  | succ n ih =>
    intro l3 l4 S q h K94
    unfold fX12_needed_L43 at h
    refine At.iload dX12_needed_43 rfl <| At.aloadn dX12_needed_45 rfl <| At.getR fl_X12_13 sh_130 (le149 sh_130) rf_130_1 dX12_needed_46 <| At.iconst dX12_needed_49 (by decide) <| ?_
    obtain ⟨v1, hv1, g2, h⟩ := rdA_e h
    rcases ite_e h with ⟨c11, h⟩ | ⟨c11, h⟩
    · refine At.iald sh_131 (le149 sh_131) g2.1 g2.2 dX12_needed_50 <| At.nm hv1 <| At.icmp_ge_t (tgt := 94) dX12_needed_51 (by decide) c11 <| ?_
      obtain rfl := Option.some.inj h
      exact At.sub [3] rfl K94
    · refine At.iald sh_131 (le149 sh_131) g2.1 g2.2 dX12_needed_50 <| At.nm hv1 <| At.icmp_ge_f (tgt := 94) dX12_needed_51 (by decide) c11 <| ?_
      refine At.aloadn dX12_needed_54 rfl <| At.getR fl_X12_13 sh_130 (le149 sh_130) rf_130_1 dX12_needed_55 <| At.bipush dX12_needed_58 (by decide) <| At.iload dX12_needed_60 rfl <| At.iadd dX12_needed_62 <| ?_
      obtain ⟨v3, hv3, g4, h⟩ := rdA_e h
      obtain ⟨q5, hj88, h⟩ := bnd_e h
      have K88 : At G mX12_needed 7 88 [(0, vr 130), (1, vi l1), (2, vi l2), (3, vi q5.1), (4, vi l4)] [] (mm q5.2) 0 0 Φ := by
        obtain ⟨x10, hx10, h⟩ := lt_e h
        refine At.iinc (ls' := [(4, vi x10), (0, vr 130), (1, vi l1), (2, vi l2), (3, vi q5.1)]) dX12_needed_88 rfl (by decide) (by rw [hx10]; rfl) <| At.goto (tgt := 43) dX12_needed_91 (by decide) <| ?_
        exact At.sub [1, 2, 3, 4, 0] rfl (ih _ _ _ _ h K94)
      clear h; have h := hj88; clear hj88
      rcases ite_e h with ⟨c9, h⟩ | ⟨c9, h⟩
      · refine At.iald sh_131 (le149 sh_131) g4.1 g4.2 dX12_needed_63 <| At.nm hv3 <| At.iconst dX12_needed_64 (by decide) <| At.icmp_eq_t (tgt := 88) dX12_needed_65 (by decide) c9 <| ?_
        obtain rfl := Option.some.inj h
        exact At.sub [0, 1, 2, 3, 4] rfl K88
      · refine At.iald sh_131 (le149 sh_131) g4.1 g4.2 dX12_needed_63 <| At.nm hv3 <| At.iconst dX12_needed_64 (by decide) <| At.icmp_eq_f (tgt := 88) dX12_needed_65 (by decide) c9 <| ?_
        refine At.aloadn dX12_needed_68 rfl <| At.iloadn dX12_needed_69 rfl <| At.iloadn dX12_needed_70 rfl <| At.iconst dX12_needed_71 (by decide) <| At.iload dX12_needed_72 rfl <| At.ishl dX12_needed_74 <| ?_
        obtain ⟨q6, hq6, h⟩ := bnd_e h
        rcases ite_e h with ⟨c8, h⟩ | ⟨c8, h⟩
        · refine At.cV1 (av := [vi l1, vi l2, vi (jshl 1 l4)]) (rest := []) mv_X12_canCome lk_X12_402 dX12_needed_75 rfl rfl sh_130 (Nat.le_of_ble_eq_true rfl) (by decide) ⟨rfl, rfl⟩ (rX12_canCome hq6) <| At.bifne_t (tgt := 88) dX12_needed_78 (by decide) c8 <| ?_
          obtain rfl := Option.some.inj h
          exact At.sub [0, 1, 2, 3, 4] rfl K88
        · refine At.cV1 (av := [vi l1, vi l2, vi (jshl 1 l4)]) (rest := []) mv_X12_canCome lk_X12_402 dX12_needed_75 rfl rfl sh_130 (Nat.le_of_ble_eq_true rfl) (by decide) ⟨rfl, rfl⟩ (rX12_canCome hq6) <| At.bifne_f (tgt := 88) dX12_needed_78 (by decide) c8 <| ?_
          refine At.iloadn dX12_needed_81 rfl <| At.iconst dX12_needed_82 (by decide) <| At.iload dX12_needed_83 rfl <| At.ishl dX12_needed_85 <| At.ior dX12_needed_86 <| ?_
          obtain ⟨x7, hx7, h⟩ := lt_e h
          refine At.nm hx7 <| At.istoren (ls' := [(3, vi x7), (0, vr 130), (1, vi l1), (2, vi l2), (4, vi l4)]) dX12_needed_87 (by decide) rfl <| ?_
          obtain rfl := Option.some.inj h
          exact At.sub [1, 2, 3, 0, 4] rfl K88
set_option maxRecDepth 100000 in
set_option maxHeartbeats 4000000 in
theorem rX12_needed {G : GG} {p1 : Int} {p2 : Int} {S : SS} {rr : (Int × SS)} (h : fX12_needed p1 p2 S = some rr) : RD G mX12_needed 7 [vr 130, vi p1, vi p2] S (some (vi rr.1)) rr.2 := by
  unfold fX12_needed at h
  refine Runs.of pl_X12 (Nat.le_of_ble_eq_true rfl) ?_
  show At G mX12_needed 7 0 [(0, vr 130), (1, vi p1), (2, vi p2)] [] (mm S) 0 0 (EQ (some (vi rr.1)) rr.2)
  refine At.aloadn dX12_needed_0 rfl <| At.iconst dX12_needed_1 (by decide) <| ?_
  obtain ⟨S1, hS1, h⟩ := lt_e h
  refine At.putI fw_X12_1 sh_130 (le149 sh_130) dX12_needed_2 <| At.nmS hS1 <| At.aloadn dX12_needed_5 rfl <| At.iloadn dX12_needed_6 rfl <| At.i2l dX12_needed_7 <| ?_
  obtain ⟨q2, hq2, h⟩ := bnd_e h
  rcases ite_e h with ⟨c9, h⟩ | ⟨c9, h⟩
  · refine At.cV1 (av := [vl p1]) (rest := []) mv_X12_isGoer lk_X12_233 dX12_needed_8 rfl rfl sh_130 (Nat.le_of_ble_eq_true rfl) (by decide) ⟨rfl, rfl⟩ (rX12_isGoer hq2) <| At.bifeq_f (tgt := 23) dX12_needed_11 (by decide) c9 <| ?_
    refine At.aloadn dX12_needed_14 rfl <| At.iloadn dX12_needed_15 rfl <| At.i2l dX12_needed_16 <| ?_
    obtain ⟨q3, hq3, h⟩ := bnd_e h
    rcases ite_e h with ⟨c8, h⟩ | ⟨c8, h⟩
    · refine At.cV1 (av := [vl p2]) (rest := []) mv_X12_isCorner lk_X12_268 dX12_needed_17 rfl rfl sh_130 (Nat.le_of_ble_eq_true rfl) (by decide) ⟨rfl, rfl⟩ (rX12_isCorner hq3) <| At.bifne_t (tgt := 26) dX12_needed_20 (by decide) c8 <| ?_
      refine At.iconst dX12_needed_26 (by decide) <| At.istoren (ls' := [(3, vi 0), (0, vr 130), (1, vi p1), (2, vi p2)]) dX12_needed_27 (by decide) rfl <| At.aloadn dX12_needed_28 rfl <| At.iloadn dX12_needed_29 rfl <| At.iloadn dX12_needed_30 rfl <| At.iconst dX12_needed_31 (by decide) <| ?_
      obtain ⟨q4, hq4, h⟩ := bnd_e h
      rcases ite_e h with ⟨c7, h⟩ | ⟨c7, h⟩
      · refine At.cV1 (av := [vi p1, vi p2, vi 0]) (rest := []) mv_X12_canCome lk_X12_402 dX12_needed_32 rfl rfl sh_130 (Nat.le_of_ble_eq_true rfl) (by decide) ⟨rfl, rfl⟩ (rX12_canCome hq4) <| At.bifne_t (tgt := 40) dX12_needed_35 (by decide) c7 <| ?_
        refine At.iconst dX12_needed_40 (by decide) <| At.istore (ls' := [(4, vi 0), (3, vi 0), (0, vr 130), (1, vi p1), (2, vi p2)]) dX12_needed_41 (by decide) rfl <| ?_
        obtain ⟨q5, ho6, h⟩ := bnd_e h
        refine At.sub [2, 3, 4, 1, 0] rfl (lX12_needed_L43 FU _ _ _ q5 ho6 ?_)
        refine At.iloadn dX12_needed_94 rfl <| ?_
        obtain rfl := Option.some.inj h
        exact At.iret rfl (Nat.zero_le _) (Nat.zero_le _) ⟨rfl, rfl⟩ dX12_needed_95
      · refine At.cV1 (av := [vi p1, vi p2, vi 0]) (rest := []) mv_X12_canCome lk_X12_402 dX12_needed_32 rfl rfl sh_130 (Nat.le_of_ble_eq_true rfl) (by decide) ⟨rfl, rfl⟩ (rX12_canCome hq4) <| At.bifne_f (tgt := 40) dX12_needed_35 (by decide) c7 <| ?_
        refine At.iloadn dX12_needed_38 rfl <| ?_
        obtain rfl := Option.some.inj h
        exact At.iret rfl (Nat.zero_le _) (Nat.zero_le _) ⟨rfl, rfl⟩ dX12_needed_39
    · refine At.cV1 (av := [vl p2]) (rest := []) mv_X12_isCorner lk_X12_268 dX12_needed_17 rfl rfl sh_130 (Nat.le_of_ble_eq_true rfl) (by decide) ⟨rfl, rfl⟩ (rX12_isCorner hq3) <| At.bifne_f (tgt := 26) dX12_needed_20 (by decide) c8 <| ?_
      refine At.bipush dX12_needed_23 (by decide) <| ?_
      obtain rfl := Option.some.inj h
      exact At.iret rfl (Nat.zero_le _) (Nat.zero_le _) ⟨rfl, rfl⟩ dX12_needed_25
  · refine At.cV1 (av := [vl p1]) (rest := []) mv_X12_isGoer lk_X12_233 dX12_needed_8 rfl rfl sh_130 (Nat.le_of_ble_eq_true rfl) (by decide) ⟨rfl, rfl⟩ (rX12_isGoer hq2) <| At.bifeq_t (tgt := 23) dX12_needed_11 (by decide) c9 <| ?_
    refine At.bipush dX12_needed_23 (by decide) <| ?_
    obtain rfl := Option.some.inj h
    exact At.iret rfl (Nat.zero_le _) (Nat.zero_le _) ⟨rfl, rfl⟩ dX12_needed_25
def fX12_noTook_L62 (l1 : Int) (l3 : Int) (S : SS) : Nat → Int → Option (Nat)
  | 0, _ => none
  | n + 1, l5 =>
    rdA S 148 4 l1 fun v1 =>
    if v1 ≤ l5 then (
      some 1
    ) else (
      rdA S 149 160 (w32 ((w32 (40 * l1)) + l5)) fun v3 =>
      Option.bind (fX12_isStreet v3 S) fun q5 =>
      if q5 = true then (
        lt (w32 (l5 + 1)) fun x6 =>
        fX12_noTook_L62 l1 l3 S n x6
      ) else (
        some 0
      )
    )
def fX12_noTook (p1 : Int) (p2 : Int) (p3 : Int) (S : SS) : Option Int :=
  Option.bind (fX12_within p1 0 3) fun q1 =>
  if q1 = true then (
    Option.bind (fX12_isGoer p2 S) fun q2 =>
    if q2 = true then (
      Option.bind (fX12_noTray p1 S) fun q3 =>
      if q3 = 0 then (
        rdA S 148 4 p1 fun v4 =>
        Option.bind (fX12_within v4 1 10) fun q6 =>
        if q6 = true then (
          Option.bind (fX12_noTook_L62 p1 p3 S FU 0) fun q7 =>
          if q7 = 0 then (
            some ((-3))
          ) else (
            Option.bind (fX12_isYear p3) fun q9 =>
            if q9 = true then (
              some 0
            ) else (
              some ((-3))
            )
          )
        ) else (
          some ((-4))
        )
      ) else (
        some q3
      )
    ) else (
      some ((-2))
    )
  ) else (
    some ((-2))
  )
set_option maxRecDepth 100000 in
set_option maxHeartbeats 4000000 in
theorem lX12_noTook_L62 {G : GG} {Φ : Option VV → MM → Prop} {l1 : Int} {l3 : Int} {S : SS} : ∀ (n : Nat) (l5 : Int) (q : Nat), fX12_noTook_L62 l1 l3 S n l5 = some q → (q = 0 → At G mX12_noTook 3 92 [] [] (mm S) 0 0 Φ) → (q = 1 → At G mX12_noTook 3 101 [(3, vi l3)] [] (mm S) 0 0 Φ) → At G mX12_noTook 3 62 [(0, vr 130), (1, vi l1), (3, vi l3), (5, vi l5)] [] (mm S) 0 0 Φ := by
  intro n
  induction n with
  | zero =>
    intro _ _ h
    cases h
  | succ n ih =>
    intro l5 q h K92 K101
    unfold fX12_noTook_L62 at h
    refine At.iload dX12_noTook_62 rfl <| At.aloadn dX12_noTook_64 rfl <| At.getR fl_X12_70 sh_130 (le149 sh_130) rf_130_31 dX12_noTook_65 <| At.iloadn dX12_noTook_68 rfl <| ?_
    obtain ⟨v1, hv1, g2, h⟩ := rdA_e h
    rcases ite_e h with ⟨c8, h⟩ | ⟨c8, h⟩
    · refine At.iald sh_148 (le149 sh_148) g2.1 g2.2 dX12_noTook_69 <| At.nm hv1 <| At.icmp_ge_t (tgt := 101) dX12_noTook_70 (by decide) c8 <| ?_
      obtain rfl := Option.some.inj h
      exact At.sub [2] rfl (K101 rfl)
    · refine At.iald sh_148 (le149 sh_148) g2.1 g2.2 dX12_noTook_69 <| At.nm hv1 <| At.icmp_ge_f (tgt := 101) dX12_noTook_70 (by decide) c8 <| ?_
      refine At.aloadn dX12_noTook_73 rfl <| At.aloadn dX12_noTook_74 rfl <| At.getR fl_X12_73 sh_130 (le149 sh_130) rf_130_32 dX12_noTook_75 <| At.bipush dX12_noTook_78 (by decide) <| At.iloadn dX12_noTook_80 rfl <| At.imul dX12_noTook_81 <| At.iload dX12_noTook_82 rfl <| At.iadd dX12_noTook_84 <| ?_
      obtain ⟨v3, hv3, g4, h⟩ := rdA_e h
      refine At.lald sh_149 (le149 sh_149) g4.1 g4.2 dX12_noTook_85 <| At.nml hv3 <| ?_
      obtain ⟨q5, hq5, h⟩ := bnd_e h
      rcases ite_e h with ⟨c7, h⟩ | ⟨c7, h⟩
      · refine At.cV1 (av := [vl v3]) (rest := []) mv_X12_isStreet lk_X12_236 dX12_noTook_86 rfl rfl sh_130 (Nat.le_of_ble_eq_true rfl) (by decide) ⟨rfl, rfl⟩ (rX12_isStreet hq5) <| At.bifne_t (tgt := 95) dX12_noTook_89 (by decide) c7 <| ?_
        obtain ⟨x6, hx6, h⟩ := lt_e h
        refine At.iinc (ls' := [(5, vi x6), (0, vr 130), (1, vi l1), (3, vi l3)]) dX12_noTook_95 rfl (by decide) (by rw [hx6]; rfl) <| At.goto (tgt := 62) dX12_noTook_98 (by decide) <| ?_
        exact At.sub [1, 2, 3, 0] rfl (ih _ _ h K92 K101)
      · refine At.cV1 (av := [vl v3]) (rest := []) mv_X12_isStreet lk_X12_236 dX12_noTook_86 rfl rfl sh_130 (Nat.le_of_ble_eq_true rfl) (by decide) ⟨rfl, rfl⟩ (rX12_isStreet hq5) <| At.bifne_f (tgt := 95) dX12_noTook_89 (by decide) c7 <| ?_
        obtain rfl := Option.some.inj h
        exact At.sub [] rfl (K92 rfl)
set_option maxRecDepth 100000 in
set_option maxHeartbeats 4000000 in
theorem rX12_noTook {G : GG} {p1 : Int} {p2 : Int} {p3 : Int} {S : SS} {rr : Int} (h : fX12_noTook p1 p2 p3 S = some rr) : RD G mX12_noTook 3 [vr 130, vi p1, vi p2, vi p3] S (some (vi rr)) S := by
  unfold fX12_noTook at h
  refine Runs.of pl_X12 (Nat.le_of_ble_eq_true rfl) ?_
  show At G mX12_noTook 3 0 [(0, vr 130), (1, vi p1), (2, vi p2), (3, vi p3)] [] (mm S) 0 0 (EQ (some (vi rr)) S)
  refine At.iloadn dX12_noTook_0 rfl <| At.i2l dX12_noTook_1 <| At.lconst0 dX12_noTook_2 <| At.ldc2 dX12_noTook_3 kl_X12_264 (by decide) <| ?_
  obtain ⟨q1, hq1, h⟩ := bnd_e h
  rcases ite_e h with ⟨c14, h⟩ | ⟨c14, h⟩
  · refine At.cS1 (av := [vl p1, vl 0, vl 3]) (rest := []) ms_X12_within lk_X12_142 dX12_noTook_6 rfl rfl (Nat.le_of_ble_eq_true rfl) (by decide) ⟨rfl, rfl⟩ (rX12_within hq1) <| At.bifeq_f (tgt := 21) dX12_noTook_9 (by decide) c14 <| ?_
    refine At.aloadn dX12_noTook_12 rfl <| At.iloadn dX12_noTook_13 rfl <| At.i2l dX12_noTook_14 <| ?_
    obtain ⟨q2, hq2, h⟩ := bnd_e h
    rcases ite_e h with ⟨c13, h⟩ | ⟨c13, h⟩
    · refine At.cV1 (av := [vl p2]) (rest := []) mv_X12_isGoer lk_X12_233 dX12_noTook_15 rfl rfl sh_130 (Nat.le_of_ble_eq_true rfl) (by decide) ⟨rfl, rfl⟩ (rX12_isGoer hq2) <| At.bifne_t (tgt := 24) dX12_noTook_18 (by decide) c13 <| ?_
      refine At.aloadn dX12_noTook_24 rfl <| At.iloadn dX12_noTook_25 rfl <| ?_
      obtain ⟨q3, hq3, h⟩ := bnd_e h
      rcases ite_e h with ⟨c12, h⟩ | ⟨c12, h⟩
      · refine At.cV1 (av := [vi p1]) (rest := []) mv_X12_noTray lk_X12_297 dX12_noTook_26 rfl rfl sh_130 (Nat.le_of_ble_eq_true rfl) (by decide) ⟨rfl, rfl⟩ (rX12_noTray hq3) <| At.istore (ls' := [(4, vi q3), (0, vr 130), (1, vi p1), (2, vi p2), (3, vi p3)]) dX12_noTook_29 (by decide) rfl <| At.iload dX12_noTook_31 rfl <| At.if_eq_t (tgt := 39) dX12_noTook_33 (by decide) c12 <| ?_
        refine At.aloadn dX12_noTook_39 rfl <| At.getR fl_X12_70 sh_130 (le149 sh_130) rf_130_31 dX12_noTook_40 <| At.iloadn dX12_noTook_43 rfl <| ?_
        obtain ⟨v4, hv4, g5, h⟩ := rdA_e h
        refine At.iald sh_148 (le149 sh_148) g5.1 g5.2 dX12_noTook_44 <| At.nm hv4 <| At.i2l dX12_noTook_45 <| At.lconst1 dX12_noTook_46 <| At.ldc2 dX12_noTook_47 kl_X12_271 (by decide) <| ?_
        obtain ⟨q6, hq6, h⟩ := bnd_e h
        rcases ite_e h with ⟨c11, h⟩ | ⟨c11, h⟩
        · refine At.cS1 (av := [vl v4, vl 1, vl 10]) (rest := []) ms_X12_within lk_X12_142 dX12_noTook_50 rfl rfl (Nat.le_of_ble_eq_true rfl) (by decide) ⟨rfl, rfl⟩ (rX12_within hq6) <| At.bifne_t (tgt := 59) dX12_noTook_53 (by decide) c11 <| ?_
          refine At.iconst dX12_noTook_59 (by decide) <| At.istore (ls' := [(5, vi 0), (4, vi q3), (0, vr 130), (1, vi p1), (2, vi p2), (3, vi p3)]) dX12_noTook_60 (by decide) rfl <| ?_
          obtain ⟨q7, ho8, h⟩ := bnd_e h
          refine At.sub [2, 3, 5, 0] rfl (lX12_noTook_L62 FU _ q7 ho8 (fun hq => ?_) (fun hq => ?_))
          · rw [if_pos hq] at h
            refine At.bipush dX12_noTook_92 (by decide) <| ?_
            obtain rfl := Option.some.inj h
            exact At.iret rfl (Nat.zero_le _) (Nat.zero_le _) ⟨rfl, rfl⟩ dX12_noTook_94
          · rw [if_neg (by omega)] at h
            refine At.iloadn dX12_noTook_101 rfl <| At.i2l dX12_noTook_102 <| ?_
            obtain ⟨q9, hq9, h⟩ := bnd_e h
            rcases ite_e h with ⟨c10, h⟩ | ⟨c10, h⟩
            · refine At.cS1 (av := [vl p3]) (rest := []) ms_X12_isYear lk_X12_229 dX12_noTook_103 rfl rfl (Nat.le_of_ble_eq_true rfl) (by decide) ⟨rfl, rfl⟩ (rX12_isYear hq9) <| At.bifeq_f (tgt := 113) dX12_noTook_106 (by decide) c10 <| ?_
              refine At.iconst dX12_noTook_109 (by decide) <| At.goto (tgt := 115) dX12_noTook_110 (by decide) <| ?_
              obtain rfl := Option.some.inj h
              exact At.iret rfl (Nat.zero_le _) (Nat.zero_le _) ⟨rfl, rfl⟩ dX12_noTook_115
            · refine At.cS1 (av := [vl p3]) (rest := []) ms_X12_isYear lk_X12_229 dX12_noTook_103 rfl rfl (Nat.le_of_ble_eq_true rfl) (by decide) ⟨rfl, rfl⟩ (rX12_isYear hq9) <| At.bifeq_t (tgt := 113) dX12_noTook_106 (by decide) c10 <| ?_
              refine At.bipush dX12_noTook_113 (by decide) <| ?_
              obtain rfl := Option.some.inj h
              exact At.iret rfl (Nat.zero_le _) (Nat.zero_le _) ⟨rfl, rfl⟩ dX12_noTook_115
        · refine At.cS1 (av := [vl v4, vl 1, vl 10]) (rest := []) ms_X12_within lk_X12_142 dX12_noTook_50 rfl rfl (Nat.le_of_ble_eq_true rfl) (by decide) ⟨rfl, rfl⟩ (rX12_within hq6) <| At.bifne_f (tgt := 59) dX12_noTook_53 (by decide) c11 <| ?_
          refine At.bipush dX12_noTook_56 (by decide) <| ?_
          obtain rfl := Option.some.inj h
          exact At.iret rfl (Nat.zero_le _) (Nat.zero_le _) ⟨rfl, rfl⟩ dX12_noTook_58
      · refine At.cV1 (av := [vi p1]) (rest := []) mv_X12_noTray lk_X12_297 dX12_noTook_26 rfl rfl sh_130 (Nat.le_of_ble_eq_true rfl) (by decide) ⟨rfl, rfl⟩ (rX12_noTray hq3) <| At.istore (ls' := [(4, vi q3), (0, vr 130), (1, vi p1), (2, vi p2), (3, vi p3)]) dX12_noTook_29 (by decide) rfl <| At.iload dX12_noTook_31 rfl <| At.if_eq_f (tgt := 39) dX12_noTook_33 (by decide) c12 <| ?_
        refine At.iload dX12_noTook_36 rfl <| ?_
        obtain rfl := Option.some.inj h
        exact At.iret rfl (Nat.zero_le _) (Nat.zero_le _) ⟨rfl, rfl⟩ dX12_noTook_38
    · refine At.cV1 (av := [vl p2]) (rest := []) mv_X12_isGoer lk_X12_233 dX12_noTook_15 rfl rfl sh_130 (Nat.le_of_ble_eq_true rfl) (by decide) ⟨rfl, rfl⟩ (rX12_isGoer hq2) <| At.bifne_f (tgt := 24) dX12_noTook_18 (by decide) c13 <| ?_
      refine At.bipush dX12_noTook_21 (by decide) <| ?_
      obtain rfl := Option.some.inj h
      exact At.iret rfl (Nat.zero_le _) (Nat.zero_le _) ⟨rfl, rfl⟩ dX12_noTook_23
  · refine At.cS1 (av := [vl p1, vl 0, vl 3]) (rest := []) ms_X12_within lk_X12_142 dX12_noTook_6 rfl rfl (Nat.le_of_ble_eq_true rfl) (by decide) ⟨rfl, rfl⟩ (rX12_within hq1) <| At.bifeq_t (tgt := 21) dX12_noTook_9 (by decide) c14 <| ?_
    refine At.bipush dX12_noTook_21 (by decide) <| ?_
    obtain rfl := Option.some.inj h
    exact At.iret rfl (Nat.zero_le _) (Nat.zero_le _) ⟨rfl, rfl⟩ dX12_noTook_23
def fX12_isTook_L6 (l1 : Int) (l2 : Int) (l4 : Int) : Nat → Int → Int → SS → Option (Nat × Int × SS)
  | 0, _, _, _ => none
  | n + 1, l5, l6, S =>
    rdA S 148 4 l1 fun v1 =>
    if v1 ≤ l6 then (
      some (1, l5, S)
    ) else (
      rdA S 149 160 (w32 ((w32 (40 * l1)) + l6)) fun v3 =>
      lt (w32 v3) fun x5 =>
      rdA S 131 3303 (w32 (40 + x5)) fun v6 =>
      Option.bind (fX12_whyBy l2 l5 x5 v6 S) fun q8 =>
      if q8.1 = 0 then (
        Option.bind (fX12_goneTo l2 l5 x5 q8.2) fun q9 =>
        lt (w32 (l6 + 1)) fun x10 =>
        fX12_isTook_L6 l1 l2 l4 n q9.1 x10 q9.2
      ) else (
        some (0, 0, q8.2)
      )
    )
def fX12_isTook (p1 : Int) (p2 : Int) (p3 : Int) (p4 : Int) (S : SS) : Option (Bool × SS) :=
  Option.bind (fX12_isTook_L6 p1 p2 p4 FU p3 0 S) fun q1 =>
  if q1.1 = 0 then (
    some (false, q1.2.2)
  ) else (
    if (Int.tmod q1.2.1 20) = p4 then (
      some (true, q1.2.2)
    ) else (
      some (false, q1.2.2)
    )
  )
set_option maxRecDepth 100000 in
set_option maxHeartbeats 4000000 in
theorem lX12_isTook_L6 {G : GG} {Φ : Option VV → MM → Prop} {l1 : Int} {l2 : Int} {l4 : Int} : ∀ (n : Nat) (l5 : Int) (l6 : Int) (S : SS) (q : Nat × Int × SS), fX12_isTook_L6 l1 l2 l4 n l5 l6 S = some q → (q.1 = 0 → At G mX12_isTook 5 54 [] [] (mm q.2.2) 0 0 Φ) → (q.1 = 1 → At G mX12_isTook 5 73 [(4, vi l4), (5, vi q.2.1)] [] (mm q.2.2) 0 0 Φ) → At G mX12_isTook 5 6 [(0, vr 130), (1, vi l1), (2, vi l2), (4, vi l4), (5, vi l5), (6, vi l6)] [] (mm S) 0 0 Φ := by
  intro n
  induction n with
  | zero =>
    intro _ _ _ _ h
    cases h
  | succ n ih =>
    intro l5 l6 S q h K54 K73
    unfold fX12_isTook_L6 at h
    refine At.iload dX12_isTook_6 rfl <| At.aloadn dX12_isTook_8 rfl <| At.getR fl_X12_70 sh_130 (le149 sh_130) rf_130_31 dX12_isTook_9 <| At.iloadn dX12_isTook_12 rfl <| ?_
    obtain ⟨v1, hv1, g2, h⟩ := rdA_e h
    rcases ite_e h with ⟨c12, h⟩ | ⟨c12, h⟩
    · refine At.iald sh_148 (le149 sh_148) g2.1 g2.2 dX12_isTook_13 <| At.nm hv1 <| At.icmp_ge_t (tgt := 73) dX12_isTook_14 (by decide) c12 <| ?_
      obtain rfl := Option.some.inj h
      exact At.sub [3, 4] rfl (K73 rfl)
    · refine At.iald sh_148 (le149 sh_148) g2.1 g2.2 dX12_isTook_13 <| At.nm hv1 <| At.icmp_ge_f (tgt := 73) dX12_isTook_14 (by decide) c12 <| ?_
      refine At.aloadn dX12_isTook_17 rfl <| At.getR fl_X12_73 sh_130 (le149 sh_130) rf_130_32 dX12_isTook_18 <| At.bipush dX12_isTook_21 (by decide) <| At.iloadn dX12_isTook_23 rfl <| At.imul dX12_isTook_24 <| At.iload dX12_isTook_25 rfl <| At.iadd dX12_isTook_27 <| ?_
      obtain ⟨v3, hv3, g4, h⟩ := rdA_e h
      refine At.lald sh_149 (le149 sh_149) g4.1 g4.2 dX12_isTook_28 <| At.nml hv3 <| At.l2i dX12_isTook_29 <| ?_
      obtain ⟨x5, hx5, h⟩ := lt_e h
      refine At.nm hx5 <| At.istore (ls' := [(7, vi x5), (0, vr 130), (1, vi l1), (2, vi l2), (4, vi l4), (5, vi l5), (6, vi l6)]) dX12_isTook_30 (by decide) rfl <| At.aloadn dX12_isTook_32 rfl <| At.iloadn dX12_isTook_33 rfl <| At.iload dX12_isTook_34 rfl <| At.iload dX12_isTook_36 rfl <| At.aloadn dX12_isTook_38 rfl <| At.getR fl_X12_13 sh_130 (le149 sh_130) rf_130_1 dX12_isTook_39 <| At.bipush dX12_isTook_42 (by decide) <| At.iload dX12_isTook_44 rfl <| At.iadd dX12_isTook_46 <| ?_
      obtain ⟨v6, hv6, g7, h⟩ := rdA_e h
      refine At.iald sh_131 (le149 sh_131) g7.1 g7.2 dX12_isTook_47 <| At.nm hv6 <| ?_
      obtain ⟨q8, hq8, h⟩ := bnd_e h
      rcases ite_e h with ⟨c11, h⟩ | ⟨c11, h⟩
      · refine At.cV1 (av := [vi l2, vi l5, vi x5, vi v6]) (rest := []) mv_X12_whyBy lk_X12_242 dX12_isTook_48 rfl rfl sh_130 (Nat.le_of_ble_eq_true rfl) (by decide) ⟨rfl, rfl⟩ (rX12_whyBy hq8) <| At.if_eq_t (tgt := 56) dX12_isTook_51 (by decide) c11 <| ?_
        refine At.aloadn dX12_isTook_56 rfl <| At.iloadn dX12_isTook_57 rfl <| At.iload dX12_isTook_58 rfl <| At.iload dX12_isTook_60 rfl <| ?_
        obtain ⟨q9, hq9, h⟩ := bnd_e h
        refine At.cV1 (av := [vi l2, vi l5, vi x5]) (rest := []) mv_X12_goneTo lk_X12_251 dX12_isTook_62 rfl rfl sh_130 (Nat.le_of_ble_eq_true rfl) (by decide) ⟨rfl, rfl⟩ (rX12_goneTo hq9) <| At.istore (ls' := [(5, vi q9.1), (7, vi x5), (0, vr 130), (1, vi l1), (2, vi l2), (4, vi l4), (6, vi l6)]) dX12_isTook_65 (by decide) rfl <| ?_
        obtain ⟨x10, hx10, h⟩ := lt_e h
        refine At.iinc (ls' := [(6, vi x10), (5, vi q9.1), (7, vi x5), (0, vr 130), (1, vi l1), (2, vi l2), (4, vi l4)]) dX12_isTook_67 rfl (by decide) (by rw [hx10]; rfl) <| At.goto (tgt := 6) dX12_isTook_70 (by decide) <| ?_
        exact At.sub [3, 4, 5, 6, 1, 0] rfl (ih _ _ _ _ h K54 K73)
      · refine At.cV1 (av := [vi l2, vi l5, vi x5, vi v6]) (rest := []) mv_X12_whyBy lk_X12_242 dX12_isTook_48 rfl rfl sh_130 (Nat.le_of_ble_eq_true rfl) (by decide) ⟨rfl, rfl⟩ (rX12_whyBy hq8) <| At.if_eq_f (tgt := 56) dX12_isTook_51 (by decide) c11 <| ?_
        obtain rfl := Option.some.inj h
        exact At.sub [] rfl (K54 rfl)
set_option maxRecDepth 100000 in
set_option maxHeartbeats 4000000 in
theorem rX12_isTook {G : GG} {p1 : Int} {p2 : Int} {p3 : Int} {p4 : Int} {S : SS} {rr : (Bool × SS)} (h : fX12_isTook p1 p2 p3 p4 S = some rr) : RD G mX12_isTook 5 [vr 130, vi p1, vi p2, vi p3, vi p4] S (some (vi (bI rr.1))) rr.2 := by
  unfold fX12_isTook at h
  refine Runs.of pl_X12 (Nat.le_of_ble_eq_true rfl) ?_
  show At G mX12_isTook 5 0 [(0, vr 130), (1, vi p1), (2, vi p2), (3, vi p3), (4, vi p4)] [] (mm S) 0 0 (EQ (some (vi (bI rr.1))) rr.2)
  refine At.iloadn dX12_isTook_0 rfl <| At.istore (ls' := [(5, vi p3), (0, vr 130), (1, vi p1), (2, vi p2), (3, vi p3), (4, vi p4)]) dX12_isTook_1 (by decide) rfl <| At.iconst dX12_isTook_3 (by decide) <| At.istore (ls' := [(6, vi 0), (5, vi p3), (0, vr 130), (1, vi p1), (2, vi p2), (3, vi p3), (4, vi p4)]) dX12_isTook_4 (by decide) rfl <| ?_
  obtain ⟨q1, ho2, h⟩ := bnd_e h
  refine At.sub [2, 3, 4, 6, 1, 0] rfl (lX12_isTook_L6 FU _ _ _ q1 ho2 (fun hq => ?_) (fun hq => ?_))
  · rw [if_pos hq] at h
    refine At.iconst dX12_isTook_54 (by decide) <| ?_
    obtain rfl := Option.some.inj h
    exact At.zret (b := false) rfl (Nat.zero_le _) (Nat.zero_le _) ⟨rfl, rfl⟩ dX12_isTook_55
  · rw [if_neg (by omega)] at h
    rcases ite_e h with ⟨c3, h⟩ | ⟨c3, h⟩
    · refine At.iload dX12_isTook_73 rfl <| At.bipush dX12_isTook_75 (by decide) <| At.irem dX12_isTook_77 (by decide) <| At.iload dX12_isTook_78 rfl <| At.icmp_ne_f (tgt := 87) dX12_isTook_80 (by decide) c3 <| ?_
      refine At.iconst dX12_isTook_83 (by decide) <| At.goto (tgt := 88) dX12_isTook_84 (by decide) <| ?_
      obtain rfl := Option.some.inj h
      exact At.zret (b := true) rfl (Nat.zero_le _) (Nat.zero_le _) ⟨rfl, rfl⟩ dX12_isTook_88
    · refine At.iload dX12_isTook_73 rfl <| At.bipush dX12_isTook_75 (by decide) <| At.irem dX12_isTook_77 (by decide) <| At.iload dX12_isTook_78 rfl <| At.icmp_ne_t (tgt := 87) dX12_isTook_80 (by decide) c3 <| ?_
      refine At.iconst dX12_isTook_87 (by decide) <| ?_
      obtain rfl := Option.some.inj h
      exact At.zret (b := false) rfl (Nat.zero_le _) (Nat.zero_le _) ⟨rfl, rfl⟩ dX12_isTook_88
def fX12_from_L28 (l1 : Int) (l2 : Int) (l3 : Int) : Nat → Int → Int → SS → Option (Int × SS)
  | 0, _, _, _ => none
  | n + 1, l5, l6, S =>
    rdA S 131 3303 1 fun v1 =>
    if v1 ≤ l6 then (
      some (l5, S)
    ) else (
      rdA S 131 3303 (w32 (37 + l2)) fun v3 =>
      Option.bind (fX12_isTook l1 l2 (w32 ((w32 (20 * l6)) + v3)) l3 S) fun q5 =>
      Option.bind (
        if q5.1 = true then (
          some (jshl 1 l6)
        ) else (
          some 0
        )
        : Option (Int)) fun q6 =>
      lt (jor l5 q6) fun x8 =>
      lt (w32 (l6 + 1)) fun x9 =>
      fX12_from_L28 l1 l2 l3 n x8 x9 q5.2
    )
def fX12_from (p1 : Int) (p2 : Int) (p3 : Int) (S : SS) : Option (Int × SS) :=
  lt (up S 130 0 0) fun S1 =>
  Option.bind (fX12_noTook p1 p2 p3 S1) fun q2 =>
  if q2 = 0 then (
    Option.bind (fX12_from_L28 p1 p2 p3 FU 0 0 S1) fun q3 =>
    some (q3.1, q3.2)
  ) else (
    some (q2, S1)
  )
set_option maxRecDepth 100000 in
set_option maxHeartbeats 4000000 in
theorem lX12_from_L28 {G : GG} {Φ : Option VV → MM → Prop} {l1 : Int} {l2 : Int} {l3 : Int} : ∀ (n : Nat) (l5 : Int) (l6 : Int) (S : SS) (q : Int × SS), fX12_from_L28 l1 l2 l3 n l5 l6 S = some q → At G mX12_from 6 83 [(5, vi q.1)] [] (mm q.2) 0 0 Φ → At G mX12_from 6 28 [(0, vr 130), (1, vi l1), (2, vi l2), (3, vi l3), (5, vi l5), (6, vi l6)] [] (mm S) 0 0 Φ := by
  intro n
  induction n with
  | zero =>
    intro _ _ _ _ h
    cases h
  | succ n ih =>
    intro l5 l6 S q h K83
    unfold fX12_from_L28 at h
    refine At.iload dX12_from_28 rfl <| At.aloadn dX12_from_30 rfl <| At.getR fl_X12_13 sh_130 (le149 sh_130) rf_130_1 dX12_from_31 <| At.iconst dX12_from_34 (by decide) <| ?_
    obtain ⟨v1, hv1, g2, h⟩ := rdA_e h
    rcases ite_e h with ⟨c10, h⟩ | ⟨c10, h⟩
    · refine At.iald sh_131 (le149 sh_131) g2.1 g2.2 dX12_from_35 <| At.nm hv1 <| At.icmp_ge_t (tgt := 83) dX12_from_36 (by decide) c10 <| ?_
      obtain rfl := Option.some.inj h
      exact At.sub [4] rfl K83
    · refine At.iald sh_131 (le149 sh_131) g2.1 g2.2 dX12_from_35 <| At.nm hv1 <| At.icmp_ge_f (tgt := 83) dX12_from_36 (by decide) c10 <| ?_
      refine At.iload dX12_from_39 rfl <| At.aloadn dX12_from_41 rfl <| At.iloadn dX12_from_42 rfl <| At.iloadn dX12_from_43 rfl <| At.bipush dX12_from_44 (by decide) <| At.iload dX12_from_46 rfl <| At.imul dX12_from_48 <| At.aloadn dX12_from_49 rfl <| At.getR fl_X12_13 sh_130 (le149 sh_130) rf_130_1 dX12_from_50 <| At.bipush dX12_from_53 (by decide) <| At.iloadn dX12_from_55 rfl <| At.iadd dX12_from_56 <| ?_
      obtain ⟨v3, hv3, g4, h⟩ := rdA_e h
      refine At.iald sh_131 (le149 sh_131) g4.1 g4.2 dX12_from_57 <| At.nm hv3 <| At.iadd dX12_from_58 <| At.iloadn dX12_from_59 rfl <| ?_
      obtain ⟨q5, hq5, h⟩ := bnd_e h
      obtain ⟨q6, hj74, h⟩ := bnd_e h
      have K74 : At G mX12_from 6 74 [(0, vr 130), (1, vi l1), (2, vi l2), (3, vi l3), (6, vi l6)] [vi q6, vi l5] (mm q5.2) 0 0 Φ := by
        refine At.ior dX12_from_74 <| ?_
        obtain ⟨x8, hx8, h⟩ := lt_e h
        refine At.nm hx8 <| At.istore (ls' := [(5, vi x8), (0, vr 130), (1, vi l1), (2, vi l2), (3, vi l3), (6, vi l6)]) dX12_from_75 (by decide) rfl <| ?_
        obtain ⟨x9, hx9, h⟩ := lt_e h
        refine At.iinc (ls' := [(6, vi x9), (5, vi x8), (0, vr 130), (1, vi l1), (2, vi l2), (3, vi l3)]) dX12_from_77 rfl (by decide) (by rw [hx9]; rfl) <| At.goto (tgt := 28) dX12_from_80 (by decide) <| ?_
        exact At.sub [2, 3, 4, 5, 1, 0] rfl (ih _ _ _ _ h K83)
      clear h; have h := hj74; clear hj74
      rcases ite_e h with ⟨c7, h⟩ | ⟨c7, h⟩
      · refine At.cV1 (av := [vi l1, vi l2, vi (w32 ((w32 (20 * l6)) + v3)), vi l3]) (rest := [vi l5]) mv_X12_isTook lk_X12_408 dX12_from_60 rfl rfl sh_130 (Nat.le_of_ble_eq_true rfl) (by decide) ⟨rfl, rfl⟩ (rX12_isTook hq5) <| At.bifeq_f (tgt := 73) dX12_from_63 (by decide) c7 <| ?_
        refine At.iconst dX12_from_66 (by decide) <| At.iload dX12_from_67 rfl <| At.ishl dX12_from_69 <| At.goto (tgt := 74) dX12_from_70 (by decide) <| ?_
        obtain rfl := Option.some.inj h
        exact At.sub [0, 1, 2, 3, 5] rfl K74
      · refine At.cV1 (av := [vi l1, vi l2, vi (w32 ((w32 (20 * l6)) + v3)), vi l3]) (rest := [vi l5]) mv_X12_isTook lk_X12_408 dX12_from_60 rfl rfl sh_130 (Nat.le_of_ble_eq_true rfl) (by decide) ⟨rfl, rfl⟩ (rX12_isTook hq5) <| At.bifeq_t (tgt := 73) dX12_from_63 (by decide) c7 <| ?_
        refine At.iconst dX12_from_73 (by decide) <| ?_
        obtain rfl := Option.some.inj h
        exact At.sub [0, 1, 2, 3, 5] rfl K74
set_option maxRecDepth 100000 in
set_option maxHeartbeats 4000000 in
theorem rX12_from {G : GG} {p1 : Int} {p2 : Int} {p3 : Int} {S : SS} {rr : (Int × SS)} (h : fX12_from p1 p2 p3 S = some rr) : RD G mX12_from 6 [vr 130, vi p1, vi p2, vi p3] S (some (vi rr.1)) rr.2 := by
  unfold fX12_from at h
  refine Runs.of pl_X12 (Nat.le_of_ble_eq_true rfl) ?_
  show At G mX12_from 6 0 [(0, vr 130), (1, vi p1), (2, vi p2), (3, vi p3)] [] (mm S) 0 0 (EQ (some (vi rr.1)) rr.2)
  refine At.aloadn dX12_from_0 rfl <| At.iconst dX12_from_1 (by decide) <| ?_
  obtain ⟨S1, hS1, h⟩ := lt_e h
  refine At.putI fw_X12_1 sh_130 (le149 sh_130) dX12_from_2 <| At.nmS hS1 <| At.aloadn dX12_from_5 rfl <| At.iloadn dX12_from_6 rfl <| At.iloadn dX12_from_7 rfl <| At.iloadn dX12_from_8 rfl <| ?_
  obtain ⟨q2, hq2, h⟩ := bnd_e h
  rcases ite_e h with ⟨c5, h⟩ | ⟨c5, h⟩
  · refine At.cV1 (av := [vi p1, vi p2, vi p3]) (rest := []) mv_X12_noTook lk_X12_405 dX12_from_9 rfl rfl sh_130 (Nat.le_of_ble_eq_true rfl) (by decide) ⟨rfl, rfl⟩ (rX12_noTook hq2) <| At.istore (ls' := [(4, vi q2), (0, vr 130), (1, vi p1), (2, vi p2), (3, vi p3)]) dX12_from_12 (by decide) rfl <| At.iload dX12_from_14 rfl <| At.if_eq_t (tgt := 22) dX12_from_16 (by decide) c5 <| ?_
    refine At.iconst dX12_from_22 (by decide) <| At.istore (ls' := [(5, vi 0), (4, vi q2), (0, vr 130), (1, vi p1), (2, vi p2), (3, vi p3)]) dX12_from_23 (by decide) rfl <| At.iconst dX12_from_25 (by decide) <| At.istore (ls' := [(6, vi 0), (5, vi 0), (4, vi q2), (0, vr 130), (1, vi p1), (2, vi p2), (3, vi p3)]) dX12_from_26 (by decide) rfl <| ?_
    obtain ⟨q3, ho4, h⟩ := bnd_e h
    refine At.sub [3, 4, 5, 6, 1, 0] rfl (lX12_from_L28 FU _ _ _ q3 ho4 ?_)
    refine At.iload dX12_from_83 rfl <| ?_
    obtain rfl := Option.some.inj h
    exact At.iret rfl (Nat.zero_le _) (Nat.zero_le _) ⟨rfl, rfl⟩ dX12_from_85
  · refine At.cV1 (av := [vi p1, vi p2, vi p3]) (rest := []) mv_X12_noTook lk_X12_405 dX12_from_9 rfl rfl sh_130 (Nat.le_of_ble_eq_true rfl) (by decide) ⟨rfl, rfl⟩ (rX12_noTook hq2) <| At.istore (ls' := [(4, vi q2), (0, vr 130), (1, vi p1), (2, vi p2), (3, vi p3)]) dX12_from_12 (by decide) rfl <| At.iload dX12_from_14 rfl <| At.if_eq_f (tgt := 22) dX12_from_16 (by decide) c5 <| ?_
    refine At.iload dX12_from_19 rfl <| ?_
    obtain rfl := Option.some.inj h
    exact At.iret rfl (Nat.zero_le _) (Nat.zero_le _) ⟨rfl, rfl⟩ dX12_from_21
def fX12_bollardsOf_L15 (l1 : Int) (l2 : Int) (l3 : Int) (l4 : Int) : Nat → Int → Int → SS → Option (Int × SS)
  | 0, _, _, _ => none
  | n + 1, l5, l6, S =>
    if 10 ≤ l6 then (
      some (l5, S)
    ) else (
      wrA S 131 3303 48 l6 fun S1 =>
      Option.bind (fX12_standOf l2 S1) fun q3 =>
      Option.bind (fX12_isTook l1 l2 q3 l3 S1) fun q4 =>
      Option.bind (
        if q4.1 = true then (
          some (jshl 1 l6)
        ) else (
          some 0
        )
        : Option (Int)) fun q5 =>
      lt (jor l5 q5) fun x7 =>
      lt (w32 (l6 + 1)) fun x8 =>
      fX12_bollardsOf_L15 l1 l2 l3 l4 n x7 x8 q4.2
    )
def fX12_bollardsOf (p1 : Int) (p2 : Int) (p3 : Int) (S : SS) : Option (Int × SS) :=
  rdA S 131 3303 48 fun v1 =>
  Option.bind (fX12_bollardsOf_L15 p1 p2 p3 v1 FU 0 0 S) fun q3 =>
  wrA q3.2 131 3303 48 v1 fun S5 =>
  some (q3.1, S5)
set_option maxRecDepth 100000 in
set_option maxHeartbeats 4000000 in
theorem lX12_bollardsOf_L15 {G : GG} {Φ : Option VV → MM → Prop} {l1 : Int} {l2 : Int} {l3 : Int} {l4 : Int} : ∀ (n : Nat) (l5 : Int) (l6 : Int) (S : SS) (q : Int × SS), fX12_bollardsOf_L15 l1 l2 l3 l4 n l5 l6 S = some q → At G mX12_bollardsOf 6 65 [(0, vr 130), (4, vi l4), (5, vi q.1)] [] (mm q.2) 0 0 Φ → At G mX12_bollardsOf 6 15 [(0, vr 130), (1, vi l1), (2, vi l2), (3, vi l3), (4, vi l4), (5, vi l5), (6, vi l6)] [] (mm S) 0 0 Φ := by
  intro n
  induction n with
  | zero =>
    intro _ _ _ _ h
    cases h
  | succ n ih =>
    intro l5 l6 S q h K65
    unfold fX12_bollardsOf_L15 at h
    rcases ite_e h with ⟨c9, h⟩ | ⟨c9, h⟩
    · refine At.iload dX12_bollardsOf_15 rfl <| At.bipush dX12_bollardsOf_17 (by decide) <| At.icmp_ge_t (tgt := 65) dX12_bollardsOf_19 (by decide) c9 <| ?_
      obtain rfl := Option.some.inj h
      exact At.sub [0, 4, 5] rfl K65
    · refine At.iload dX12_bollardsOf_15 rfl <| At.bipush dX12_bollardsOf_17 (by decide) <| At.icmp_ge_f (tgt := 65) dX12_bollardsOf_19 (by decide) c9 <| ?_
      refine At.aloadn dX12_bollardsOf_22 rfl <| At.getR fl_X12_13 sh_130 (le149 sh_130) rf_130_1 dX12_bollardsOf_23 <| At.bipush dX12_bollardsOf_26 (by decide) <| At.iload dX12_bollardsOf_28 rfl <| ?_
      obtain ⟨S1, hS1, g2, h⟩ := wrA_e h
      refine At.iast sh_131 (le149 sh_131) g2.1 g2.2 dX12_bollardsOf_30 <| At.nmS hS1 <| At.iload dX12_bollardsOf_31 rfl <| At.aloadn dX12_bollardsOf_33 rfl <| At.iloadn dX12_bollardsOf_34 rfl <| At.iloadn dX12_bollardsOf_35 rfl <| At.aloadn dX12_bollardsOf_36 rfl <| At.iloadn dX12_bollardsOf_37 rfl <| ?_
      obtain ⟨q3, hq3, h⟩ := bnd_e h
      refine At.cV1 (av := [vi l2]) (rest := [vi l2, vi l1, vr 130, vi l5]) mv_X12_standOf lk_X12_239 dX12_bollardsOf_38 rfl rfl sh_130 (Nat.le_of_ble_eq_true rfl) (by decide) ⟨rfl, rfl⟩ (rX12_standOf hq3) <| At.iloadn dX12_bollardsOf_41 rfl <| ?_
      obtain ⟨q4, hq4, h⟩ := bnd_e h
      obtain ⟨q5, hj56, h⟩ := bnd_e h
      have K56 : At G mX12_bollardsOf 6 56 [(0, vr 130), (1, vi l1), (2, vi l2), (3, vi l3), (4, vi l4), (6, vi l6)] [vi q5, vi l5] (mm q4.2) 0 0 Φ := by
        refine At.ior dX12_bollardsOf_56 <| ?_
        obtain ⟨x7, hx7, h⟩ := lt_e h
        refine At.nm hx7 <| At.istore (ls' := [(5, vi x7), (0, vr 130), (1, vi l1), (2, vi l2), (3, vi l3), (4, vi l4), (6, vi l6)]) dX12_bollardsOf_57 (by decide) rfl <| ?_
        obtain ⟨x8, hx8, h⟩ := lt_e h
        refine At.iinc (ls' := [(6, vi x8), (5, vi x7), (0, vr 130), (1, vi l1), (2, vi l2), (3, vi l3), (4, vi l4)]) dX12_bollardsOf_59 rfl (by decide) (by rw [hx8]; rfl) <| At.goto (tgt := 15) dX12_bollardsOf_62 (by decide) <| ?_
        exact At.sub [2, 3, 4, 5, 6, 1, 0] rfl (ih _ _ _ _ h K65)
      clear h; have h := hj56; clear hj56
      rcases ite_e h with ⟨c6, h⟩ | ⟨c6, h⟩
      · refine At.cV1 (av := [vi l1, vi l2, vi q3, vi l3]) (rest := [vi l5]) mv_X12_isTook lk_X12_408 dX12_bollardsOf_42 rfl rfl sh_130 (Nat.le_of_ble_eq_true rfl) (by decide) ⟨rfl, rfl⟩ (rX12_isTook hq4) <| At.bifeq_f (tgt := 55) dX12_bollardsOf_45 (by decide) c6 <| ?_
        refine At.iconst dX12_bollardsOf_48 (by decide) <| At.iload dX12_bollardsOf_49 rfl <| At.ishl dX12_bollardsOf_51 <| At.goto (tgt := 56) dX12_bollardsOf_52 (by decide) <| ?_
        obtain rfl := Option.some.inj h
        exact At.sub [0, 1, 2, 3, 4, 6] rfl K56
      · refine At.cV1 (av := [vi l1, vi l2, vi q3, vi l3]) (rest := [vi l5]) mv_X12_isTook lk_X12_408 dX12_bollardsOf_42 rfl rfl sh_130 (Nat.le_of_ble_eq_true rfl) (by decide) ⟨rfl, rfl⟩ (rX12_isTook hq4) <| At.bifeq_t (tgt := 55) dX12_bollardsOf_45 (by decide) c6 <| ?_
        refine At.iconst dX12_bollardsOf_55 (by decide) <| ?_
        obtain rfl := Option.some.inj h
        exact At.sub [0, 1, 2, 3, 4, 6] rfl K56
set_option maxRecDepth 100000 in
set_option maxHeartbeats 4000000 in
theorem rX12_bollardsOf {G : GG} {p1 : Int} {p2 : Int} {p3 : Int} {S : SS} {rr : (Int × SS)} (h : fX12_bollardsOf p1 p2 p3 S = some rr) : RD G mX12_bollardsOf 6 [vr 130, vi p1, vi p2, vi p3] S (some (vi rr.1)) rr.2 := by
  unfold fX12_bollardsOf at h
  refine Runs.of pl_X12 (Nat.le_of_ble_eq_true rfl) ?_
  show At G mX12_bollardsOf 6 0 [(0, vr 130), (1, vi p1), (2, vi p2), (3, vi p3)] [] (mm S) 0 0 (EQ (some (vi rr.1)) rr.2)
  refine At.aloadn dX12_bollardsOf_0 rfl <| At.getR fl_X12_13 sh_130 (le149 sh_130) rf_130_1 dX12_bollardsOf_1 <| At.bipush dX12_bollardsOf_4 (by decide) <| ?_
  obtain ⟨v1, hv1, g2, h⟩ := rdA_e h
  refine At.iald sh_131 (le149 sh_131) g2.1 g2.2 dX12_bollardsOf_6 <| At.nm hv1 <| At.istore (ls' := [(4, vi v1), (0, vr 130), (1, vi p1), (2, vi p2), (3, vi p3)]) dX12_bollardsOf_7 (by decide) rfl <| At.iconst dX12_bollardsOf_9 (by decide) <| At.istore (ls' := [(5, vi 0), (4, vi v1), (0, vr 130), (1, vi p1), (2, vi p2), (3, vi p3)]) dX12_bollardsOf_10 (by decide) rfl <| At.iconst dX12_bollardsOf_12 (by decide) <| At.istore (ls' := [(6, vi 0), (5, vi 0), (4, vi v1), (0, vr 130), (1, vi p1), (2, vi p2), (3, vi p3)]) dX12_bollardsOf_13 (by decide) rfl <| ?_
  obtain ⟨q3, ho4, h⟩ := bnd_e h
  refine At.sub [3, 4, 5, 6, 2, 1, 0] rfl (lX12_bollardsOf_L15 FU _ _ _ q3 ho4 ?_)
  refine At.aloadn dX12_bollardsOf_65 rfl <| At.getR fl_X12_13 sh_130 (le149 sh_130) rf_130_1 dX12_bollardsOf_66 <| At.bipush dX12_bollardsOf_69 (by decide) <| At.iload dX12_bollardsOf_71 rfl <| ?_
  obtain ⟨S5, hS5, g6, h⟩ := wrA_e h
  refine At.iast sh_131 (le149 sh_131) g6.1 g6.2 dX12_bollardsOf_73 <| At.nmS hS5 <| At.iload dX12_bollardsOf_74 rfl <| ?_
  obtain rfl := Option.some.inj h
  exact At.iret rfl (Nat.zero_le _) (Nat.zero_le _) ⟨rfl, rfl⟩ dX12_bollardsOf_76
def fX12_bollardsBy (p1 : Int) (p2 : Int) (p3 : Int) (S : SS) : Option (Int × SS) :=
  lt (up S 130 0 0) fun S1 =>
  Option.bind (fX12_noTook p1 p2 p3 S1) fun q2 =>
  if q2 = 0 then (
    Option.bind (fX12_bollardsOf p1 p2 p3 S1) fun q3 =>
    some (q3.1, q3.2)
  ) else (
    some (q2, S1)
  )
set_option maxRecDepth 100000 in
set_option maxHeartbeats 4000000 in
theorem rX12_bollardsBy {G : GG} {p1 : Int} {p2 : Int} {p3 : Int} {S : SS} {rr : (Int × SS)} (h : fX12_bollardsBy p1 p2 p3 S = some rr) : RD G mX12_bollardsBy 7 [vr 130, vi p1, vi p2, vi p3] S (some (vi rr.1)) rr.2 := by
  unfold fX12_bollardsBy at h
  refine Runs.of pl_X12 (Nat.le_of_ble_eq_true rfl) ?_
  show At G mX12_bollardsBy 7 0 [(0, vr 130), (1, vi p1), (2, vi p2), (3, vi p3)] [] (mm S) 0 0 (EQ (some (vi rr.1)) rr.2)
  refine At.aloadn dX12_bollardsBy_0 rfl <| At.iconst dX12_bollardsBy_1 (by decide) <| ?_
  obtain ⟨S1, hS1, h⟩ := lt_e h
  refine At.putI fw_X12_1 sh_130 (le149 sh_130) dX12_bollardsBy_2 <| At.nmS hS1 <| At.aloadn dX12_bollardsBy_5 rfl <| At.iloadn dX12_bollardsBy_6 rfl <| At.iloadn dX12_bollardsBy_7 rfl <| At.iloadn dX12_bollardsBy_8 rfl <| ?_
  obtain ⟨q2, hq2, h⟩ := bnd_e h
  rcases ite_e h with ⟨c4, h⟩ | ⟨c4, h⟩
  · refine At.cV1 (av := [vi p1, vi p2, vi p3]) (rest := []) mv_X12_noTook lk_X12_405 dX12_bollardsBy_9 rfl rfl sh_130 (Nat.le_of_ble_eq_true rfl) (by decide) ⟨rfl, rfl⟩ (rX12_noTook hq2) <| At.istore (ls' := [(4, vi q2), (0, vr 130), (1, vi p1), (2, vi p2), (3, vi p3)]) dX12_bollardsBy_12 (by decide) rfl <| At.iload dX12_bollardsBy_14 rfl <| At.if_eq_t (tgt := 24) dX12_bollardsBy_16 (by decide) c4 <| ?_
    refine At.aloadn dX12_bollardsBy_24 rfl <| At.iloadn dX12_bollardsBy_25 rfl <| At.iloadn dX12_bollardsBy_26 rfl <| At.iloadn dX12_bollardsBy_27 rfl <| ?_
    obtain ⟨q3, hq3, h⟩ := bnd_e h
    refine At.cV1 (av := [vi p1, vi p2, vi p3]) (rest := []) mv_X12_bollardsOf lk_X12_412 dX12_bollardsBy_28 rfl rfl sh_130 (Nat.le_of_ble_eq_true rfl) (by decide) ⟨rfl, rfl⟩ (rX12_bollardsOf hq3) <| ?_
    obtain rfl := Option.some.inj h
    exact At.iret rfl (Nat.zero_le _) (Nat.zero_le _) ⟨rfl, rfl⟩ dX12_bollardsBy_31
  · refine At.cV1 (av := [vi p1, vi p2, vi p3]) (rest := []) mv_X12_noTook lk_X12_405 dX12_bollardsBy_9 rfl rfl sh_130 (Nat.le_of_ble_eq_true rfl) (by decide) ⟨rfl, rfl⟩ (rX12_noTook hq2) <| At.istore (ls' := [(4, vi q2), (0, vr 130), (1, vi p1), (2, vi p2), (3, vi p3)]) dX12_bollardsBy_12 (by decide) rfl <| At.iload dX12_bollardsBy_14 rfl <| At.if_eq_f (tgt := 24) dX12_bollardsBy_16 (by decide) c4 <| ?_
    refine At.iload dX12_bollardsBy_19 rfl <| At.goto (tgt := 31) dX12_bollardsBy_21 (by decide) <| ?_
    obtain rfl := Option.some.inj h
    exact At.iret rfl (Nat.zero_le _) (Nat.zero_le _) ⟨rfl, rfl⟩ dX12_bollardsBy_31
def fX12_mostOften_L15 (l1 : Int) (l2 : Int) (l3 : Int) (l4 : Int) (l5 : Int) : Nat → Int → SS → Option (SS)
  | 0, _, _ => none
  | n + 1, l6, S =>
    if 20 ≤ l6 then (
      some S
    ) else (
      wrA S 146 20 l6 0 fun S1 =>
      lt (w32 (l6 + 1)) fun x3 =>
      fX12_mostOften_L15 l1 l2 l3 l4 l5 n x3 S1
    )
def fX12_mostOften_L39 (l1 : Int) (l2 : Int) (l3 : Int) (l4 : Int) : Nat → Int → Int → SS → Option (Int × SS)
  | 0, _, _, _ => none
  | n + 1, l5, l6, S =>
    if 10 ≤ l6 then (
      some (l5, S)
    ) else (
      Option.bind (fX12_isIn l3 l6) fun q1 =>
      Option.bind (
        if q1 = true then (
          wrA S 131 3303 48 l6 fun S3 =>
          Option.bind (fX12_whyGo l1 l2 S3) fun q5 =>
          Option.bind (
            if q5.1 = 0 then (
              Option.bind (fX12_standOf l1 q5.2) fun q7 =>
              Option.bind (fX12_goneTo l1 q7 l2 q5.2) fun q8 =>
              some (Int.tmod q8.1 20, q8.2)
            ) else (
              rdA q5.2 131 3303 (w32 (37 + l1)) fun v9 =>
              some (v9, q5.2)
            )
            : Option (Int × SS)) fun q6 =>
          rdA q6.2 146 20 q6.1 fun v12 =>
          wrA q6.2 146 20 q6.1 (w32 (v12 + 1)) fun S14 =>
          rdA S14 146 20 q6.1 fun v16 =>
          Option.bind (
            if v16 ≤ l5 then (
              some l5
            ) else (
              rdA S14 146 20 q6.1 fun v19 =>
              some v19
            )
            : Option (Int)) fun q18 =>
          some (q18, S14)
        ) else (
          some (l5, S)
        )
        : Option (Int × SS)) fun q2 =>
      lt (w32 (l6 + 1)) fun x23 =>
      fX12_mostOften_L39 l1 l2 l3 l4 n q2.1 x23 q2.2
    )
def fX12_mostOften (p1 : Int) (p2 : Int) (p3 : Int) (S : SS) : Option (Int × SS) :=
  rdA S 131 3303 48 fun v1 =>
  Option.bind (fX12_mostOften_L15 p1 p2 p3 v1 0 FU 0 S) fun q3 =>
  Option.bind (fX12_mostOften_L39 p1 p2 p3 v1 FU 0 0 q3) fun q5 =>
  wrA q5.2 131 3303 48 v1 fun S7 =>
  some (q5.1, S7)
set_option maxRecDepth 100000 in
set_option maxHeartbeats 4000000 in
theorem lX12_mostOften_L15 {G : GG} {Φ : Option VV → MM → Prop} {l1 : Int} {l2 : Int} {l3 : Int} {l4 : Int} {l5 : Int} : ∀ (n : Nat) (l6 : Int) (S : SS) (q : SS), fX12_mostOften_L15 l1 l2 l3 l4 l5 n l6 S = some q → At G mX12_mostOften 6 36 [(0, vr 130), (1, vi l1), (2, vi l2), (3, vi l3), (4, vi l4), (5, vi l5)] [] (mm q) 0 0 Φ → At G mX12_mostOften 6 15 [(0, vr 130), (1, vi l1), (2, vi l2), (3, vi l3), (4, vi l4), (5, vi l5), (6, vi l6)] [] (mm S) 0 0 Φ := by
  intro n
  induction n with
  | zero =>
    intro _ _ _ h
    cases h
  | succ n ih =>
    intro l6 S q h K36
    unfold fX12_mostOften_L15 at h
    rcases ite_e h with ⟨c4, h⟩ | ⟨c4, h⟩
    · refine At.iload dX12_mostOften_15 rfl <| At.bipush dX12_mostOften_17 (by decide) <| At.icmp_ge_t (tgt := 36) dX12_mostOften_19 (by decide) c4 <| ?_
      obtain rfl := Option.some.inj h
      exact At.sub [0, 1, 2, 3, 4, 5] rfl K36
    · refine At.iload dX12_mostOften_15 rfl <| At.bipush dX12_mostOften_17 (by decide) <| At.icmp_ge_f (tgt := 36) dX12_mostOften_19 (by decide) c4 <| ?_
      refine At.aloadn dX12_mostOften_22 rfl <| At.getR fl_X12_64 sh_130 (le149 sh_130) rf_130_29 dX12_mostOften_23 <| At.iload dX12_mostOften_26 rfl <| At.iconst dX12_mostOften_28 (by decide) <| ?_
      obtain ⟨S1, hS1, g2, h⟩ := wrA_e h
      refine At.iast sh_146 (le149 sh_146) g2.1 g2.2 dX12_mostOften_29 <| At.nmS hS1 <| ?_
      obtain ⟨x3, hx3, h⟩ := lt_e h
      refine At.iinc (ls' := [(6, vi x3), (0, vr 130), (1, vi l1), (2, vi l2), (3, vi l3), (4, vi l4), (5, vi l5)]) dX12_mostOften_30 rfl (by decide) (by rw [hx3]; rfl) <| At.goto (tgt := 15) dX12_mostOften_33 (by decide) <| ?_
      exact At.sub [1, 2, 3, 4, 5, 6, 0] rfl (ih _ _ _ h K36)
set_option maxRecDepth 100000 in
set_option maxHeartbeats 4000000 in
theorem lX12_mostOften_L39 {G : GG} {Φ : Option VV → MM → Prop} {l1 : Int} {l2 : Int} {l3 : Int} {l4 : Int} : ∀ (n : Nat) (l5 : Int) (l6 : Int) (S : SS) (q : Int × SS), fX12_mostOften_L39 l1 l2 l3 l4 n l5 l6 S = some q → At G mX12_mostOften 6 150 [(0, vr 130), (4, vi l4), (5, vi q.1)] [] (mm q.2) 0 0 Φ → At G mX12_mostOften 6 39 [(0, vr 130), (1, vi l1), (2, vi l2), (3, vi l3), (4, vi l4), (5, vi l5), (6, vi l6)] [] (mm S) 0 0 Φ := by
  intro n
  induction n with
  | zero =>
    intro _ _ _ _ h
    cases h
  | succ n ih =>
    intro l5 l6 S q h K150
    unfold fX12_mostOften_L39 at h
    rcases ite_e h with ⟨c24, h⟩ | ⟨c24, h⟩
    · refine At.iload dX12_mostOften_39 rfl <| At.bipush dX12_mostOften_41 (by decide) <| At.icmp_ge_t (tgt := 150) dX12_mostOften_43 (by decide) c24 <| ?_
      obtain rfl := Option.some.inj h
      exact At.sub [0, 4, 5] rfl K150
    · refine At.iload dX12_mostOften_39 rfl <| At.bipush dX12_mostOften_41 (by decide) <| At.icmp_ge_f (tgt := 150) dX12_mostOften_43 (by decide) c24 <| ?_
      refine At.iloadn dX12_mostOften_46 rfl <| At.i2l dX12_mostOften_47 <| At.iload dX12_mostOften_48 rfl <| ?_
      obtain ⟨q1, hq1, h⟩ := bnd_e h
      obtain ⟨q2, hj144, h⟩ := bnd_e h
      have K144 : At G mX12_mostOften 6 144 [(0, vr 130), (1, vi l1), (2, vi l2), (3, vi l3), (4, vi l4), (5, vi q2.1), (6, vi l6)] [] (mm q2.2) 0 0 Φ := by
        obtain ⟨x23, hx23, h⟩ := lt_e h
        refine At.iinc (ls' := [(6, vi x23), (0, vr 130), (1, vi l1), (2, vi l2), (3, vi l3), (4, vi l4), (5, vi q2.1)]) dX12_mostOften_144 rfl (by decide) (by rw [hx23]; rfl) <| At.goto (tgt := 39) dX12_mostOften_147 (by decide) <| ?_
        exact At.sub [1, 2, 3, 4, 5, 6, 0] rfl (ih _ _ _ _ h K150)
      clear h; have h := hj144; clear hj144
      rcases ite_e h with ⟨c22, h⟩ | ⟨c22, h⟩
      · refine At.cS1 (av := [vl l3, vi l6]) (rest := []) ms_X12_isIn lk_X12_324 dX12_mostOften_50 rfl rfl (Nat.le_of_ble_eq_true rfl) (by decide) ⟨rfl, rfl⟩ (rX12_isIn hq1) <| At.bifne_t (tgt := 59) dX12_mostOften_53 (by decide) c22 <| ?_
        refine At.aloadn dX12_mostOften_59 rfl <| At.getR fl_X12_13 sh_130 (le149 sh_130) rf_130_1 dX12_mostOften_60 <| At.bipush dX12_mostOften_63 (by decide) <| At.iload dX12_mostOften_65 rfl <| ?_
        obtain ⟨S3, hS3, g4, h⟩ := wrA_e h
        refine At.iast sh_131 (le149 sh_131) g4.1 g4.2 dX12_mostOften_67 <| At.nmS hS3 <| At.aloadn dX12_mostOften_68 rfl <| At.iloadn dX12_mostOften_69 rfl <| At.i2l dX12_mostOften_70 <| At.iloadn dX12_mostOften_71 rfl <| At.i2l dX12_mostOften_72 <| ?_
        obtain ⟨q5, hq5, h⟩ := bnd_e h
        obtain ⟨q6, hj105, h⟩ := bnd_e h
        have K105 : At G mX12_mostOften 6 105 [(0, vr 130), (1, vi l1), (2, vi l2), (3, vi l3), (4, vi l4), (5, vi l5), (6, vi l6)] [vi q6.1] (mm q6.2) 0 0 Φ := by
          refine At.istore (ls' := [(7, vi q6.1), (0, vr 130), (1, vi l1), (2, vi l2), (3, vi l3), (4, vi l4), (5, vi l5), (6, vi l6)]) dX12_mostOften_105 (by decide) rfl <| At.aloadn dX12_mostOften_107 rfl <| At.getR fl_X12_64 sh_130 (le149 sh_130) rf_130_29 dX12_mostOften_108 <| At.iload dX12_mostOften_111 rfl <| At.dup2 rfl rfl dX12_mostOften_113 <| ?_
          obtain ⟨v12, hv12, g13, h⟩ := rdA_e h
          refine At.iald sh_146 (le149 sh_146) g13.1 g13.2 dX12_mostOften_114 <| At.nm hv12 <| At.iconst dX12_mostOften_115 (by decide) <| At.iadd dX12_mostOften_116 <| ?_
          obtain ⟨S14, hS14, g15, h⟩ := wrA_e h
          refine At.iast sh_146 (le149 sh_146) g15.1 g15.2 dX12_mostOften_117 <| At.nmS hS14 <| At.aloadn dX12_mostOften_118 rfl <| At.getR fl_X12_64 sh_130 (le149 sh_130) rf_130_29 dX12_mostOften_119 <| At.iload dX12_mostOften_122 rfl <| ?_
          obtain ⟨v16, hv16, g17, h⟩ := rdA_e h
          obtain ⟨q18, hj142, h⟩ := bnd_e h
          have K142 : At G mX12_mostOften 6 142 [(0, vr 130), (1, vi l1), (2, vi l2), (3, vi l3), (4, vi l4), (6, vi l6)] [vi q18] (mm S14) 0 0 Φ := by
            refine At.istore (ls' := [(5, vi q18), (0, vr 130), (1, vi l1), (2, vi l2), (3, vi l3), (4, vi l4), (6, vi l6)]) dX12_mostOften_142 (by decide) rfl <| ?_
            obtain rfl := Option.some.inj h
            exact At.sub [1, 2, 3, 4, 5, 0, 6] rfl K144
          clear h; have h := hj142; clear hj142
          rcases ite_e h with ⟨c21, h⟩ | ⟨c21, h⟩
          · refine At.iald sh_146 (le149 sh_146) g17.1 g17.2 dX12_mostOften_124 <| At.nm hv16 <| At.iload dX12_mostOften_125 rfl <| At.icmp_le_t (tgt := 140) dX12_mostOften_127 (by decide) c21 <| ?_
            refine At.iload dX12_mostOften_140 rfl <| ?_
            obtain rfl := Option.some.inj h
            exact At.sub [1, 2, 3, 4, 5, 7] rfl K142
          · refine At.iald sh_146 (le149 sh_146) g17.1 g17.2 dX12_mostOften_124 <| At.nm hv16 <| At.iload dX12_mostOften_125 rfl <| At.icmp_le_f (tgt := 140) dX12_mostOften_127 (by decide) c21 <| ?_
            refine At.aloadn dX12_mostOften_130 rfl <| At.getR fl_X12_64 sh_130 (le149 sh_130) rf_130_29 dX12_mostOften_131 <| At.iload dX12_mostOften_134 rfl <| ?_
            obtain ⟨v19, hv19, g20, h⟩ := rdA_e h
            refine At.iald sh_146 (le149 sh_146) g20.1 g20.2 dX12_mostOften_136 <| At.nm hv19 <| At.goto (tgt := 142) dX12_mostOften_137 (by decide) <| ?_
            obtain rfl := Option.some.inj h
            exact At.sub [1, 2, 3, 4, 5, 7] rfl K142
        clear h; have h := hj105; clear hj105
        rcases ite_e h with ⟨c11, h⟩ | ⟨c11, h⟩
        · refine At.cV1 (av := [vl l1, vl l2]) (rest := []) mv_X12_whyGo lk_X12_247 dX12_mostOften_73 rfl rfl sh_130 (Nat.le_of_ble_eq_true rfl) (by decide) ⟨rfl, rfl⟩ (rX12_whyGo hq5) <| At.if_ne_f (tgt := 96) dX12_mostOften_76 (by decide) c11 <| ?_
          refine At.aloadn dX12_mostOften_79 rfl <| At.iloadn dX12_mostOften_80 rfl <| At.aloadn dX12_mostOften_81 rfl <| At.iloadn dX12_mostOften_82 rfl <| ?_
          obtain ⟨q7, hq7, h⟩ := bnd_e h
          refine At.cV1 (av := [vi l1]) (rest := [vi l1, vr 130]) mv_X12_standOf lk_X12_239 dX12_mostOften_83 rfl rfl sh_130 (Nat.le_of_ble_eq_true rfl) (by decide) ⟨rfl, rfl⟩ (rX12_standOf hq7) <| At.iloadn dX12_mostOften_86 rfl <| ?_
          obtain ⟨q8, hq8, h⟩ := bnd_e h
          refine At.cV1 (av := [vi l1, vi q7, vi l2]) (rest := []) mv_X12_goneTo lk_X12_251 dX12_mostOften_87 rfl rfl sh_130 (Nat.le_of_ble_eq_true rfl) (by decide) ⟨rfl, rfl⟩ (rX12_goneTo hq8) <| At.bipush dX12_mostOften_90 (by decide) <| At.irem dX12_mostOften_92 (by decide) <| At.goto (tgt := 105) dX12_mostOften_93 (by decide) <| ?_
          obtain rfl := Option.some.inj h
          exact At.sub [0, 1, 2, 3, 4, 5, 6] rfl K105
        · refine At.cV1 (av := [vl l1, vl l2]) (rest := []) mv_X12_whyGo lk_X12_247 dX12_mostOften_73 rfl rfl sh_130 (Nat.le_of_ble_eq_true rfl) (by decide) ⟨rfl, rfl⟩ (rX12_whyGo hq5) <| At.if_ne_t (tgt := 96) dX12_mostOften_76 (by decide) c11 <| ?_
          refine At.aloadn dX12_mostOften_96 rfl <| At.getR fl_X12_13 sh_130 (le149 sh_130) rf_130_1 dX12_mostOften_97 <| At.bipush dX12_mostOften_100 (by decide) <| At.iloadn dX12_mostOften_102 rfl <| At.iadd dX12_mostOften_103 <| ?_
          obtain ⟨v9, hv9, g10, h⟩ := rdA_e h
          refine At.iald sh_131 (le149 sh_131) g10.1 g10.2 dX12_mostOften_104 <| At.nm hv9 <| ?_
          obtain rfl := Option.some.inj h
          exact At.sub [0, 1, 2, 3, 4, 5, 6] rfl K105
      · refine At.cS1 (av := [vl l3, vi l6]) (rest := []) ms_X12_isIn lk_X12_324 dX12_mostOften_50 rfl rfl (Nat.le_of_ble_eq_true rfl) (by decide) ⟨rfl, rfl⟩ (rX12_isIn hq1) <| At.bifne_f (tgt := 59) dX12_mostOften_53 (by decide) c22 <| ?_
        refine At.goto (tgt := 144) dX12_mostOften_56 (by decide) <| ?_
        obtain rfl := Option.some.inj h
        exact At.sub [0, 1, 2, 3, 4, 5, 6] rfl K144
set_option maxRecDepth 100000 in
set_option maxHeartbeats 4000000 in
theorem rX12_mostOften {G : GG} {p1 : Int} {p2 : Int} {p3 : Int} {S : SS} {rr : (Int × SS)} (h : fX12_mostOften p1 p2 p3 S = some rr) : RD G mX12_mostOften 6 [vr 130, vi p1, vi p2, vi p3] S (some (vi rr.1)) rr.2 := by
  unfold fX12_mostOften at h
  refine Runs.of pl_X12 (Nat.le_of_ble_eq_true rfl) ?_
  show At G mX12_mostOften 6 0 [(0, vr 130), (1, vi p1), (2, vi p2), (3, vi p3)] [] (mm S) 0 0 (EQ (some (vi rr.1)) rr.2)
  refine At.aloadn dX12_mostOften_0 rfl <| At.getR fl_X12_13 sh_130 (le149 sh_130) rf_130_1 dX12_mostOften_1 <| At.bipush dX12_mostOften_4 (by decide) <| ?_
  obtain ⟨v1, hv1, g2, h⟩ := rdA_e h
  refine At.iald sh_131 (le149 sh_131) g2.1 g2.2 dX12_mostOften_6 <| At.nm hv1 <| At.istore (ls' := [(4, vi v1), (0, vr 130), (1, vi p1), (2, vi p2), (3, vi p3)]) dX12_mostOften_7 (by decide) rfl <| At.iconst dX12_mostOften_9 (by decide) <| At.istore (ls' := [(5, vi 0), (4, vi v1), (0, vr 130), (1, vi p1), (2, vi p2), (3, vi p3)]) dX12_mostOften_10 (by decide) rfl <| At.iconst dX12_mostOften_12 (by decide) <| At.istore (ls' := [(6, vi 0), (5, vi 0), (4, vi v1), (0, vr 130), (1, vi p1), (2, vi p2), (3, vi p3)]) dX12_mostOften_13 (by decide) rfl <| ?_
  obtain ⟨q3, ho4, h⟩ := bnd_e h
  refine At.sub [3, 4, 5, 6, 2, 1, 0] rfl (lX12_mostOften_L15 FU _ _ q3 ho4 ?_)
  refine At.iconst dX12_mostOften_36 (by decide) <| At.istore (ls' := [(6, vi 0), (0, vr 130), (1, vi p1), (2, vi p2), (3, vi p3), (4, vi v1), (5, vi 0)]) dX12_mostOften_37 (by decide) rfl <| ?_
  obtain ⟨q5, ho6, h⟩ := bnd_e h
  refine At.sub [1, 2, 3, 4, 5, 6, 0] rfl (lX12_mostOften_L39 FU _ _ _ q5 ho6 ?_)
  refine At.aloadn dX12_mostOften_150 rfl <| At.getR fl_X12_13 sh_130 (le149 sh_130) rf_130_1 dX12_mostOften_151 <| At.bipush dX12_mostOften_154 (by decide) <| At.iload dX12_mostOften_156 rfl <| ?_
  obtain ⟨S7, hS7, g8, h⟩ := wrA_e h
  refine At.iast sh_131 (le149 sh_131) g8.1 g8.2 dX12_mostOften_158 <| At.nmS hS7 <| At.iload dX12_mostOften_159 rfl <| ?_
  obtain rfl := Option.some.inj h
  exact At.iret rfl (Nat.zero_le _) (Nat.zero_le _) ⟨rfl, rfl⟩ dX12_mostOften_161
def fX12_attempt_L42 (l2 : Int) (l5 : Int) : Nat → Int → Int → Int → SS → Option (Int × SS)
  | 0, _, _, _, _ => none
  | n + 1, l6, l7, l8, S =>
    rdA S 131 3303 2 fun v1 =>
    if v1 ≤ l8 then (
      some (l6, S)
    ) else (
      if l5 = 0 then (
        some (l6, S)
      ) else (
        Option.bind (fX12_mostOften l2 l8 l5 S) fun q3 =>
        Option.bind (
          if q3.1 < l7 then (
            some (l8, q3.1)
          ) else (
            some (l6, l7)
          )
          : Option (Int × Int)) fun q4 =>
        lt (w32 (l8 + 1)) fun x6 =>
        fX12_attempt_L42 l2 l5 n q4.1 q4.2 x6 q3.2
      )
    )
def fX12_attempt (p1 : Int) (p2 : Int) (p3 : Int) (S : SS) : Option (Int × SS) :=
  lt (up S 130 0 0) fun S1 =>
  Option.bind (fX12_noTook p1 p2 p3 S1) fun q2 =>
  if q2 = 0 then (
    Option.bind (fX12_bollardsOf p1 p2 p3 S1) fun q3 =>
    lt ((-1)) fun x4 =>
    Option.bind (fX12_attempt_L42 p2 q3.1 FU x4 268435456 0 q3.2) fun q5 =>
    some (q5.1, q5.2)
  ) else (
    some (q2, S1)
  )
set_option maxRecDepth 100000 in
set_option maxHeartbeats 4000000 in
theorem lX12_attempt_L42 {G : GG} {Φ : Option VV → MM → Prop} {l2 : Int} {l5 : Int} : ∀ (n : Nat) (l6 : Int) (l7 : Int) (l8 : Int) (S : SS) (q : Int × SS), fX12_attempt_L42 l2 l5 n l6 l7 l8 S = some q → At G mX12_attempt 7 93 [(6, vi q.1)] [] (mm q.2) 0 0 Φ → At G mX12_attempt 7 42 [(0, vr 130), (2, vi l2), (5, vi l5), (6, vi l6), (7, vi l7), (8, vi l8)] [] (mm S) 0 0 Φ := by
  intro n
  induction n with
  | zero =>
    intro _ _ _ _ _ h
    cases h
  | succ n ih =>
    intro l6 l7 l8 S q h K93
    unfold fX12_attempt_L42 at h
    refine At.iload dX12_attempt_42 rfl <| At.aloadn dX12_attempt_44 rfl <| At.getR fl_X12_13 sh_130 (le149 sh_130) rf_130_1 dX12_attempt_45 <| At.iconst dX12_attempt_48 (by decide) <| ?_
    obtain ⟨v1, hv1, g2, h⟩ := rdA_e h
    rcases ite_e h with ⟨c8, h⟩ | ⟨c8, h⟩
    · refine At.iald sh_131 (le149 sh_131) g2.1 g2.2 dX12_attempt_49 <| At.nm hv1 <| At.icmp_ge_t (tgt := 93) dX12_attempt_50 (by decide) c8 <| ?_
      obtain rfl := Option.some.inj h
      exact At.sub [3] rfl K93
    · refine At.iald sh_131 (le149 sh_131) g2.1 g2.2 dX12_attempt_49 <| At.nm hv1 <| At.icmp_ge_f (tgt := 93) dX12_attempt_50 (by decide) c8 <| ?_
      rcases ite_e h with ⟨c7, h⟩ | ⟨c7, h⟩
      · refine At.iload dX12_attempt_53 rfl <| At.if_eq_t (tgt := 93) dX12_attempt_55 (by decide) c7 <| ?_
        obtain rfl := Option.some.inj h
        exact At.sub [3] rfl K93
      · refine At.iload dX12_attempt_53 rfl <| At.if_eq_f (tgt := 93) dX12_attempt_55 (by decide) c7 <| ?_
        refine At.aloadn dX12_attempt_58 rfl <| At.iloadn dX12_attempt_59 rfl <| At.iload dX12_attempt_60 rfl <| At.iload dX12_attempt_62 rfl <| ?_
        obtain ⟨q3, hq3, h⟩ := bnd_e h
        obtain ⟨q4, hj87, h⟩ := bnd_e h
        have K87 : At G mX12_attempt 7 87 [(0, vr 130), (2, vi l2), (5, vi l5), (6, vi q4.1), (7, vi q4.2), (8, vi l8)] [] (mm q3.2) 0 0 Φ := by
          obtain ⟨x6, hx6, h⟩ := lt_e h
          refine At.iinc (ls' := [(8, vi x6), (0, vr 130), (2, vi l2), (5, vi l5), (6, vi q4.1), (7, vi q4.2)]) dX12_attempt_87 rfl (by decide) (by rw [hx6]; rfl) <| At.goto (tgt := 42) dX12_attempt_90 (by decide) <| ?_
          exact At.sub [1, 2, 3, 4, 5, 0] rfl (ih _ _ _ _ _ h K93)
        clear h; have h := hj87; clear hj87
        rcases ite_e h with ⟨c5, h⟩ | ⟨c5, h⟩
        · refine At.cV1 (av := [vi l2, vi l8, vi l5]) (rest := []) mv_X12_mostOften lk_X12_415 dX12_attempt_64 rfl rfl sh_130 (Nat.le_of_ble_eq_true rfl) (by decide) ⟨rfl, rfl⟩ (rX12_mostOften hq3) <| At.istore (ls' := [(9, vi q3.1), (0, vr 130), (2, vi l2), (5, vi l5), (6, vi l6), (7, vi l7), (8, vi l8)]) dX12_attempt_67 (by decide) rfl <| At.iload dX12_attempt_69 rfl <| At.iload dX12_attempt_71 rfl <| At.icmp_lt_t (tgt := 79) dX12_attempt_73 (by decide) c5 <| ?_
          refine At.iload dX12_attempt_79 rfl <| At.istore (ls' := [(6, vi l8), (9, vi q3.1), (0, vr 130), (2, vi l2), (5, vi l5), (7, vi l7), (8, vi l8)]) dX12_attempt_81 (by decide) rfl <| At.iload dX12_attempt_83 rfl <| At.istore (ls' := [(7, vi q3.1), (6, vi l8), (9, vi q3.1), (0, vr 130), (2, vi l2), (5, vi l5), (8, vi l8)]) dX12_attempt_85 (by decide) rfl <| ?_
          obtain rfl := Option.some.inj h
          exact At.sub [3, 4, 5, 1, 0, 6] rfl K87
        · refine At.cV1 (av := [vi l2, vi l8, vi l5]) (rest := []) mv_X12_mostOften lk_X12_415 dX12_attempt_64 rfl rfl sh_130 (Nat.le_of_ble_eq_true rfl) (by decide) ⟨rfl, rfl⟩ (rX12_mostOften hq3) <| At.istore (ls' := [(9, vi q3.1), (0, vr 130), (2, vi l2), (5, vi l5), (6, vi l6), (7, vi l7), (8, vi l8)]) dX12_attempt_67 (by decide) rfl <| At.iload dX12_attempt_69 rfl <| At.iload dX12_attempt_71 rfl <| At.icmp_lt_f (tgt := 79) dX12_attempt_73 (by decide) c5 <| ?_
          refine At.goto (tgt := 87) dX12_attempt_76 (by decide) <| ?_
          obtain rfl := Option.some.inj h
          exact At.sub [1, 2, 3, 4, 5, 6] rfl K87
set_option maxRecDepth 100000 in
set_option maxHeartbeats 4000000 in
theorem rX12_attempt {G : GG} {p1 : Int} {p2 : Int} {p3 : Int} {S : SS} {rr : (Int × SS)} (h : fX12_attempt p1 p2 p3 S = some rr) : RD G mX12_attempt 7 [vr 130, vi p1, vi p2, vi p3] S (some (vi rr.1)) rr.2 := by
  unfold fX12_attempt at h
  refine Runs.of pl_X12 (Nat.le_of_ble_eq_true rfl) ?_
  show At G mX12_attempt 7 0 [(0, vr 130), (1, vi p1), (2, vi p2), (3, vi p3)] [] (mm S) 0 0 (EQ (some (vi rr.1)) rr.2)
  refine At.aloadn dX12_attempt_0 rfl <| At.iconst dX12_attempt_1 (by decide) <| ?_
  obtain ⟨S1, hS1, h⟩ := lt_e h
  refine At.putI fw_X12_1 sh_130 (le149 sh_130) dX12_attempt_2 <| At.nmS hS1 <| At.aloadn dX12_attempt_5 rfl <| At.iloadn dX12_attempt_6 rfl <| At.iloadn dX12_attempt_7 rfl <| At.iloadn dX12_attempt_8 rfl <| ?_
  obtain ⟨q2, hq2, h⟩ := bnd_e h
  rcases ite_e h with ⟨c7, h⟩ | ⟨c7, h⟩
  · refine At.cV1 (av := [vi p1, vi p2, vi p3]) (rest := []) mv_X12_noTook lk_X12_405 dX12_attempt_9 rfl rfl sh_130 (Nat.le_of_ble_eq_true rfl) (by decide) ⟨rfl, rfl⟩ (rX12_noTook hq2) <| At.istore (ls' := [(4, vi q2), (0, vr 130), (1, vi p1), (2, vi p2), (3, vi p3)]) dX12_attempt_12 (by decide) rfl <| At.iload dX12_attempt_14 rfl <| At.if_eq_t (tgt := 22) dX12_attempt_16 (by decide) c7 <| ?_
    refine At.aloadn dX12_attempt_22 rfl <| At.iloadn dX12_attempt_23 rfl <| At.iloadn dX12_attempt_24 rfl <| At.iloadn dX12_attempt_25 rfl <| ?_
    obtain ⟨q3, hq3, h⟩ := bnd_e h
    refine At.cV1 (av := [vi p1, vi p2, vi p3]) (rest := []) mv_X12_bollardsOf lk_X12_412 dX12_attempt_26 rfl rfl sh_130 (Nat.le_of_ble_eq_true rfl) (by decide) ⟨rfl, rfl⟩ (rX12_bollardsOf hq3) <| At.istore (ls' := [(5, vi q3.1), (4, vi q2), (0, vr 130), (1, vi p1), (2, vi p2), (3, vi p3)]) dX12_attempt_29 (by decide) rfl <| At.iconst dX12_attempt_31 (by decide) <| ?_
    obtain ⟨x4, hx4, h⟩ := lt_e h
    refine At.nm hx4 <| At.istore (ls' := [(6, vi x4), (5, vi q3.1), (4, vi q2), (0, vr 130), (1, vi p1), (2, vi p2), (3, vi p3)]) dX12_attempt_32 (by decide) rfl <| At.ldcw dX12_attempt_34 ki_X12_328 (by decide) <| At.istore (ls' := [(7, vi 268435456), (6, vi x4), (5, vi q3.1), (4, vi q2), (0, vr 130), (1, vi p1), (2, vi p2), (3, vi p3)]) dX12_attempt_37 (by decide) rfl <| At.iconst dX12_attempt_39 (by decide) <| At.istore (ls' := [(8, vi 0), (7, vi 268435456), (6, vi x4), (5, vi q3.1), (4, vi q2), (0, vr 130), (1, vi p1), (2, vi p2), (3, vi p3)]) dX12_attempt_40 (by decide) rfl <| ?_
    obtain ⟨q5, ho6, h⟩ := bnd_e h
    refine At.sub [5, 7, 3, 2, 1, 0] rfl (lX12_attempt_L42 FU _ _ _ _ q5 ho6 ?_)
    refine At.iload dX12_attempt_93 rfl <| ?_
    obtain rfl := Option.some.inj h
    exact At.iret rfl (Nat.zero_le _) (Nat.zero_le _) ⟨rfl, rfl⟩ dX12_attempt_95
  · refine At.cV1 (av := [vi p1, vi p2, vi p3]) (rest := []) mv_X12_noTook lk_X12_405 dX12_attempt_9 rfl rfl sh_130 (Nat.le_of_ble_eq_true rfl) (by decide) ⟨rfl, rfl⟩ (rX12_noTook hq2) <| At.istore (ls' := [(4, vi q2), (0, vr 130), (1, vi p1), (2, vi p2), (3, vi p3)]) dX12_attempt_12 (by decide) rfl <| At.iload dX12_attempt_14 rfl <| At.if_eq_f (tgt := 22) dX12_attempt_16 (by decide) c7 <| ?_
    refine At.iload dX12_attempt_19 rfl <| ?_
    obtain rfl := Option.some.inj h
    exact At.iret rfl (Nat.zero_le _) (Nat.zero_le _) ⟨rfl, rfl⟩ dX12_attempt_21
def RCX12_childs (G : GG) (rc : Nat → Int → Int → Int → Int → Int → Int → SS → Option (Bool × SS)) (d : Nat) : Prop := (∀ (p1 : Int) (p2 : Int) (p3 : Int) (p4 : Int) (p5 : Int) (S : SS) (rr : (Bool × SS)), rc 0 p1 p2 p3 p4 p5 0 S = some rr → RD G mX12_childs d [vr 130, vi p1, vi p2, vi p3, vi p4, vi p5] S (some (vi (bI rr.1))) rr.2) ∧ (∀ (p1 : Int) (p2 : Int) (p3 : Int) (p4 : Int) (p5 : Int) (p6 : Int) (S : SS) (rr : (Bool × SS)), rc 1 p1 p2 p3 p4 p5 p6 S = some rr → RD G mX12_childsBy d [vr 130, vi p1, vi p2, vi p3, vi p4, vi p5, vi p6] S (some (vi (bI rr.1))) rr.2) ∧ (∀ (p1 : Int) (p2 : Int) (p3 : Int) (p4 : Int) (p5 : Int) (S : SS) (rr : (Bool × SS)), rc 2 p1 p2 p3 p4 p5 0 S = some rr → RD G mX12_wardens d [vr 130, vi p1, vi p2, vi p3, vi p4, vi p5] S (some (vi (bI rr.1))) rr.2)
def fX12_childs_L21 (rc : Nat → Int → Int → Int → Int → Int → Int → SS → Option (Bool × SS)) (l1 : Int) (l2 : Int) (l3 : Int) (l4 : Int) (l5 : Int) : Nat → Int → SS → Option (Nat × SS)
  | 0, _, _ => none
  | n + 1, l6, S =>
    rdA S 131 3303 2 fun v1 =>
    if v1 ≤ l6 then (
      some (1, S)
    ) else (
      Option.bind (rc 1 l1 l2 l3 l6 l4 l5 S) fun q3 =>
      if q3.1 = true then (
        some (0, q3.2)
      ) else (
        lt (w32 (l6 + 1)) fun x4 =>
        fX12_childs_L21 rc l1 l2 l3 l4 l5 n x4 q3.2
      )
    )
def fX12_childs (rc : Nat → Int → Int → Int → Int → Int → Int → SS → Option (Bool × SS)) (p1 : Int) (p2 : Int) (p3 : Int) (p4 : Int) (p5 : Int) (S : SS) : Option (Bool × SS) :=
  if (w32 (Int.tdiv p2 20)) = p4 then (
    some (true, S)
  ) else (
    if p5 = 0 then (
      some (false, S)
    ) else (
      Option.bind (fX12_childs_L21 rc p1 p2 p3 p4 p5 FU 0 S) fun q1 =>
      if q1.1 = 0 then (
        some (true, q1.2)
      ) else (
        Option.bind (rc 2 p1 p2 p3 p4 (w32 (p5 - 1)) 0 q1.2) fun q3 =>
        some (q3.1, q3.2)
      )
    )
  )
set_option maxRecDepth 100000 in
set_option maxHeartbeats 4000000 in
theorem lX12_childs_L21 {G : GG} {Φ : Option VV → MM → Prop} {rc : Nat → Int → Int → Int → Int → Int → Int → SS → Option (Bool × SS)} {d : Nat} (hrc : RCX12_childs G rc d) (hd0 : 5 ≤ d) {l1 : Int} {l2 : Int} {l3 : Int} {l4 : Int} {l5 : Int} : ∀ (n : Nat) (l6 : Int) (S : SS) (q : Nat × SS), fX12_childs_L21 rc l1 l2 l3 l4 l5 n l6 S = some q → (q.1 = 0 → At G mX12_childs (d + 1) 48 [] [] (mm q.2) 0 0 Φ) → (q.1 = 1 → At G mX12_childs (d + 1) 56 [(0, vr 130), (1, vi l1), (2, vi l2), (3, vi l3), (4, vi l4), (5, vi l5)] [] (mm q.2) 0 0 Φ) → At G mX12_childs (d + 1) 21 [(0, vr 130), (1, vi l1), (2, vi l2), (3, vi l3), (4, vi l4), (5, vi l5), (6, vi l6)] [] (mm S) 0 0 Φ := by
  intro n
  induction n with
  | zero =>
    intro _ _ _ h
    cases h
  | succ n ih =>
    intro l6 S q h K48 K56
    unfold fX12_childs_L21 at h
    refine At.iload dX12_childs_21 rfl <| At.aloadn dX12_childs_23 rfl <| At.getR fl_X12_13 sh_130 (le149 sh_130) rf_130_1 dX12_childs_24 <| At.iconst dX12_childs_27 (by decide) <| ?_
    obtain ⟨v1, hv1, g2, h⟩ := rdA_e h
    rcases ite_e h with ⟨c6, h⟩ | ⟨c6, h⟩
    · refine At.iald sh_131 (le149 sh_131) g2.1 g2.2 dX12_childs_28 <| At.nm hv1 <| At.icmp_ge_t (tgt := 56) dX12_childs_29 (by decide) c6 <| ?_
      obtain rfl := Option.some.inj h
      exact At.sub [0, 1, 2, 3, 4, 5] rfl (K56 rfl)
    · refine At.iald sh_131 (le149 sh_131) g2.1 g2.2 dX12_childs_28 <| At.nm hv1 <| At.icmp_ge_f (tgt := 56) dX12_childs_29 (by decide) c6 <| ?_
      refine At.aloadn dX12_childs_32 rfl <| At.iloadn dX12_childs_33 rfl <| At.iloadn dX12_childs_34 rfl <| At.iloadn dX12_childs_35 rfl <| At.iload dX12_childs_36 rfl <| At.iload dX12_childs_38 rfl <| At.iload dX12_childs_40 rfl <| ?_
      obtain ⟨q3, hq3, h⟩ := bnd_e h
      rcases ite_e h with ⟨c5, h⟩ | ⟨c5, h⟩
      · refine At.cV1 (av := [vi l1, vi l2, vi l3, vi l6, vi l4, vi l5]) (rest := []) mv_X12_childsBy lk_X12_418 dX12_childs_42 rfl rfl sh_130 (Nat.le_of_ble_eq_true rfl) (Nat.le_refl _) ⟨rfl, rfl⟩ (hrc.2.1 _ _ _ _ _ _ _ _ hq3) <| At.bifeq_f (tgt := 50) dX12_childs_45 (by decide) c5 <| ?_
        obtain rfl := Option.some.inj h
        exact At.sub [] rfl (K48 rfl)
      · refine At.cV1 (av := [vi l1, vi l2, vi l3, vi l6, vi l4, vi l5]) (rest := []) mv_X12_childsBy lk_X12_418 dX12_childs_42 rfl rfl sh_130 (Nat.le_of_ble_eq_true rfl) (Nat.le_refl _) ⟨rfl, rfl⟩ (hrc.2.1 _ _ _ _ _ _ _ _ hq3) <| At.bifeq_t (tgt := 50) dX12_childs_45 (by decide) c5 <| ?_
        obtain ⟨x4, hx4, h⟩ := lt_e h
        refine At.iinc (ls' := [(6, vi x4), (0, vr 130), (1, vi l1), (2, vi l2), (3, vi l3), (4, vi l4), (5, vi l5)]) dX12_childs_50 rfl (by decide) (by rw [hx4]; rfl) <| At.goto (tgt := 21) dX12_childs_53 (by decide) <| ?_
        exact At.sub [1, 2, 3, 4, 5, 6, 0] rfl (ih _ _ _ h K48 K56)
set_option maxRecDepth 100000 in
set_option maxHeartbeats 4000000 in
theorem rX12_childs {G : GG} {rc : Nat → Int → Int → Int → Int → Int → Int → SS → Option (Bool × SS)} {d : Nat} (hrc : RCX12_childs G rc d) (hd0 : 5 ≤ d) {p1 : Int} {p2 : Int} {p3 : Int} {p4 : Int} {p5 : Int} {S : SS} {rr : (Bool × SS)} (h : fX12_childs rc p1 p2 p3 p4 p5 S = some rr) : RD G mX12_childs (d + 1) [vr 130, vi p1, vi p2, vi p3, vi p4, vi p5] S (some (vi (bI rr.1))) rr.2 := by
  unfold fX12_childs at h
  refine Runs.of pl_X12 (Nat.le_of_ble_eq_true rfl) ?_
  show At G mX12_childs (d + 1) 0 [(0, vr 130), (1, vi p1), (2, vi p2), (3, vi p3), (4, vi p4), (5, vi p5)] [] (mm S) 0 0 (EQ (some (vi (bI rr.1))) rr.2)
  rcases ite_e h with ⟨c5, h⟩ | ⟨c5, h⟩
  · refine At.iloadn dX12_childs_0 rfl <| At.bipush dX12_childs_1 (by decide) <| At.idiv dX12_childs_3 (by decide) <| At.iload dX12_childs_4 rfl <| At.icmp_ne_f (tgt := 11) dX12_childs_6 (by decide) c5 <| ?_
    refine At.iconst dX12_childs_9 (by decide) <| ?_
    obtain rfl := Option.some.inj h
    exact At.zret (b := true) rfl (Nat.zero_le _) (Nat.zero_le _) ⟨rfl, rfl⟩ dX12_childs_10
  · refine At.iloadn dX12_childs_0 rfl <| At.bipush dX12_childs_1 (by decide) <| At.idiv dX12_childs_3 (by decide) <| At.iload dX12_childs_4 rfl <| At.icmp_ne_t (tgt := 11) dX12_childs_6 (by decide) c5 <| ?_
    rcases ite_e h with ⟨c4, h⟩ | ⟨c4, h⟩
    · refine At.iload dX12_childs_11 rfl <| At.if_ne_f (tgt := 18) dX12_childs_13 (by decide) c4 <| ?_
      refine At.iconst dX12_childs_16 (by decide) <| ?_
      obtain rfl := Option.some.inj h
      exact At.zret (b := false) rfl (Nat.zero_le _) (Nat.zero_le _) ⟨rfl, rfl⟩ dX12_childs_17
    · refine At.iload dX12_childs_11 rfl <| At.if_ne_t (tgt := 18) dX12_childs_13 (by decide) c4 <| ?_
      refine At.iconst dX12_childs_18 (by decide) <| At.istore (ls' := [(6, vi 0), (0, vr 130), (1, vi p1), (2, vi p2), (3, vi p3), (4, vi p4), (5, vi p5)]) dX12_childs_19 (by decide) rfl <| ?_
      obtain ⟨q1, ho2, h⟩ := bnd_e h
      refine At.sub [1, 2, 3, 4, 5, 6, 0] rfl (lX12_childs_L21 hrc hd0 FU _ _ q1 ho2 (fun hq => ?_) (fun hq => ?_))
      · rw [if_pos hq] at h
        refine At.iconst dX12_childs_48 (by decide) <| ?_
        obtain rfl := Option.some.inj h
        exact At.zret (b := true) rfl (Nat.zero_le _) (Nat.zero_le _) ⟨rfl, rfl⟩ dX12_childs_49
      · rw [if_neg (by omega)] at h
        refine At.aloadn dX12_childs_56 rfl <| At.iloadn dX12_childs_57 rfl <| At.iloadn dX12_childs_58 rfl <| At.iloadn dX12_childs_59 rfl <| At.iload dX12_childs_60 rfl <| At.iload dX12_childs_62 rfl <| At.iconst dX12_childs_64 (by decide) <| At.isub dX12_childs_65 <| ?_
        obtain ⟨q3, hq3, h⟩ := bnd_e h
        refine At.cV1 (av := [vi p1, vi p2, vi p3, vi p4, vi (w32 (p5 - 1))]) (rest := []) mv_X12_wardens lk_X12_422 dX12_childs_66 rfl rfl sh_130 (Nat.le_of_ble_eq_true rfl) (Nat.le_refl _) ⟨rfl, rfl⟩ (hrc.2.2 _ _ _ _ _ _ _ hq3) <| ?_
        obtain rfl := Option.some.inj h
        exact At.zret (b := q3.1) rfl (Nat.zero_le _) (Nat.zero_le _) ⟨rfl, rfl⟩ dX12_childs_69
def fX12_childsBy (rc : Nat → Int → Int → Int → Int → Int → Int → SS → Option (Bool × SS)) (p1 : Int) (p2 : Int) (p3 : Int) (p4 : Int) (p5 : Int) (p6 : Int) (S : SS) : Option (Bool × SS) :=
  Option.bind (fX12_isIn p3 p4) fun q1 =>
  if q1 = true then (
    some (false, S)
  ) else (
    rdA S 131 3303 (w32 (40 + p4)) fun v2 =>
    Option.bind (fX12_whyBy p1 p2 p4 v2 S) fun q4 =>
    if q4.1 = 0 then (
      Option.bind (fX12_goneTo p1 p2 p4 q4.2) fun q5 =>
      Option.bind (rc 2 p1 q5.1 p3 p5 (w32 (p6 - 1)) 0 q5.2) fun q6 =>
      if q6.1 = true then (
        some (true, q6.2)
      ) else (
        some (false, q6.2)
      )
    ) else (
      some (false, q4.2)
    )
  )
set_option maxRecDepth 100000 in
set_option maxHeartbeats 4000000 in
theorem rX12_childsBy {G : GG} {rc : Nat → Int → Int → Int → Int → Int → Int → SS → Option (Bool × SS)} {d : Nat} (hrc : RCX12_childs G rc d) (hd0 : 5 ≤ d) {p1 : Int} {p2 : Int} {p3 : Int} {p4 : Int} {p5 : Int} {p6 : Int} {S : SS} {rr : (Bool × SS)} (h : fX12_childsBy rc p1 p2 p3 p4 p5 p6 S = some rr) : RD G mX12_childsBy (d + 1) [vr 130, vi p1, vi p2, vi p3, vi p4, vi p5, vi p6] S (some (vi (bI rr.1))) rr.2 := by
  unfold fX12_childsBy at h
  refine Runs.of pl_X12 (Nat.le_of_ble_eq_true rfl) ?_
  show At G mX12_childsBy (d + 1) 0 [(0, vr 130), (1, vi p1), (2, vi p2), (3, vi p3), (4, vi p4), (5, vi p5), (6, vi p6)] [] (mm S) 0 0 (EQ (some (vi (bI rr.1))) rr.2)
  refine At.iloadn dX12_childsBy_0 rfl <| At.i2l dX12_childsBy_1 <| At.iload dX12_childsBy_2 rfl <| ?_
  obtain ⟨q1, hq1, h⟩ := bnd_e h
  rcases ite_e h with ⟨c9, h⟩ | ⟨c9, h⟩
  · refine At.cS1 (av := [vl p3, vi p4]) (rest := []) ms_X12_isIn lk_X12_324 dX12_childsBy_4 rfl rfl (Nat.le_of_ble_eq_true rfl) (by omega) ⟨rfl, rfl⟩ (rX12_isIn hq1) <| At.bifne_t (tgt := 58) dX12_childsBy_7 (by decide) c9 <| ?_
    refine At.iconst dX12_childsBy_58 (by decide) <| ?_
    obtain rfl := Option.some.inj h
    exact At.zret (b := false) rfl (Nat.zero_le _) (Nat.zero_le _) ⟨rfl, rfl⟩ dX12_childsBy_59
  · refine At.cS1 (av := [vl p3, vi p4]) (rest := []) ms_X12_isIn lk_X12_324 dX12_childsBy_4 rfl rfl (Nat.le_of_ble_eq_true rfl) (by omega) ⟨rfl, rfl⟩ (rX12_isIn hq1) <| At.bifne_f (tgt := 58) dX12_childsBy_7 (by decide) c9 <| ?_
    refine At.aloadn dX12_childsBy_10 rfl <| At.iloadn dX12_childsBy_11 rfl <| At.iloadn dX12_childsBy_12 rfl <| At.iload dX12_childsBy_13 rfl <| At.aloadn dX12_childsBy_15 rfl <| At.getR fl_X12_13 sh_130 (le149 sh_130) rf_130_1 dX12_childsBy_16 <| At.bipush dX12_childsBy_19 (by decide) <| At.iload dX12_childsBy_21 rfl <| At.iadd dX12_childsBy_23 <| ?_
    obtain ⟨v2, hv2, g3, h⟩ := rdA_e h
    refine At.iald sh_131 (le149 sh_131) g3.1 g3.2 dX12_childsBy_24 <| At.nm hv2 <| ?_
    obtain ⟨q4, hq4, h⟩ := bnd_e h
    rcases ite_e h with ⟨c8, h⟩ | ⟨c8, h⟩
    · refine At.cV1 (av := [vi p1, vi p2, vi p4, vi v2]) (rest := []) mv_X12_whyBy lk_X12_242 dX12_childsBy_25 rfl rfl sh_130 (Nat.le_of_ble_eq_true rfl) (by omega) ⟨rfl, rfl⟩ (rX12_whyBy hq4) <| At.if_ne_f (tgt := 58) dX12_childsBy_28 (by decide) c8 <| ?_
      refine At.aloadn dX12_childsBy_31 rfl <| At.iloadn dX12_childsBy_32 rfl <| At.aloadn dX12_childsBy_33 rfl <| At.iloadn dX12_childsBy_34 rfl <| At.iloadn dX12_childsBy_35 rfl <| At.iload dX12_childsBy_36 rfl <| ?_
      obtain ⟨q5, hq5, h⟩ := bnd_e h
      refine At.cV1 (av := [vi p1, vi p2, vi p4]) (rest := [vi p1, vr 130]) mv_X12_goneTo lk_X12_251 dX12_childsBy_38 rfl rfl sh_130 (Nat.le_of_ble_eq_true rfl) (by omega) ⟨rfl, rfl⟩ (rX12_goneTo hq5) <| At.iloadn dX12_childsBy_41 rfl <| At.iload dX12_childsBy_42 rfl <| At.iload dX12_childsBy_44 rfl <| At.iconst dX12_childsBy_46 (by decide) <| At.isub dX12_childsBy_47 <| ?_
      obtain ⟨q6, hq6, h⟩ := bnd_e h
      rcases ite_e h with ⟨c7, h⟩ | ⟨c7, h⟩
      · refine At.cV1 (av := [vi p1, vi q5.1, vi p3, vi p5, vi (w32 (p6 - 1))]) (rest := []) mv_X12_wardens lk_X12_422 dX12_childsBy_48 rfl rfl sh_130 (Nat.le_of_ble_eq_true rfl) (Nat.le_refl _) ⟨rfl, rfl⟩ (hrc.2.2 _ _ _ _ _ _ _ hq6) <| At.bifeq_f (tgt := 58) dX12_childsBy_51 (by decide) c7 <| ?_
        refine At.iconst dX12_childsBy_54 (by decide) <| At.goto (tgt := 59) dX12_childsBy_55 (by decide) <| ?_
        obtain rfl := Option.some.inj h
        exact At.zret (b := true) rfl (Nat.zero_le _) (Nat.zero_le _) ⟨rfl, rfl⟩ dX12_childsBy_59
      · refine At.cV1 (av := [vi p1, vi q5.1, vi p3, vi p5, vi (w32 (p6 - 1))]) (rest := []) mv_X12_wardens lk_X12_422 dX12_childsBy_48 rfl rfl sh_130 (Nat.le_of_ble_eq_true rfl) (Nat.le_refl _) ⟨rfl, rfl⟩ (hrc.2.2 _ _ _ _ _ _ _ hq6) <| At.bifeq_t (tgt := 58) dX12_childsBy_51 (by decide) c7 <| ?_
        refine At.iconst dX12_childsBy_58 (by decide) <| ?_
        obtain rfl := Option.some.inj h
        exact At.zret (b := false) rfl (Nat.zero_le _) (Nat.zero_le _) ⟨rfl, rfl⟩ dX12_childsBy_59
    · refine At.cV1 (av := [vi p1, vi p2, vi p4, vi v2]) (rest := []) mv_X12_whyBy lk_X12_242 dX12_childsBy_25 rfl rfl sh_130 (Nat.le_of_ble_eq_true rfl) (by omega) ⟨rfl, rfl⟩ (rX12_whyBy hq4) <| At.if_ne_t (tgt := 58) dX12_childsBy_28 (by decide) c8 <| ?_
      refine At.iconst dX12_childsBy_58 (by decide) <| ?_
      obtain rfl := Option.some.inj h
      exact At.zret (b := false) rfl (Nat.zero_le _) (Nat.zero_le _) ⟨rfl, rfl⟩ dX12_childsBy_59
def fX12_wardens_L35 (rc : Nat → Int → Int → Int → Int → Int → Int → SS → Option (Bool × SS)) (l1 : Int) (l2 : Int) (l3 : Int) (l4 : Int) (l5 : Int) : Nat → Int → SS → Option (Nat × SS)
  | 0, _, _ => none
  | n + 1, l6, S =>
    rdA S 131 3303 2 fun v1 =>
    if v1 ≤ l6 then (
      some (1, S)
    ) else (
      Option.bind (fX12_isIn l3 l6) fun q3 =>
      if q3 = true then (
        lt (w32 (l6 + 1)) fun x4 =>
        fX12_wardens_L35 rc l1 l2 l3 l4 l5 n x4 S
      ) else (
        rdA S 131 3303 (w32 (40 + l6)) fun v5 =>
        if v5 = 3 then (
          lt (w32 (l6 + 1)) fun x7 =>
          fX12_wardens_L35 rc l1 l2 l3 l4 l5 n x7 S
        ) else (
          Option.bind (rc 0 l1 l2 (jor l3 (jshl 1 l6)) l4 l5 0 S) fun q8 =>
          if q8.1 = true then (
            lt (w32 (l6 + 1)) fun x9 =>
            fX12_wardens_L35 rc l1 l2 l3 l4 l5 n x9 q8.2
          ) else (
            some (0, q8.2)
          )
        )
      )
    )
def fX12_wardens (rc : Nat → Int → Int → Int → Int → Int → Int → SS → Option (Bool × SS)) (p1 : Int) (p2 : Int) (p3 : Int) (p4 : Int) (p5 : Int) (S : SS) : Option (Bool × SS) :=
  if (w32 (Int.tdiv p2 20)) = p4 then (
    some (true, S)
  ) else (
    if p5 = 0 then (
      some (false, S)
    ) else (
      Option.bind (rc 0 p1 p2 p3 p4 p5 0 S) fun q1 =>
      if q1.1 = true then (
        Option.bind (fX12_wardens_L35 rc p1 p2 p3 p4 p5 FU 0 q1.2) fun q2 =>
        if q2.1 = 0 then (
          some (false, q2.2)
        ) else (
          some (true, q2.2)
        )
      ) else (
        some (false, q1.2)
      )
    )
  )
set_option maxRecDepth 100000 in
set_option maxHeartbeats 4000000 in
theorem lX12_wardens_L35 {G : GG} {Φ : Option VV → MM → Prop} {rc : Nat → Int → Int → Int → Int → Int → Int → SS → Option (Bool × SS)} {d : Nat} (hrc : RCX12_childs G rc d) (hd0 : 5 ≤ d) {l1 : Int} {l2 : Int} {l3 : Int} {l4 : Int} {l5 : Int} : ∀ (n : Nat) (l6 : Int) (S : SS) (q : Nat × SS), fX12_wardens_L35 rc l1 l2 l3 l4 l5 n l6 S = some q → (q.1 = 0 → At G mX12_wardens (d + 1) 89 [] [] (mm q.2) 0 0 Φ) → (q.1 = 1 → At G mX12_wardens (d + 1) 97 [] [] (mm q.2) 0 0 Φ) → At G mX12_wardens (d + 1) 35 [(0, vr 130), (1, vi l1), (2, vi l2), (3, vi l3), (4, vi l4), (5, vi l5), (6, vi l6)] [] (mm S) 0 0 Φ := by
  intro n
  induction n with
  | zero =>
    intro _ _ _ h
    cases h
  | succ n ih =>
    intro l6 S q h K89 K97
    unfold fX12_wardens_L35 at h
    refine At.iload dX12_wardens_35 rfl <| At.aloadn dX12_wardens_37 rfl <| At.getR fl_X12_13 sh_130 (le149 sh_130) rf_130_1 dX12_wardens_38 <| At.iconst dX12_wardens_41 (by decide) <| ?_
    obtain ⟨v1, hv1, g2, h⟩ := rdA_e h
    rcases ite_e h with ⟨c13, h⟩ | ⟨c13, h⟩
    · refine At.iald sh_131 (le149 sh_131) g2.1 g2.2 dX12_wardens_42 <| At.nm hv1 <| At.icmp_ge_t (tgt := 97) dX12_wardens_43 (by decide) c13 <| ?_
      obtain rfl := Option.some.inj h
      exact At.sub [] rfl (K97 rfl)
    · refine At.iald sh_131 (le149 sh_131) g2.1 g2.2 dX12_wardens_42 <| At.nm hv1 <| At.icmp_ge_f (tgt := 97) dX12_wardens_43 (by decide) c13 <| ?_
      refine At.iloadn dX12_wardens_46 rfl <| At.i2l dX12_wardens_47 <| At.iload dX12_wardens_48 rfl <| ?_
      obtain ⟨q3, hq3, h⟩ := bnd_e h
      rcases ite_e h with ⟨c12, h⟩ | ⟨c12, h⟩
      · refine At.cS1 (av := [vl l3, vi l6]) (rest := []) ms_X12_isIn lk_X12_324 dX12_wardens_50 rfl rfl (Nat.le_of_ble_eq_true rfl) (by omega) ⟨rfl, rfl⟩ (rX12_isIn hq3) <| At.bifne_t (tgt := 91) dX12_wardens_53 (by decide) c12 <| ?_
        obtain ⟨x4, hx4, h⟩ := lt_e h
        refine At.iinc (ls' := [(6, vi x4), (0, vr 130), (1, vi l1), (2, vi l2), (3, vi l3), (4, vi l4), (5, vi l5)]) dX12_wardens_91 rfl (by decide) (by rw [hx4]; rfl) <| At.goto (tgt := 35) dX12_wardens_94 (by decide) <| ?_
        exact At.sub [1, 2, 3, 4, 5, 6, 0] rfl (ih _ _ _ h K89 K97)
      · refine At.cS1 (av := [vl l3, vi l6]) (rest := []) ms_X12_isIn lk_X12_324 dX12_wardens_50 rfl rfl (Nat.le_of_ble_eq_true rfl) (by omega) ⟨rfl, rfl⟩ (rX12_isIn hq3) <| At.bifne_f (tgt := 91) dX12_wardens_53 (by decide) c12 <| ?_
        refine At.aloadn dX12_wardens_56 rfl <| At.getR fl_X12_13 sh_130 (le149 sh_130) rf_130_1 dX12_wardens_57 <| At.bipush dX12_wardens_60 (by decide) <| At.iload dX12_wardens_62 rfl <| At.iadd dX12_wardens_64 <| ?_
        obtain ⟨v5, hv5, g6, h⟩ := rdA_e h
        rcases ite_e h with ⟨c11, h⟩ | ⟨c11, h⟩
        · refine At.iald sh_131 (le149 sh_131) g6.1 g6.2 dX12_wardens_65 <| At.nm hv5 <| At.iconst dX12_wardens_66 (by decide) <| At.icmp_eq_t (tgt := 91) dX12_wardens_67 (by decide) c11 <| ?_
          obtain ⟨x7, hx7, h⟩ := lt_e h
          refine At.iinc (ls' := [(6, vi x7), (0, vr 130), (1, vi l1), (2, vi l2), (3, vi l3), (4, vi l4), (5, vi l5)]) dX12_wardens_91 rfl (by decide) (by rw [hx7]; rfl) <| At.goto (tgt := 35) dX12_wardens_94 (by decide) <| ?_
          exact At.sub [1, 2, 3, 4, 5, 6, 0] rfl (ih _ _ _ h K89 K97)
        · refine At.iald sh_131 (le149 sh_131) g6.1 g6.2 dX12_wardens_65 <| At.nm hv5 <| At.iconst dX12_wardens_66 (by decide) <| At.icmp_eq_f (tgt := 91) dX12_wardens_67 (by decide) c11 <| ?_
          refine At.aloadn dX12_wardens_70 rfl <| At.iloadn dX12_wardens_71 rfl <| At.iloadn dX12_wardens_72 rfl <| At.iloadn dX12_wardens_73 rfl <| At.iconst dX12_wardens_74 (by decide) <| At.iload dX12_wardens_75 rfl <| At.ishl dX12_wardens_77 <| At.ior dX12_wardens_78 <| At.iload dX12_wardens_79 rfl <| At.iload dX12_wardens_81 rfl <| ?_
          obtain ⟨q8, hq8, h⟩ := bnd_e h
          rcases ite_e h with ⟨c10, h⟩ | ⟨c10, h⟩
          · refine At.cV1 (av := [vi l1, vi l2, vi (jor l3 (jshl 1 l6)), vi l4, vi l5]) (rest := []) mv_X12_childs lk_X12_426 dX12_wardens_83 rfl rfl sh_130 (Nat.le_of_ble_eq_true rfl) (Nat.le_refl _) ⟨rfl, rfl⟩ (hrc.1 _ _ _ _ _ _ _ hq8) <| At.bifne_t (tgt := 91) dX12_wardens_86 (by decide) c10 <| ?_
            obtain ⟨x9, hx9, h⟩ := lt_e h
            refine At.iinc (ls' := [(6, vi x9), (0, vr 130), (1, vi l1), (2, vi l2), (3, vi l3), (4, vi l4), (5, vi l5)]) dX12_wardens_91 rfl (by decide) (by rw [hx9]; rfl) <| At.goto (tgt := 35) dX12_wardens_94 (by decide) <| ?_
            exact At.sub [1, 2, 3, 4, 5, 6, 0] rfl (ih _ _ _ h K89 K97)
          · refine At.cV1 (av := [vi l1, vi l2, vi (jor l3 (jshl 1 l6)), vi l4, vi l5]) (rest := []) mv_X12_childs lk_X12_426 dX12_wardens_83 rfl rfl sh_130 (Nat.le_of_ble_eq_true rfl) (Nat.le_refl _) ⟨rfl, rfl⟩ (hrc.1 _ _ _ _ _ _ _ hq8) <| At.bifne_f (tgt := 91) dX12_wardens_86 (by decide) c10 <| ?_
            obtain rfl := Option.some.inj h
            exact At.sub [] rfl (K89 rfl)
set_option maxRecDepth 100000 in
set_option maxHeartbeats 4000000 in
theorem rX12_wardens {G : GG} {rc : Nat → Int → Int → Int → Int → Int → Int → SS → Option (Bool × SS)} {d : Nat} (hrc : RCX12_childs G rc d) (hd0 : 5 ≤ d) {p1 : Int} {p2 : Int} {p3 : Int} {p4 : Int} {p5 : Int} {S : SS} {rr : (Bool × SS)} (h : fX12_wardens rc p1 p2 p3 p4 p5 S = some rr) : RD G mX12_wardens (d + 1) [vr 130, vi p1, vi p2, vi p3, vi p4, vi p5] S (some (vi (bI rr.1))) rr.2 := by
  unfold fX12_wardens at h
  refine Runs.of pl_X12 (Nat.le_of_ble_eq_true rfl) ?_
  show At G mX12_wardens (d + 1) 0 [(0, vr 130), (1, vi p1), (2, vi p2), (3, vi p3), (4, vi p4), (5, vi p5)] [] (mm S) 0 0 (EQ (some (vi (bI rr.1))) rr.2)
  rcases ite_e h with ⟨c6, h⟩ | ⟨c6, h⟩
  · refine At.iloadn dX12_wardens_0 rfl <| At.bipush dX12_wardens_1 (by decide) <| At.idiv dX12_wardens_3 (by decide) <| At.iload dX12_wardens_4 rfl <| At.icmp_ne_f (tgt := 11) dX12_wardens_6 (by decide) c6 <| ?_
    refine At.iconst dX12_wardens_9 (by decide) <| ?_
    obtain rfl := Option.some.inj h
    exact At.zret (b := true) rfl (Nat.zero_le _) (Nat.zero_le _) ⟨rfl, rfl⟩ dX12_wardens_10
  · refine At.iloadn dX12_wardens_0 rfl <| At.bipush dX12_wardens_1 (by decide) <| At.idiv dX12_wardens_3 (by decide) <| At.iload dX12_wardens_4 rfl <| At.icmp_ne_t (tgt := 11) dX12_wardens_6 (by decide) c6 <| ?_
    rcases ite_e h with ⟨c5, h⟩ | ⟨c5, h⟩
    · refine At.iload dX12_wardens_11 rfl <| At.if_eq_t (tgt := 30) dX12_wardens_13 (by decide) c5 <| ?_
      refine At.iconst dX12_wardens_30 (by decide) <| ?_
      obtain rfl := Option.some.inj h
      exact At.zret (b := false) rfl (Nat.zero_le _) (Nat.zero_le _) ⟨rfl, rfl⟩ dX12_wardens_31
    · refine At.iload dX12_wardens_11 rfl <| At.if_eq_f (tgt := 30) dX12_wardens_13 (by decide) c5 <| ?_
      refine At.aloadn dX12_wardens_16 rfl <| At.iloadn dX12_wardens_17 rfl <| At.iloadn dX12_wardens_18 rfl <| At.iloadn dX12_wardens_19 rfl <| At.iload dX12_wardens_20 rfl <| At.iload dX12_wardens_22 rfl <| ?_
      obtain ⟨q1, hq1, h⟩ := bnd_e h
      rcases ite_e h with ⟨c4, h⟩ | ⟨c4, h⟩
      · refine At.cV1 (av := [vi p1, vi p2, vi p3, vi p4, vi p5]) (rest := []) mv_X12_childs lk_X12_426 dX12_wardens_24 rfl rfl sh_130 (Nat.le_of_ble_eq_true rfl) (Nat.le_refl _) ⟨rfl, rfl⟩ (hrc.1 _ _ _ _ _ _ _ hq1) <| At.bifne_t (tgt := 32) dX12_wardens_27 (by decide) c4 <| ?_
        refine At.iconst dX12_wardens_32 (by decide) <| At.istore (ls' := [(6, vi 0), (0, vr 130), (1, vi p1), (2, vi p2), (3, vi p3), (4, vi p4), (5, vi p5)]) dX12_wardens_33 (by decide) rfl <| ?_
        obtain ⟨q2, ho3, h⟩ := bnd_e h
        refine At.sub [1, 2, 3, 4, 5, 6, 0] rfl (lX12_wardens_L35 hrc hd0 FU _ _ q2 ho3 (fun hq => ?_) (fun hq => ?_))
        · rw [if_pos hq] at h
          refine At.iconst dX12_wardens_89 (by decide) <| ?_
          obtain rfl := Option.some.inj h
          exact At.zret (b := false) rfl (Nat.zero_le _) (Nat.zero_le _) ⟨rfl, rfl⟩ dX12_wardens_90
        · rw [if_neg (by omega)] at h
          refine At.iconst dX12_wardens_97 (by decide) <| ?_
          obtain rfl := Option.some.inj h
          exact At.zret (b := true) rfl (Nat.zero_le _) (Nat.zero_le _) ⟨rfl, rfl⟩ dX12_wardens_98
      · refine At.cV1 (av := [vi p1, vi p2, vi p3, vi p4, vi p5]) (rest := []) mv_X12_childs lk_X12_426 dX12_wardens_24 rfl rfl sh_130 (Nat.le_of_ble_eq_true rfl) (Nat.le_refl _) ⟨rfl, rfl⟩ (hrc.1 _ _ _ _ _ _ _ hq1) <| At.bifne_f (tgt := 32) dX12_wardens_27 (by decide) c4 <| ?_
        refine At.iconst dX12_wardens_30 (by decide) <| ?_
        obtain rfl := Option.some.inj h
        exact At.zret (b := false) rfl (Nat.zero_le _) (Nat.zero_le _) ⟨rfl, rfl⟩ dX12_wardens_31
def fGX12_childs : Nat → Nat → Int → Int → Int → Int → Int → Int → SS → Option (Bool × SS)
  | 0 => fun _ _ _ _ _ _ _ _ => none
  | n + 1 => fun tg a0 a1 a2 a3 a4 a5 S => if tg = 0 then fX12_childs (fGX12_childs n) a0 a1 a2 a3 a4 S else if tg = 1 then fX12_childsBy (fGX12_childs n) a0 a1 a2 a3 a4 a5 S else fX12_wardens (fGX12_childs n) a0 a1 a2 a3 a4 S
set_option maxRecDepth 100000 in
set_option maxHeartbeats 4000000 in
theorem rGX12_childs {G : GG} : ∀ n : Nat, RCX12_childs G (fGX12_childs n) (n + 5) := by
  intro n
  induction n with
  | zero => exact ⟨(fun _ _ _ _ _ _ _ h => by cases h), (fun _ _ _ _ _ _ _ _ h => by cases h), (fun _ _ _ _ _ _ _ h => by cases h)⟩
  | succ n ih =>
    have e : n + 1 + 5 = (n + 5) + 1 := by omega
    rw [e]
    exact ⟨(fun p1 p2 p3 p4 p5 S rr h => rX12_childs ih (Nat.le_add_left _ _) (show fX12_childs (fGX12_childs n) p1 p2 p3 p4 p5 S = some rr from h)),
      (fun p1 p2 p3 p4 p5 p6 S rr h => rX12_childsBy ih (Nat.le_add_left _ _) (show fX12_childsBy (fGX12_childs n) p1 p2 p3 p4 p5 p6 S = some rr from h)),
      (fun p1 p2 p3 p4 p5 S rr h => rX12_wardens ih (Nat.le_add_left _ _) (show fX12_wardens (fGX12_childs n) p1 p2 p3 p4 p5 S = some rr from h))⟩
def gX12_childs (p1 : Int) (p2 : Int) (p3 : Int) (p4 : Int) (p5 : Int) (S : SS) : Option (Bool × SS) := fGX12_childs 12 0 p1 p2 p3 p4 p5 0 S
set_option maxRecDepth 100000 in
set_option maxHeartbeats 4000000 in
theorem rgX12_childs {G : GG} {p1 : Int} {p2 : Int} {p3 : Int} {p4 : Int} {p5 : Int} {S : SS} {rr : (Bool × SS)} (h : gX12_childs p1 p2 p3 p4 p5 S = some rr) : RD G mX12_childs 17 [vr 130, vi p1, vi p2, vi p3, vi p4, vi p5] S (some (vi (bI rr.1))) rr.2 := (rGX12_childs 12).1 _ _ _ _ _ _ _ h
def gX12_childsBy (p1 : Int) (p2 : Int) (p3 : Int) (p4 : Int) (p5 : Int) (p6 : Int) (S : SS) : Option (Bool × SS) := fGX12_childs 12 1 p1 p2 p3 p4 p5 p6 S
set_option maxRecDepth 100000 in
set_option maxHeartbeats 4000000 in
theorem rgX12_childsBy {G : GG} {p1 : Int} {p2 : Int} {p3 : Int} {p4 : Int} {p5 : Int} {p6 : Int} {S : SS} {rr : (Bool × SS)} (h : gX12_childsBy p1 p2 p3 p4 p5 p6 S = some rr) : RD G mX12_childsBy 17 [vr 130, vi p1, vi p2, vi p3, vi p4, vi p5, vi p6] S (some (vi (bI rr.1))) rr.2 := (rGX12_childs 12).2.1 _ _ _ _ _ _ _ _ h
def gX12_wardens (p1 : Int) (p2 : Int) (p3 : Int) (p4 : Int) (p5 : Int) (S : SS) : Option (Bool × SS) := fGX12_childs 12 2 p1 p2 p3 p4 p5 0 S
set_option maxRecDepth 100000 in
set_option maxHeartbeats 4000000 in
theorem rgX12_wardens {G : GG} {p1 : Int} {p2 : Int} {p3 : Int} {p4 : Int} {p5 : Int} {S : SS} {rr : (Bool × SS)} (h : gX12_wardens p1 p2 p3 p4 p5 S = some rr) : RD G mX12_wardens 17 [vr 130, vi p1, vi p2, vi p3, vi p4, vi p5] S (some (vi (bI rr.1))) rr.2 := (rGX12_childs 12).2.2 _ _ _ _ _ _ _ h
def fX12_forcedIn_L2 (l1 : Int) (l2 : Int) : Nat → Int → SS → Option (Nat × Int × SS)
  | 0, _, _ => none
  | n + 1, l3, S =>
    if 3 < l3 then (
      some (1, 0, S)
    ) else (
      Option.bind (fX12_standOf l1 S) fun q1 =>
      Option.bind (gX12_childs l1 q1 0 l2 l3 S) fun q2 =>
      if q2.1 = true then (
        some (0, l3, q2.2)
      ) else (
        lt (w32 (l3 + 1)) fun x3 =>
        fX12_forcedIn_L2 l1 l2 n x3 q2.2
      )
    )
def fX12_forcedIn (p1 : Int) (p2 : Int) (S : SS) : Option (Int × SS) :=
  Option.bind (fX12_forcedIn_L2 p1 p2 FU 0 S) fun q1 =>
  if q1.1 = 0 then (
    some (q1.2.1, q1.2.2)
  ) else (
    some ((-1), q1.2.2)
  )
set_option maxRecDepth 100000 in
set_option maxHeartbeats 4000000 in
theorem lX12_forcedIn_L2 {G : GG} {Φ : Option VV → MM → Prop} {l1 : Int} {l2 : Int} : ∀ (n : Nat) (l3 : Int) (S : SS) (q : Nat × Int × SS), fX12_forcedIn_L2 l1 l2 n l3 S = some q → (q.1 = 0 → At G mX12_forcedIn 18 23 [(3, vi q.2.1)] [] (mm q.2.2) 0 0 Φ) → (q.1 = 1 → At G mX12_forcedIn 18 31 [] [] (mm q.2.2) 0 0 Φ) → At G mX12_forcedIn 18 2 [(0, vr 130), (1, vi l1), (2, vi l2), (3, vi l3)] [] (mm S) 0 0 Φ := by
  intro n
  induction n with
  | zero =>
    intro _ _ _ h
    cases h
  | succ n ih =>
    intro l3 S q h K23 K31
    unfold fX12_forcedIn_L2 at h
    rcases ite_e h with ⟨c5, h⟩ | ⟨c5, h⟩
    · refine At.iloadn dX12_forcedIn_2 rfl <| At.iconst dX12_forcedIn_3 (by decide) <| At.icmp_gt_t (tgt := 31) dX12_forcedIn_4 (by decide) c5 <| ?_
      obtain rfl := Option.some.inj h
      exact At.sub [] rfl (K31 rfl)
    · refine At.iloadn dX12_forcedIn_2 rfl <| At.iconst dX12_forcedIn_3 (by decide) <| At.icmp_gt_f (tgt := 31) dX12_forcedIn_4 (by decide) c5 <| ?_
      refine At.aloadn dX12_forcedIn_7 rfl <| At.iloadn dX12_forcedIn_8 rfl <| At.aloadn dX12_forcedIn_9 rfl <| At.iloadn dX12_forcedIn_10 rfl <| ?_
      obtain ⟨q1, hq1, h⟩ := bnd_e h
      refine At.cV1 (av := [vi l1]) (rest := [vi l1, vr 130]) mv_X12_standOf lk_X12_239 dX12_forcedIn_11 rfl rfl sh_130 (Nat.le_of_ble_eq_true rfl) (by decide) ⟨rfl, rfl⟩ (rX12_standOf hq1) <| At.iconst dX12_forcedIn_14 (by decide) <| At.iloadn dX12_forcedIn_15 rfl <| At.iloadn dX12_forcedIn_16 rfl <| ?_
      obtain ⟨q2, hq2, h⟩ := bnd_e h
      rcases ite_e h with ⟨c4, h⟩ | ⟨c4, h⟩
      · refine At.cV1 (av := [vi l1, vi q1, vi 0, vi l2, vi l3]) (rest := []) mv_X12_childs lk_X12_426 dX12_forcedIn_17 rfl rfl sh_130 (Nat.le_of_ble_eq_true rfl) (by decide) ⟨rfl, rfl⟩ (rgX12_childs hq2) <| At.bifeq_f (tgt := 25) dX12_forcedIn_20 (by decide) c4 <| ?_
        obtain rfl := Option.some.inj h
        exact At.sub [3] rfl (K23 rfl)
      · refine At.cV1 (av := [vi l1, vi q1, vi 0, vi l2, vi l3]) (rest := []) mv_X12_childs lk_X12_426 dX12_forcedIn_17 rfl rfl sh_130 (Nat.le_of_ble_eq_true rfl) (by decide) ⟨rfl, rfl⟩ (rgX12_childs hq2) <| At.bifeq_t (tgt := 25) dX12_forcedIn_20 (by decide) c4 <| ?_
        obtain ⟨x3, hx3, h⟩ := lt_e h
        refine At.iinc (ls' := [(3, vi x3), (0, vr 130), (1, vi l1), (2, vi l2)]) dX12_forcedIn_25 rfl (by decide) (by rw [hx3]; rfl) <| At.goto (tgt := 2) dX12_forcedIn_28 (by decide) <| ?_
        exact At.sub [1, 2, 3, 0] rfl (ih _ _ _ h K23 K31)
set_option maxRecDepth 100000 in
set_option maxHeartbeats 4000000 in
theorem rX12_forcedIn {G : GG} {p1 : Int} {p2 : Int} {S : SS} {rr : (Int × SS)} (h : fX12_forcedIn p1 p2 S = some rr) : RD G mX12_forcedIn 18 [vr 130, vi p1, vi p2] S (some (vi rr.1)) rr.2 := by
  unfold fX12_forcedIn at h
  refine Runs.of pl_X12 (Nat.le_of_ble_eq_true rfl) ?_
  show At G mX12_forcedIn 18 0 [(0, vr 130), (1, vi p1), (2, vi p2)] [] (mm S) 0 0 (EQ (some (vi rr.1)) rr.2)
  refine At.iconst dX12_forcedIn_0 (by decide) <| At.istoren (ls' := [(3, vi 0), (0, vr 130), (1, vi p1), (2, vi p2)]) dX12_forcedIn_1 (by decide) rfl <| ?_
  obtain ⟨q1, ho2, h⟩ := bnd_e h
  refine At.sub [1, 2, 3, 0] rfl (lX12_forcedIn_L2 FU _ _ q1 ho2 (fun hq => ?_) (fun hq => ?_))
  · rw [if_pos hq] at h
    refine At.iloadn dX12_forcedIn_23 rfl <| ?_
    obtain rfl := Option.some.inj h
    exact At.iret rfl (Nat.zero_le _) (Nat.zero_le _) ⟨rfl, rfl⟩ dX12_forcedIn_24
  · rw [if_neg (by omega)] at h
    refine At.iconst dX12_forcedIn_31 (by decide) <| ?_
    obtain rfl := Option.some.inj h
    exact At.iret rfl (Nat.zero_le _) (Nat.zero_le _) ⟨rfl, rfl⟩ dX12_forcedIn_32
def fX12_forces (p1 : Int) (p2 : Int) (S : SS) : Option (Int × SS) :=
  lt (up S 130 0 0) fun S1 =>
  Option.bind (fX12_isGoer p1 S1) fun q2 =>
  if q2 = true then (
    Option.bind (fX12_isCorner p2 S1) fun q3 =>
    if q3 = true then (
      Option.bind (fX12_forcedIn p1 p2 S1) fun q4 =>
      some (q4.1, q4.2)
    ) else (
      some ((-2), S1)
    )
  ) else (
    some ((-2), S1)
  )
set_option maxRecDepth 100000 in
set_option maxHeartbeats 4000000 in
theorem rX12_forces {G : GG} {p1 : Int} {p2 : Int} {S : SS} {rr : (Int × SS)} (h : fX12_forces p1 p2 S = some rr) : RD G mX12_forces 19 [vr 130, vi p1, vi p2] S (some (vi rr.1)) rr.2 := by
  unfold fX12_forces at h
  refine Runs.of pl_X12 (Nat.le_of_ble_eq_true rfl) ?_
  show At G mX12_forces 19 0 [(0, vr 130), (1, vi p1), (2, vi p2)] [] (mm S) 0 0 (EQ (some (vi rr.1)) rr.2)
  refine At.aloadn dX12_forces_0 rfl <| At.iconst dX12_forces_1 (by decide) <| ?_
  obtain ⟨S1, hS1, h⟩ := lt_e h
  refine At.putI fw_X12_1 sh_130 (le149 sh_130) dX12_forces_2 <| At.nmS hS1 <| At.aloadn dX12_forces_5 rfl <| At.iloadn dX12_forces_6 rfl <| At.i2l dX12_forces_7 <| ?_
  obtain ⟨q2, hq2, h⟩ := bnd_e h
  rcases ite_e h with ⟨c6, h⟩ | ⟨c6, h⟩
  · refine At.cV1 (av := [vl p1]) (rest := []) mv_X12_isGoer lk_X12_233 dX12_forces_8 rfl rfl sh_130 (Nat.le_of_ble_eq_true rfl) (by decide) ⟨rfl, rfl⟩ (rX12_isGoer hq2) <| At.bifeq_f (tgt := 32) dX12_forces_11 (by decide) c6 <| ?_
    refine At.aloadn dX12_forces_14 rfl <| At.iloadn dX12_forces_15 rfl <| At.i2l dX12_forces_16 <| ?_
    obtain ⟨q3, hq3, h⟩ := bnd_e h
    rcases ite_e h with ⟨c5, h⟩ | ⟨c5, h⟩
    · refine At.cV1 (av := [vl p2]) (rest := []) mv_X12_isCorner lk_X12_268 dX12_forces_17 rfl rfl sh_130 (Nat.le_of_ble_eq_true rfl) (by decide) ⟨rfl, rfl⟩ (rX12_isCorner hq3) <| At.bifeq_f (tgt := 32) dX12_forces_20 (by decide) c5 <| ?_
      refine At.aloadn dX12_forces_23 rfl <| At.iloadn dX12_forces_24 rfl <| At.iloadn dX12_forces_25 rfl <| ?_
      obtain ⟨q4, hq4, h⟩ := bnd_e h
      refine At.cV1 (av := [vi p1, vi p2]) (rest := []) mv_X12_forcedIn lk_X12_429 dX12_forces_26 rfl rfl sh_130 (Nat.le_of_ble_eq_true rfl) (by decide) ⟨rfl, rfl⟩ (rX12_forcedIn hq4) <| At.goto (tgt := 34) dX12_forces_29 (by decide) <| ?_
      obtain rfl := Option.some.inj h
      exact At.iret rfl (Nat.zero_le _) (Nat.zero_le _) ⟨rfl, rfl⟩ dX12_forces_34
    · refine At.cV1 (av := [vl p2]) (rest := []) mv_X12_isCorner lk_X12_268 dX12_forces_17 rfl rfl sh_130 (Nat.le_of_ble_eq_true rfl) (by decide) ⟨rfl, rfl⟩ (rX12_isCorner hq3) <| At.bifeq_t (tgt := 32) dX12_forces_20 (by decide) c5 <| ?_
      refine At.bipush dX12_forces_32 (by decide) <| ?_
      obtain rfl := Option.some.inj h
      exact At.iret rfl (Nat.zero_le _) (Nat.zero_le _) ⟨rfl, rfl⟩ dX12_forces_34
  · refine At.cV1 (av := [vl p1]) (rest := []) mv_X12_isGoer lk_X12_233 dX12_forces_8 rfl rfl sh_130 (Nat.le_of_ble_eq_true rfl) (by decide) ⟨rfl, rfl⟩ (rX12_isGoer hq2) <| At.bifeq_t (tgt := 32) dX12_forces_11 (by decide) c6 <| ?_
    refine At.bipush dX12_forces_32 (by decide) <| ?_
    obtain rfl := Option.some.inj h
    exact At.iret rfl (Nat.zero_le _) (Nat.zero_le _) ⟨rfl, rfl⟩ dX12_forces_34
def fX12_best_L43 (l1 : Int) (l2 : Int) (l3 : Int) : Nat → Int → SS → Option (Nat × Int × SS)
  | 0, _, _ => none
  | n + 1, l4, S =>
    rdA S 131 3303 2 fun v1 =>
    if v1 ≤ l4 then (
      some (1, 0, S)
    ) else (
      Option.bind (fX12_standOf l1 S) fun q3 =>
      Option.bind (gX12_childsBy l1 q3 0 l4 l2 l3 S) fun q4 =>
      if q4.1 = true then (
        some (0, l4, q4.2)
      ) else (
        lt (w32 (l4 + 1)) fun x5 =>
        fX12_best_L43 l1 l2 l3 n x5 q4.2
      )
    )
def fX12_best (p1 : Int) (p2 : Int) (S : SS) : Option (Int × SS) :=
  lt (up S 130 0 0) fun S1 =>
  Option.bind (fX12_isGoer p1 S1) fun q2 =>
  if q2 = true then (
    Option.bind (fX12_isCorner p2 S1) fun q3 =>
    if q3 = true then (
      Option.bind (fX12_forcedIn p1 p2 S1) fun q4 =>
      if 1 ≤ q4.1 then (
        Option.bind (fX12_best_L43 p1 p2 q4.1 FU 0 q4.2) fun q5 =>
        if q5.1 = 0 then (
          some (q5.2.1, q5.2.2)
        ) else (
          some (99, q5.2.2)
        )
      ) else (
        some ((-1), q4.2)
      )
    ) else (
      some ((-2), S1)
    )
  ) else (
    some ((-2), S1)
  )
set_option maxRecDepth 100000 in
set_option maxHeartbeats 4000000 in
theorem lX12_best_L43 {G : GG} {Φ : Option VV → MM → Prop} {l1 : Int} {l2 : Int} {l3 : Int} : ∀ (n : Nat) (l4 : Int) (S : SS) (q : Nat × Int × SS), fX12_best_L43 l1 l2 l3 n l4 S = some q → (q.1 = 0 → At G mX12_best 19 72 [(4, vi q.2.1)] [] (mm q.2.2) 0 0 Φ) → (q.1 = 1 → At G mX12_best 19 81 [] [] (mm q.2.2) 0 0 Φ) → At G mX12_best 19 43 [(0, vr 130), (1, vi l1), (2, vi l2), (3, vi l3), (4, vi l4)] [] (mm S) 0 0 Φ := by
  intro n
  induction n with
  | zero =>
    intro _ _ _ h
    cases h
  | succ n ih =>
    intro l4 S q h K72 K81
    unfold fX12_best_L43 at h
    refine At.iload dX12_best_43 rfl <| At.aloadn dX12_best_45 rfl <| At.getR fl_X12_13 sh_130 (le149 sh_130) rf_130_1 dX12_best_46 <| At.iconst dX12_best_49 (by decide) <| ?_
    obtain ⟨v1, hv1, g2, h⟩ := rdA_e h
    rcases ite_e h with ⟨c7, h⟩ | ⟨c7, h⟩
    · refine At.iald sh_131 (le149 sh_131) g2.1 g2.2 dX12_best_50 <| At.nm hv1 <| At.icmp_ge_t (tgt := 81) dX12_best_51 (by decide) c7 <| ?_
      obtain rfl := Option.some.inj h
      exact At.sub [] rfl (K81 rfl)
    · refine At.iald sh_131 (le149 sh_131) g2.1 g2.2 dX12_best_50 <| At.nm hv1 <| At.icmp_ge_f (tgt := 81) dX12_best_51 (by decide) c7 <| ?_
      refine At.aloadn dX12_best_54 rfl <| At.iloadn dX12_best_55 rfl <| At.aloadn dX12_best_56 rfl <| At.iloadn dX12_best_57 rfl <| ?_
      obtain ⟨q3, hq3, h⟩ := bnd_e h
      refine At.cV1 (av := [vi l1]) (rest := [vi l1, vr 130]) mv_X12_standOf lk_X12_239 dX12_best_58 rfl rfl sh_130 (Nat.le_of_ble_eq_true rfl) (by decide) ⟨rfl, rfl⟩ (rX12_standOf hq3) <| At.iconst dX12_best_61 (by decide) <| At.iload dX12_best_62 rfl <| At.iloadn dX12_best_64 rfl <| At.iloadn dX12_best_65 rfl <| ?_
      obtain ⟨q4, hq4, h⟩ := bnd_e h
      rcases ite_e h with ⟨c6, h⟩ | ⟨c6, h⟩
      · refine At.cV1 (av := [vi l1, vi q3, vi 0, vi l4, vi l2, vi l3]) (rest := []) mv_X12_childsBy lk_X12_418 dX12_best_66 rfl rfl sh_130 (Nat.le_of_ble_eq_true rfl) (by decide) ⟨rfl, rfl⟩ (rgX12_childsBy hq4) <| At.bifeq_f (tgt := 75) dX12_best_69 (by decide) c6 <| ?_
        obtain rfl := Option.some.inj h
        exact At.sub [4] rfl (K72 rfl)
      · refine At.cV1 (av := [vi l1, vi q3, vi 0, vi l4, vi l2, vi l3]) (rest := []) mv_X12_childsBy lk_X12_418 dX12_best_66 rfl rfl sh_130 (Nat.le_of_ble_eq_true rfl) (by decide) ⟨rfl, rfl⟩ (rgX12_childsBy hq4) <| At.bifeq_t (tgt := 75) dX12_best_69 (by decide) c6 <| ?_
        obtain ⟨x5, hx5, h⟩ := lt_e h
        refine At.iinc (ls' := [(4, vi x5), (0, vr 130), (1, vi l1), (2, vi l2), (3, vi l3)]) dX12_best_75 rfl (by decide) (by rw [hx5]; rfl) <| At.goto (tgt := 43) dX12_best_78 (by decide) <| ?_
        exact At.sub [1, 2, 3, 4, 0] rfl (ih _ _ _ h K72 K81)
set_option maxRecDepth 100000 in
set_option maxHeartbeats 4000000 in
theorem rX12_best {G : GG} {p1 : Int} {p2 : Int} {S : SS} {rr : (Int × SS)} (h : fX12_best p1 p2 S = some rr) : RD G mX12_best 19 [vr 130, vi p1, vi p2] S (some (vi rr.1)) rr.2 := by
  unfold fX12_best at h
  refine Runs.of pl_X12 (Nat.le_of_ble_eq_true rfl) ?_
  show At G mX12_best 19 0 [(0, vr 130), (1, vi p1), (2, vi p2)] [] (mm S) 0 0 (EQ (some (vi rr.1)) rr.2)
  refine At.aloadn dX12_best_0 rfl <| At.iconst dX12_best_1 (by decide) <| ?_
  obtain ⟨S1, hS1, h⟩ := lt_e h
  refine At.putI fw_X12_1 sh_130 (le149 sh_130) dX12_best_2 <| At.nmS hS1 <| At.aloadn dX12_best_5 rfl <| At.iloadn dX12_best_6 rfl <| At.i2l dX12_best_7 <| ?_
  obtain ⟨q2, hq2, h⟩ := bnd_e h
  rcases ite_e h with ⟨c9, h⟩ | ⟨c9, h⟩
  · refine At.cV1 (av := [vl p1]) (rest := []) mv_X12_isGoer lk_X12_233 dX12_best_8 rfl rfl sh_130 (Nat.le_of_ble_eq_true rfl) (by decide) ⟨rfl, rfl⟩ (rX12_isGoer hq2) <| At.bifeq_f (tgt := 23) dX12_best_11 (by decide) c9 <| ?_
    refine At.aloadn dX12_best_14 rfl <| At.iloadn dX12_best_15 rfl <| At.i2l dX12_best_16 <| ?_
    obtain ⟨q3, hq3, h⟩ := bnd_e h
    rcases ite_e h with ⟨c8, h⟩ | ⟨c8, h⟩
    · refine At.cV1 (av := [vl p2]) (rest := []) mv_X12_isCorner lk_X12_268 dX12_best_17 rfl rfl sh_130 (Nat.le_of_ble_eq_true rfl) (by decide) ⟨rfl, rfl⟩ (rX12_isCorner hq3) <| At.bifne_t (tgt := 26) dX12_best_20 (by decide) c8 <| ?_
      refine At.aloadn dX12_best_26 rfl <| At.iloadn dX12_best_27 rfl <| At.iloadn dX12_best_28 rfl <| ?_
      obtain ⟨q4, hq4, h⟩ := bnd_e h
      rcases ite_e h with ⟨c7, h⟩ | ⟨c7, h⟩
      · refine At.cV1 (av := [vi p1, vi p2]) (rest := []) mv_X12_forcedIn lk_X12_429 dX12_best_29 rfl rfl sh_130 (Nat.le_of_ble_eq_true rfl) (by decide) ⟨rfl, rfl⟩ (rX12_forcedIn hq4) <| At.istoren (ls' := [(3, vi q4.1), (0, vr 130), (1, vi p1), (2, vi p2)]) dX12_best_32 (by decide) rfl <| At.iloadn dX12_best_33 rfl <| At.iconst dX12_best_34 (by decide) <| At.icmp_ge_t (tgt := 40) dX12_best_35 (by decide) c7 <| ?_
        refine At.iconst dX12_best_40 (by decide) <| At.istore (ls' := [(4, vi 0), (3, vi q4.1), (0, vr 130), (1, vi p1), (2, vi p2)]) dX12_best_41 (by decide) rfl <| ?_
        obtain ⟨q5, ho6, h⟩ := bnd_e h
        refine At.sub [2, 3, 4, 1, 0] rfl (lX12_best_L43 FU _ _ q5 ho6 (fun hq => ?_) (fun hq => ?_))
        · rw [if_pos hq] at h
          refine At.iload dX12_best_72 rfl <| ?_
          obtain rfl := Option.some.inj h
          exact At.iret rfl (Nat.zero_le _) (Nat.zero_le _) ⟨rfl, rfl⟩ dX12_best_74
        · rw [if_neg (by omega)] at h
          refine At.bipush dX12_best_81 (by decide) <| ?_
          obtain rfl := Option.some.inj h
          exact At.iret rfl (Nat.zero_le _) (Nat.zero_le _) ⟨rfl, rfl⟩ dX12_best_83
      · refine At.cV1 (av := [vi p1, vi p2]) (rest := []) mv_X12_forcedIn lk_X12_429 dX12_best_29 rfl rfl sh_130 (Nat.le_of_ble_eq_true rfl) (by decide) ⟨rfl, rfl⟩ (rX12_forcedIn hq4) <| At.istoren (ls' := [(3, vi q4.1), (0, vr 130), (1, vi p1), (2, vi p2)]) dX12_best_32 (by decide) rfl <| At.iloadn dX12_best_33 rfl <| At.iconst dX12_best_34 (by decide) <| At.icmp_ge_f (tgt := 40) dX12_best_35 (by decide) c7 <| ?_
        refine At.iconst dX12_best_38 (by decide) <| ?_
        obtain rfl := Option.some.inj h
        exact At.iret rfl (Nat.zero_le _) (Nat.zero_le _) ⟨rfl, rfl⟩ dX12_best_39
    · refine At.cV1 (av := [vl p2]) (rest := []) mv_X12_isCorner lk_X12_268 dX12_best_17 rfl rfl sh_130 (Nat.le_of_ble_eq_true rfl) (by decide) ⟨rfl, rfl⟩ (rX12_isCorner hq3) <| At.bifne_f (tgt := 26) dX12_best_20 (by decide) c8 <| ?_
      refine At.bipush dX12_best_23 (by decide) <| ?_
      obtain rfl := Option.some.inj h
      exact At.iret rfl (Nat.zero_le _) (Nat.zero_le _) ⟨rfl, rfl⟩ dX12_best_25
  · refine At.cV1 (av := [vl p1]) (rest := []) mv_X12_isGoer lk_X12_233 dX12_best_8 rfl rfl sh_130 (Nat.le_of_ble_eq_true rfl) (by decide) ⟨rfl, rfl⟩ (rX12_isGoer hq2) <| At.bifeq_t (tgt := 23) dX12_best_11 (by decide) c9 <| ?_
    refine At.bipush dX12_best_23 (by decide) <| ?_
    obtain rfl := Option.some.inj h
    exact At.iret rfl (Nat.zero_le _) (Nat.zero_le _) ⟨rfl, rfl⟩ dX12_best_25
def fX12_laysLikely_L10 (l2 : Int) : Nat → Int → Int → SS → Option (Int × SS)
  | 0, _, _, _ => none
  | n + 1, l3, l4, S =>
    if l2 ≤ l4 then (
      some (l3, S)
    ) else (
      rdA S 131 3303 2 fun v1 =>
      if v1 ≤ 0 then (
        some (l3, S)
      ) else (
        Option.bind (fX12_goesMany 1 S) fun q3 =>
        rdA q3 131 3303 2 fun v4 =>
        lt (w32 (l3 * v4)) fun x6 =>
        lt (w32 (l4 + 1)) fun x7 =>
        fX12_laysLikely_L10 l2 n x6 x7 q3
      )
    )
def fX12_laysLikely (p1 : Int) (p2 : Int) (S : SS) : Option (Int × SS) :=
  Option.bind (fX12_beginsMany p1 S) fun q1 =>
  Option.bind (fX12_laysLikely_L10 p2 FU 1 0 q1) fun q2 =>
  some (q2.1, q2.2)
set_option maxRecDepth 100000 in
set_option maxHeartbeats 4000000 in
theorem lX12_laysLikely_L10 {G : GG} {Φ : Option VV → MM → Prop} {l2 : Int} : ∀ (n : Nat) (l3 : Int) (l4 : Int) (S : SS) (q : Int × SS), fX12_laysLikely_L10 l2 n l3 l4 S = some q → At G mX12_laysLikely 7 45 [(3, vi q.1)] [] (mm q.2) 0 0 Φ → At G mX12_laysLikely 7 10 [(0, vr 130), (2, vi l2), (3, vi l3), (4, vi l4)] [] (mm S) 0 0 Φ := by
  intro n
  induction n with
  | zero =>
    intro _ _ _ _ h
    cases h
  | succ n ih =>
    intro l3 l4 S q h K45
    unfold fX12_laysLikely_L10 at h
    rcases ite_e h with ⟨c9, h⟩ | ⟨c9, h⟩
    · refine At.iload dX12_laysLikely_10 rfl <| At.iloadn dX12_laysLikely_12 rfl <| At.icmp_ge_t (tgt := 45) dX12_laysLikely_13 (by decide) c9 <| ?_
      obtain rfl := Option.some.inj h
      exact At.sub [2] rfl K45
    · refine At.iload dX12_laysLikely_10 rfl <| At.iloadn dX12_laysLikely_12 rfl <| At.icmp_ge_f (tgt := 45) dX12_laysLikely_13 (by decide) c9 <| ?_
      refine At.aloadn dX12_laysLikely_16 rfl <| At.getR fl_X12_13 sh_130 (le149 sh_130) rf_130_1 dX12_laysLikely_17 <| At.iconst dX12_laysLikely_20 (by decide) <| ?_
      obtain ⟨v1, hv1, g2, h⟩ := rdA_e h
      rcases ite_e h with ⟨c8, h⟩ | ⟨c8, h⟩
      · refine At.iald sh_131 (le149 sh_131) g2.1 g2.2 dX12_laysLikely_21 <| At.nm hv1 <| At.if_le_t (tgt := 45) dX12_laysLikely_22 (by decide) c8 <| ?_
        obtain rfl := Option.some.inj h
        exact At.sub [2] rfl K45
      · refine At.iald sh_131 (le149 sh_131) g2.1 g2.2 dX12_laysLikely_21 <| At.nm hv1 <| At.if_le_f (tgt := 45) dX12_laysLikely_22 (by decide) c8 <| ?_
        refine At.aloadn dX12_laysLikely_25 rfl <| At.iconst dX12_laysLikely_26 (by decide) <| ?_
        obtain ⟨q3, hq3, h⟩ := bnd_e h
        refine At.cV0 (av := [vi 1]) (rest := []) mv_X12_goesMany lk_X12_361 dX12_laysLikely_27 rfl rfl sh_130 (Nat.le_of_ble_eq_true rfl) (by decide) ⟨rfl, rfl⟩ (rX12_goesMany hq3) <| At.iloadn dX12_laysLikely_30 rfl <| At.aloadn dX12_laysLikely_31 rfl <| At.getR fl_X12_13 sh_130 (le149 sh_130) rf_130_1 dX12_laysLikely_32 <| At.iconst dX12_laysLikely_35 (by decide) <| ?_
        obtain ⟨v4, hv4, g5, h⟩ := rdA_e h
        refine At.iald sh_131 (le149 sh_131) g5.1 g5.2 dX12_laysLikely_36 <| At.nm hv4 <| At.imul dX12_laysLikely_37 <| ?_
        obtain ⟨x6, hx6, h⟩ := lt_e h
        refine At.nm hx6 <| At.istoren (ls' := [(3, vi x6), (0, vr 130), (2, vi l2), (4, vi l4)]) dX12_laysLikely_38 (by decide) rfl <| ?_
        obtain ⟨x7, hx7, h⟩ := lt_e h
        refine At.iinc (ls' := [(4, vi x7), (3, vi x6), (0, vr 130), (2, vi l2)]) dX12_laysLikely_39 rfl (by decide) (by rw [hx7]; rfl) <| At.goto (tgt := 10) dX12_laysLikely_42 (by decide) <| ?_
        exact At.sub [2, 3, 1, 0] rfl (ih _ _ _ _ h K45)
set_option maxRecDepth 100000 in
set_option maxHeartbeats 4000000 in
theorem rX12_laysLikely {G : GG} {p1 : Int} {p2 : Int} {S : SS} {rr : (Int × SS)} (h : fX12_laysLikely p1 p2 S = some rr) : RD G mX12_laysLikely 7 [vr 130, vi p1, vi p2] S (some (vi rr.1)) rr.2 := by
  unfold fX12_laysLikely at h
  refine Runs.of pl_X12 (Nat.le_of_ble_eq_true rfl) ?_
  show At G mX12_laysLikely 7 0 [(0, vr 130), (1, vi p1), (2, vi p2)] [] (mm S) 0 0 (EQ (some (vi rr.1)) rr.2)
  refine At.aloadn dX12_laysLikely_0 rfl <| At.iloadn dX12_laysLikely_1 rfl <| ?_
  obtain ⟨q1, hq1, h⟩ := bnd_e h
  refine At.cV0 (av := [vi p1]) (rest := []) mv_X12_beginsMany lk_X12_358 dX12_laysLikely_2 rfl rfl sh_130 (Nat.le_of_ble_eq_true rfl) (by decide) ⟨rfl, rfl⟩ (rX12_beginsMany hq1) <| At.iconst dX12_laysLikely_5 (by decide) <| At.istoren (ls' := [(3, vi 1), (0, vr 130), (1, vi p1), (2, vi p2)]) dX12_laysLikely_6 (by decide) rfl <| At.iconst dX12_laysLikely_7 (by decide) <| At.istore (ls' := [(4, vi 0), (3, vi 1), (0, vr 130), (1, vi p1), (2, vi p2)]) dX12_laysLikely_8 (by decide) rfl <| ?_
  obtain ⟨q2, ho3, h⟩ := bnd_e h
  refine At.sub [2, 4, 1, 0] rfl (lX12_laysLikely_L10 FU _ _ _ q2 ho3 ?_)
  refine At.iloadn dX12_laysLikely_45 rfl <| ?_
  obtain rfl := Option.some.inj h
  exact At.iret rfl (Nat.zero_le _) (Nat.zero_le _) ⟨rfl, rfl⟩ dX12_laysLikely_46
def RCX12_common (G : GG) (rc : Nat → Int → Int → Option Int) (d : Nat) : Prop := (∀ (p0 : Int) (p1 : Int)  (rr : Int), rc 0 p0 p1 = some rr → ∀ S : SS, RD G mX12_common d [vi p0, vi p1] S (some (vi rr)) S)
def fX12_common (rc : Nat → Int → Int → Option Int) (p0 : Int) (p1 : Int) : Option Int :=
  if p1 = 0 then (
    some p0
  ) else (
    nz p1 <|
    Option.bind (rc 0 p1 (Int.tmod p0 p1)) fun q2 =>
    some q2
  )
set_option maxRecDepth 100000 in
set_option maxHeartbeats 4000000 in
theorem rX12_common {G : GG} {rc : Nat → Int → Int → Option Int} {d : Nat} (hrc : RCX12_common G rc d) (hd0 : 1 ≤ d) {p0 : Int} {p1 : Int} {S : SS} {rr : Int} (h : fX12_common rc p0 p1 = some rr) : RD G mX12_common (d + 1) [vi p0, vi p1] S (some (vi rr)) S := by
  unfold fX12_common at h
  refine Runs.of pl_X12 (Nat.le_of_ble_eq_true rfl) ?_
  show At G mX12_common (d + 1) 0 [(0, vi p0), (1, vi p1)] [] (mm S) 0 0 (EQ (some (vi rr)) S)
  rcases ite_e h with ⟨c3, h⟩ | ⟨c3, h⟩
  · refine At.iloadn dX12_common_0 rfl <| At.if_ne_f (tgt := 8) dX12_common_1 (by decide) c3 <| ?_
    refine At.iloadn dX12_common_4 rfl <| At.goto (tgt := 15) dX12_common_5 (by decide) <| ?_
    obtain rfl := Option.some.inj h
    exact At.iret rfl (Nat.zero_le _) (Nat.zero_le _) ⟨rfl, rfl⟩ dX12_common_15
  · refine At.iloadn dX12_common_0 rfl <| At.if_ne_t (tgt := 8) dX12_common_1 (by decide) c3 <| ?_
    refine At.iloadn dX12_common_8 rfl <| At.iloadn dX12_common_9 rfl <| At.iloadn dX12_common_10 rfl <| ?_
    obtain ⟨g1, h⟩ := nz_e h
    refine At.irem dX12_common_11 g1 <| ?_
    obtain ⟨q2, hq2, h⟩ := bnd_e h
    refine At.cS1 (av := [vi p1, vi (Int.tmod p0 p1)]) (rest := []) ms_X12_common lk_X12_432 dX12_common_12 rfl rfl (Nat.le_of_ble_eq_true rfl) (Nat.le_refl _) ⟨rfl, rfl⟩ (hrc _ _ _ hq2 _) <| ?_
    obtain rfl := Option.some.inj h
    exact At.iret rfl (Nat.zero_le _) (Nat.zero_le _) ⟨rfl, rfl⟩ dX12_common_15
def fGX12_common : Nat → Nat → Int → Int → Option Int
  | 0 => fun _ _ _ => none
  | n + 1 => fun tg a0 a1 => fX12_common (fGX12_common n) a0 a1
set_option maxRecDepth 100000 in
set_option maxHeartbeats 4000000 in
theorem rGX12_common {G : GG} : ∀ n : Nat, RCX12_common G (fGX12_common n) (n + 1) := by
  intro n
  induction n with
  | zero => exact (fun _ _ _ h => by cases h)
  | succ n ih =>
    have e : n + 1 + 1 = (n + 1) + 1 := by omega
    rw [e]
    exact (fun p0 p1 rr h S => rX12_common ih (Nat.le_add_left _ _) (show fX12_common (fGX12_common n) p0 p1 = some rr from h))
def gX12_common (p0 : Int) (p1 : Int) : Option Int := fGX12_common 60 0 p0 p1
set_option maxRecDepth 100000 in
set_option maxHeartbeats 4000000 in
theorem rgX12_common {G : GG} {p0 : Int} {p1 : Int} {S : SS} {rr : Int} (h : gX12_common p0 p1 = some rr) : RD G mX12_common 61 [vi p0, vi p1] S (some (vi rr)) S := (rGX12_common 60) _ _ _ h S
def fX12_part (p0 : Int) (p2 : Int) (p3 : Int) : Option Int :=
  lt (w32 p0) fun x1 =>
  Option.bind (
    if p3 = 0 then (
      some x1
    ) else (
      some p2
    )
    : Option (Int)) fun q2 =>
  Option.bind (gX12_common x1 p2) fun q4 =>
  nz q4 <|
  some (w32 (Int.tdiv q2 q4))
set_option maxRecDepth 100000 in
set_option maxHeartbeats 4000000 in
theorem rX12_part {G : GG} {p0 : Int} {p2 : Int} {p3 : Int} {S : SS} {rr : Int} (h : fX12_part p0 p2 p3 = some rr) : RD G mX12_part 62 [vl p0, vi p2, vi p3] S (some (vi rr)) S := by
  unfold fX12_part at h
  refine Runs.of pl_X12 (Nat.le_of_ble_eq_true rfl) ?_
  show At G mX12_part 62 0 [(0, vl p0), (2, vi p2), (3, vi p3)] [] (mm S) 0 0 (EQ (some (vi rr)) S)
  refine At.lloadn dX12_part_0 rfl <| At.l2i dX12_part_1 <| ?_
  obtain ⟨x1, hx1, h⟩ := lt_e h
  obtain ⟨q2, hj14, h⟩ := bnd_e h
  have K14 : At G mX12_part 62 14 [(2, vi p2), (4, vi x1)] [vi q2] (mm S) 0 0 (EQ (some (vi rr)) S) := by
    refine At.iload dX12_part_14 rfl <| At.iloadn dX12_part_16 rfl <| ?_
    obtain ⟨q4, hq4, h⟩ := bnd_e h
    refine At.cS1 (av := [vi x1, vi p2]) (rest := [vi q2]) ms_X12_common lk_X12_432 dX12_part_17 rfl rfl (Nat.le_of_ble_eq_true rfl) (by decide) ⟨rfl, rfl⟩ (rgX12_common hq4) <| ?_
    obtain ⟨g5, h⟩ := nz_e h
    refine At.idiv dX12_part_20 g5 <| ?_
    obtain rfl := Option.some.inj h
    exact At.iret rfl (Nat.zero_le _) (Nat.zero_le _) ⟨rfl, rfl⟩ dX12_part_21
  clear h; have h := hj14; clear hj14
  rcases ite_e h with ⟨c3, h⟩ | ⟨c3, h⟩
  · refine At.nm hx1 <| At.istore (ls' := [(4, vi x1), (0, vl p0), (2, vi p2), (3, vi p3)]) dX12_part_2 (by decide) rfl <| At.iloadn dX12_part_4 rfl <| At.if_ne_f (tgt := 13) dX12_part_5 (by decide) c3 <| ?_
    refine At.iload dX12_part_8 rfl <| At.goto (tgt := 14) dX12_part_10 (by decide) <| ?_
    obtain rfl := Option.some.inj h
    exact At.sub [2, 0] rfl K14
  · refine At.nm hx1 <| At.istore (ls' := [(4, vi x1), (0, vl p0), (2, vi p2), (3, vi p3)]) dX12_part_2 (by decide) rfl <| At.iloadn dX12_part_4 rfl <| At.if_ne_t (tgt := 13) dX12_part_5 (by decide) c3 <| ?_
    refine At.iloadn dX12_part_13 rfl <| ?_
    obtain rfl := Option.some.inj h
    exact At.sub [2, 0] rfl K14
def fX12_likelyAt_L5 (l1 : Int) (S : SS) : Nat → Int → Int → Option (Int)
  | 0, _, _ => none
  | n + 1, l2, l4 =>
    if 20 ≤ l4 then (
      some l2
    ) else (
      rdA S 142 120 (w32 ((w32 (20 * l1)) + l4)) fun v1 =>
      lt (w64 (l2 + v1)) fun x3 =>
      lt (w32 (l4 + 1)) fun x4 =>
      fX12_likelyAt_L5 l1 S n x3 x4
    )
def fX12_likelyAt (p1 : Int) (S : SS) : Option Int :=
  Option.bind (fX12_likelyAt_L5 p1 S FU 0 0) fun q1 =>
  some q1
set_option maxRecDepth 100000 in
set_option maxHeartbeats 4000000 in
theorem lX12_likelyAt_L5 {G : GG} {Φ : Option VV → MM → Prop} {l1 : Int} {S : SS} : ∀ (n : Nat) (l2 : Int) (l4 : Int) (q : Int), fX12_likelyAt_L5 l1 S n l2 l4 = some q → At G mX12_likelyAt 1 33 [(2, vl q)] [] (mm S) 0 0 Φ → At G mX12_likelyAt 1 5 [(0, vr 130), (1, vi l1), (2, vl l2), (4, vi l4)] [] (mm S) 0 0 Φ := by
  intro n
  induction n with
  | zero =>
    intro _ _ _ h
    cases h
  | succ n ih =>
    intro l2 l4 q h K33
    unfold fX12_likelyAt_L5 at h
    rcases ite_e h with ⟨c5, h⟩ | ⟨c5, h⟩
    · refine At.iload dX12_likelyAt_5 rfl <| At.bipush dX12_likelyAt_7 (by decide) <| At.icmp_ge_t (tgt := 33) dX12_likelyAt_9 (by decide) c5 <| ?_
      obtain rfl := Option.some.inj h
      exact At.sub [2] rfl K33
    · refine At.iload dX12_likelyAt_5 rfl <| At.bipush dX12_likelyAt_7 (by decide) <| At.icmp_ge_f (tgt := 33) dX12_likelyAt_9 (by decide) c5 <| ?_
      refine At.lloadn dX12_likelyAt_12 rfl <| At.aloadn dX12_likelyAt_13 rfl <| At.getR fl_X12_51 sh_130 (le149 sh_130) rf_130_25 dX12_likelyAt_14 <| At.bipush dX12_likelyAt_17 (by decide) <| At.iloadn dX12_likelyAt_19 rfl <| At.imul dX12_likelyAt_20 <| At.iload dX12_likelyAt_21 rfl <| At.iadd dX12_likelyAt_23 <| ?_
      obtain ⟨v1, hv1, g2, h⟩ := rdA_e h
      refine At.lald sh_142 (le149 sh_142) g2.1 g2.2 dX12_likelyAt_24 <| At.nml hv1 <| At.ladd dX12_likelyAt_25 <| ?_
      obtain ⟨x3, hx3, h⟩ := lt_e h
      refine At.nml hx3 <| At.lstoren (ls' := [(2, vl x3), (0, vr 130), (1, vi l1), (4, vi l4)]) dX12_likelyAt_26 (by decide) rfl <| ?_
      obtain ⟨x4, hx4, h⟩ := lt_e h
      refine At.iinc (ls' := [(4, vi x4), (2, vl x3), (0, vr 130), (1, vi l1)]) dX12_likelyAt_27 rfl (by decide) (by rw [hx4]; rfl) <| At.goto (tgt := 5) dX12_likelyAt_30 (by decide) <| ?_
      exact At.sub [2, 3, 1, 0] rfl (ih _ _ _ h K33)
set_option maxRecDepth 100000 in
set_option maxHeartbeats 4000000 in
theorem rX12_likelyAt {G : GG} {p1 : Int} {S : SS} {rr : Int} (h : fX12_likelyAt p1 S = some rr) : RD G mX12_likelyAt 1 [vr 130, vi p1] S (some (vl rr)) S := by
  unfold fX12_likelyAt at h
  refine Runs.of pl_X12 (Nat.le_of_ble_eq_true rfl) ?_
  show At G mX12_likelyAt 1 0 [(0, vr 130), (1, vi p1)] [] (mm S) 0 0 (EQ (some (vl rr)) S)
  refine At.lconst0 dX12_likelyAt_0 <| At.lstoren (ls' := [(2, vl 0), (0, vr 130), (1, vi p1)]) dX12_likelyAt_1 (by decide) rfl <| At.iconst dX12_likelyAt_2 (by decide) <| At.istore (ls' := [(4, vi 0), (2, vl 0), (0, vr 130), (1, vi p1)]) dX12_likelyAt_3 (by decide) rfl <| ?_
  obtain ⟨q1, ho2, h⟩ := bnd_e h
  refine At.sub [2, 3, 1, 0] rfl (lX12_likelyAt_L5 FU _ _ q1 ho2 ?_)
  refine At.lloadn dX12_likelyAt_33 rfl <| ?_
  obtain rfl := Option.some.inj h
  exact At.lret rfl (Nat.zero_le _) (Nat.zero_le _) ⟨rfl, rfl⟩ dX12_likelyAt_34
def fX12_chance (p1 : Int) (p2 : Int) (p3 : Int) (p4 : Int) (S : SS) : Option (Int × SS) :=
  lt (up S 130 0 0) fun S1 =>
  Option.bind (fX12_isGoer p1 S1) fun q2 =>
  if q2 = true then (
    Option.bind (fX12_isCorner p2 S1) fun q3 =>
    if q3 = true then (
      Option.bind (fX12_within p4 0 1) fun q4 =>
      if q4 = true then (
        Option.bind (fX12_within p3 0 6) fun q5 =>
        if q5 = true then (
          Option.bind (fX12_laysLikely p1 p3 S1) fun q6 =>
          Option.bind (fX12_likelyAt p2 q6.2) fun q7 =>
          Option.bind (fX12_part q7 q6.1 p4) fun q8 =>
          some (q8, q6.2)
        ) else (
          some ((-3), S1)
        )
      ) else (
        some ((-2), S1)
      )
    ) else (
      some ((-2), S1)
    )
  ) else (
    some ((-2), S1)
  )
set_option maxRecDepth 100000 in
set_option maxHeartbeats 4000000 in
theorem rX12_chance {G : GG} {p1 : Int} {p2 : Int} {p3 : Int} {p4 : Int} {S : SS} {rr : (Int × SS)} (h : fX12_chance p1 p2 p3 p4 S = some rr) : RD G mX12_chance 63 [vr 130, vi p1, vi p2, vi p3, vi p4] S (some (vi rr.1)) rr.2 := by
  unfold fX12_chance at h
  refine Runs.of pl_X12 (Nat.le_of_ble_eq_true rfl) ?_
  show At G mX12_chance 63 0 [(0, vr 130), (1, vi p1), (2, vi p2), (3, vi p3), (4, vi p4)] [] (mm S) 0 0 (EQ (some (vi rr.1)) rr.2)
  refine At.aloadn dX12_chance_0 rfl <| At.iconst dX12_chance_1 (by decide) <| ?_
  obtain ⟨S1, hS1, h⟩ := lt_e h
  refine At.putI fw_X12_1 sh_130 (le149 sh_130) dX12_chance_2 <| At.nmS hS1 <| At.aloadn dX12_chance_5 rfl <| At.iloadn dX12_chance_6 rfl <| At.i2l dX12_chance_7 <| ?_
  obtain ⟨q2, hq2, h⟩ := bnd_e h
  rcases ite_e h with ⟨c12, h⟩ | ⟨c12, h⟩
  · refine At.cV1 (av := [vl p1]) (rest := []) mv_X12_isGoer lk_X12_233 dX12_chance_8 rfl rfl sh_130 (Nat.le_of_ble_eq_true rfl) (by decide) ⟨rfl, rfl⟩ (rX12_isGoer hq2) <| At.bifeq_f (tgt := 34) dX12_chance_11 (by decide) c12 <| ?_
    refine At.aloadn dX12_chance_14 rfl <| At.iloadn dX12_chance_15 rfl <| At.i2l dX12_chance_16 <| ?_
    obtain ⟨q3, hq3, h⟩ := bnd_e h
    rcases ite_e h with ⟨c11, h⟩ | ⟨c11, h⟩
    · refine At.cV1 (av := [vl p2]) (rest := []) mv_X12_isCorner lk_X12_268 dX12_chance_17 rfl rfl sh_130 (Nat.le_of_ble_eq_true rfl) (by decide) ⟨rfl, rfl⟩ (rX12_isCorner hq3) <| At.bifeq_f (tgt := 34) dX12_chance_20 (by decide) c11 <| ?_
      refine At.iload dX12_chance_23 rfl <| At.i2l dX12_chance_25 <| At.lconst0 dX12_chance_26 <| At.lconst1 dX12_chance_27 <| ?_
      obtain ⟨q4, hq4, h⟩ := bnd_e h
      rcases ite_e h with ⟨c10, h⟩ | ⟨c10, h⟩
      · refine At.cS1 (av := [vl p4, vl 0, vl 1]) (rest := []) ms_X12_within lk_X12_142 dX12_chance_28 rfl rfl (Nat.le_of_ble_eq_true rfl) (by decide) ⟨rfl, rfl⟩ (rX12_within hq4) <| At.bifne_t (tgt := 37) dX12_chance_31 (by decide) c10 <| ?_
        refine At.iloadn dX12_chance_37 rfl <| At.i2l dX12_chance_38 <| At.lconst0 dX12_chance_39 <| At.ldc2 dX12_chance_40 kl_X12_435 (by decide) <| ?_
        obtain ⟨q5, hq5, h⟩ := bnd_e h
        rcases ite_e h with ⟨c9, h⟩ | ⟨c9, h⟩
        · refine At.cS1 (av := [vl p3, vl 0, vl 6]) (rest := []) ms_X12_within lk_X12_142 dX12_chance_43 rfl rfl (Nat.le_of_ble_eq_true rfl) (by decide) ⟨rfl, rfl⟩ (rX12_within hq5) <| At.bifne_t (tgt := 52) dX12_chance_46 (by decide) c9 <| ?_
          refine At.aloadn dX12_chance_52 rfl <| At.iloadn dX12_chance_53 rfl <| At.iloadn dX12_chance_54 rfl <| ?_
          obtain ⟨q6, hq6, h⟩ := bnd_e h
          refine At.cV1 (av := [vi p1, vi p3]) (rest := []) mv_X12_laysLikely lk_X12_437 dX12_chance_55 rfl rfl sh_130 (Nat.le_of_ble_eq_true rfl) (by decide) ⟨rfl, rfl⟩ (rX12_laysLikely hq6) <| At.istore (ls' := [(5, vi q6.1), (0, vr 130), (1, vi p1), (2, vi p2), (3, vi p3), (4, vi p4)]) dX12_chance_58 (by decide) rfl <| At.aloadn dX12_chance_60 rfl <| At.iloadn dX12_chance_61 rfl <| ?_
          obtain ⟨q7, hq7, h⟩ := bnd_e h
          refine At.cV1 (av := [vi p2]) (rest := []) mv_X12_likelyAt lk_X12_440 dX12_chance_62 rfl rfl sh_130 (Nat.le_of_ble_eq_true rfl) (by decide) ⟨rfl, rfl⟩ (rX12_likelyAt hq7) <| At.iload dX12_chance_65 rfl <| At.iload dX12_chance_67 rfl <| ?_
          obtain ⟨q8, hq8, h⟩ := bnd_e h
          refine At.cS1 (av := [vl q7, vi q6.1, vi p4]) (rest := []) ms_X12_part lk_X12_444 dX12_chance_69 rfl rfl (Nat.le_of_ble_eq_true rfl) (by decide) ⟨rfl, rfl⟩ (rX12_part hq8) <| ?_
          obtain rfl := Option.some.inj h
          exact At.iret rfl (Nat.zero_le _) (Nat.zero_le _) ⟨rfl, rfl⟩ dX12_chance_72
        · refine At.cS1 (av := [vl p3, vl 0, vl 6]) (rest := []) ms_X12_within lk_X12_142 dX12_chance_43 rfl rfl (Nat.le_of_ble_eq_true rfl) (by decide) ⟨rfl, rfl⟩ (rX12_within hq5) <| At.bifne_f (tgt := 52) dX12_chance_46 (by decide) c9 <| ?_
          refine At.bipush dX12_chance_49 (by decide) <| ?_
          obtain rfl := Option.some.inj h
          exact At.iret rfl (Nat.zero_le _) (Nat.zero_le _) ⟨rfl, rfl⟩ dX12_chance_51
      · refine At.cS1 (av := [vl p4, vl 0, vl 1]) (rest := []) ms_X12_within lk_X12_142 dX12_chance_28 rfl rfl (Nat.le_of_ble_eq_true rfl) (by decide) ⟨rfl, rfl⟩ (rX12_within hq4) <| At.bifne_f (tgt := 37) dX12_chance_31 (by decide) c10 <| ?_
        refine At.bipush dX12_chance_34 (by decide) <| ?_
        obtain rfl := Option.some.inj h
        exact At.iret rfl (Nat.zero_le _) (Nat.zero_le _) ⟨rfl, rfl⟩ dX12_chance_36
    · refine At.cV1 (av := [vl p2]) (rest := []) mv_X12_isCorner lk_X12_268 dX12_chance_17 rfl rfl sh_130 (Nat.le_of_ble_eq_true rfl) (by decide) ⟨rfl, rfl⟩ (rX12_isCorner hq3) <| At.bifeq_t (tgt := 34) dX12_chance_20 (by decide) c11 <| ?_
      refine At.bipush dX12_chance_34 (by decide) <| ?_
      obtain rfl := Option.some.inj h
      exact At.iret rfl (Nat.zero_le _) (Nat.zero_le _) ⟨rfl, rfl⟩ dX12_chance_36
  · refine At.cV1 (av := [vl p1]) (rest := []) mv_X12_isGoer lk_X12_233 dX12_chance_8 rfl rfl sh_130 (Nat.le_of_ble_eq_true rfl) (by decide) ⟨rfl, rfl⟩ (rX12_isGoer hq2) <| At.bifeq_t (tgt := 34) dX12_chance_11 (by decide) c12 <| ?_
    refine At.bipush dX12_chance_34 (by decide) <| ?_
    obtain rfl := Option.some.inj h
    exact At.iret rfl (Nat.zero_le _) (Nat.zero_le _) ⟨rfl, rfl⟩ dX12_chance_36
def fX12_mean_L56 (l3 : Int) (l4 : Int) (S : SS) : Nat → Int → Int → Option (Int)
  | 0, _, _ => none
  | n + 1, l5, l7 =>
    if 120 ≤ l7 then (
      some l5
    ) else (
      rdA S 142 120 l7 fun v1 =>
      lt (w64 (l5 + (w64 (v1 * (Int.tmod l7 20))))) fun x3 =>
      lt (w32 (l7 + 1)) fun x4 =>
      fX12_mean_L56 l3 l4 S n x3 x4
    )
def fX12_mean (p1 : Int) (p2 : Int) (p3 : Int) (S : SS) : Option (Int × SS) :=
  lt (up S 130 0 0) fun S1 =>
  Option.bind (fX12_isGoer p1 S1) fun q2 =>
  if q2 = true then (
    Option.bind (fX12_within p3 0 1) fun q3 =>
    if q3 = true then (
      Option.bind (fX12_within p2 0 6) fun q4 =>
      if q4 = true then (
        Option.bind (fX12_laysLikely p1 p2 S1) fun q5 =>
        Option.bind (fX12_mean_L56 p3 q5.1 q5.2 FU 0 0) fun q6 =>
        Option.bind (fX12_part q6 q5.1 p3) fun q8 =>
        some (q8, q5.2)
      ) else (
        some ((-3), S1)
      )
    ) else (
      some ((-2), S1)
    )
  ) else (
    some ((-2), S1)
  )
set_option maxRecDepth 100000 in
set_option maxHeartbeats 4000000 in
theorem lX12_mean_L56 {G : GG} {Φ : Option VV → MM → Prop} {l3 : Int} {l4 : Int} {S : SS} : ∀ (n : Nat) (l5 : Int) (l7 : Int) (q : Int), fX12_mean_L56 l3 l4 S n l5 l7 = some q → At G mX12_mean 63 88 [(3, vi l3), (4, vi l4), (5, vl q)] [] (mm S) 0 0 Φ → At G mX12_mean 63 56 [(0, vr 130), (3, vi l3), (4, vi l4), (5, vl l5), (7, vi l7)] [] (mm S) 0 0 Φ := by
  intro n
  induction n with
  | zero =>
    intro _ _ _ h
    cases h
  | succ n ih =>
    intro l5 l7 q h K88
    unfold fX12_mean_L56 at h
    rcases ite_e h with ⟨c5, h⟩ | ⟨c5, h⟩
    · refine At.iload dX12_mean_56 rfl <| At.bipush dX12_mean_58 (by decide) <| At.icmp_ge_t (tgt := 88) dX12_mean_60 (by decide) c5 <| ?_
      obtain rfl := Option.some.inj h
      exact At.sub [1, 2, 3] rfl K88
    · refine At.iload dX12_mean_56 rfl <| At.bipush dX12_mean_58 (by decide) <| At.icmp_ge_f (tgt := 88) dX12_mean_60 (by decide) c5 <| ?_
      refine At.lload dX12_mean_63 rfl <| At.aloadn dX12_mean_65 rfl <| At.getR fl_X12_51 sh_130 (le149 sh_130) rf_130_25 dX12_mean_66 <| At.iload dX12_mean_69 rfl <| ?_
      obtain ⟨v1, hv1, g2, h⟩ := rdA_e h
      refine At.lald sh_142 (le149 sh_142) g2.1 g2.2 dX12_mean_71 <| At.nml hv1 <| At.iload dX12_mean_72 rfl <| At.bipush dX12_mean_74 (by decide) <| At.irem dX12_mean_76 (by decide) <| At.i2l dX12_mean_77 <| At.lmul dX12_mean_78 <| At.ladd dX12_mean_79 <| ?_
      obtain ⟨x3, hx3, h⟩ := lt_e h
      refine At.nml hx3 <| At.lstore (ls' := [(5, vl x3), (0, vr 130), (3, vi l3), (4, vi l4), (7, vi l7)]) dX12_mean_80 (by decide) rfl <| ?_
      obtain ⟨x4, hx4, h⟩ := lt_e h
      refine At.iinc (ls' := [(7, vi x4), (5, vl x3), (0, vr 130), (3, vi l3), (4, vi l4)]) dX12_mean_82 rfl (by decide) (by rw [hx4]; rfl) <| At.goto (tgt := 56) dX12_mean_85 (by decide) <| ?_
      exact At.sub [2, 3, 4, 1, 0] rfl (ih _ _ _ h K88)
set_option maxRecDepth 100000 in
set_option maxHeartbeats 4000000 in
theorem rX12_mean {G : GG} {p1 : Int} {p2 : Int} {p3 : Int} {S : SS} {rr : (Int × SS)} (h : fX12_mean p1 p2 p3 S = some rr) : RD G mX12_mean 63 [vr 130, vi p1, vi p2, vi p3] S (some (vi rr.1)) rr.2 := by
  unfold fX12_mean at h
  refine Runs.of pl_X12 (Nat.le_of_ble_eq_true rfl) ?_
  show At G mX12_mean 63 0 [(0, vr 130), (1, vi p1), (2, vi p2), (3, vi p3)] [] (mm S) 0 0 (EQ (some (vi rr.1)) rr.2)
  refine At.aloadn dX12_mean_0 rfl <| At.iconst dX12_mean_1 (by decide) <| ?_
  obtain ⟨S1, hS1, h⟩ := lt_e h
  refine At.putI fw_X12_1 sh_130 (le149 sh_130) dX12_mean_2 <| At.nmS hS1 <| At.aloadn dX12_mean_5 rfl <| At.iloadn dX12_mean_6 rfl <| At.i2l dX12_mean_7 <| ?_
  obtain ⟨q2, hq2, h⟩ := bnd_e h
  rcases ite_e h with ⟨c11, h⟩ | ⟨c11, h⟩
  · refine At.cV1 (av := [vl p1]) (rest := []) mv_X12_isGoer lk_X12_233 dX12_mean_8 rfl rfl sh_130 (Nat.le_of_ble_eq_true rfl) (by decide) ⟨rfl, rfl⟩ (rX12_isGoer hq2) <| At.bifeq_f (tgt := 24) dX12_mean_11 (by decide) c11 <| ?_
    refine At.iloadn dX12_mean_14 rfl <| At.i2l dX12_mean_15 <| At.lconst0 dX12_mean_16 <| At.lconst1 dX12_mean_17 <| ?_
    obtain ⟨q3, hq3, h⟩ := bnd_e h
    rcases ite_e h with ⟨c10, h⟩ | ⟨c10, h⟩
    · refine At.cS1 (av := [vl p3, vl 0, vl 1]) (rest := []) ms_X12_within lk_X12_142 dX12_mean_18 rfl rfl (Nat.le_of_ble_eq_true rfl) (by decide) ⟨rfl, rfl⟩ (rX12_within hq3) <| At.bifne_t (tgt := 27) dX12_mean_21 (by decide) c10 <| ?_
      refine At.iloadn dX12_mean_27 rfl <| At.i2l dX12_mean_28 <| At.lconst0 dX12_mean_29 <| At.ldc2 dX12_mean_30 kl_X12_435 (by decide) <| ?_
      obtain ⟨q4, hq4, h⟩ := bnd_e h
      rcases ite_e h with ⟨c9, h⟩ | ⟨c9, h⟩
      · refine At.cS1 (av := [vl p2, vl 0, vl 6]) (rest := []) ms_X12_within lk_X12_142 dX12_mean_33 rfl rfl (Nat.le_of_ble_eq_true rfl) (by decide) ⟨rfl, rfl⟩ (rX12_within hq4) <| At.bifne_t (tgt := 42) dX12_mean_36 (by decide) c9 <| ?_
        refine At.aloadn dX12_mean_42 rfl <| At.iloadn dX12_mean_43 rfl <| At.iloadn dX12_mean_44 rfl <| ?_
        obtain ⟨q5, hq5, h⟩ := bnd_e h
        refine At.cV1 (av := [vi p1, vi p2]) (rest := []) mv_X12_laysLikely lk_X12_437 dX12_mean_45 rfl rfl sh_130 (Nat.le_of_ble_eq_true rfl) (by decide) ⟨rfl, rfl⟩ (rX12_laysLikely hq5) <| At.istore (ls' := [(4, vi q5.1), (0, vr 130), (1, vi p1), (2, vi p2), (3, vi p3)]) dX12_mean_48 (by decide) rfl <| At.lconst0 dX12_mean_50 <| At.lstore (ls' := [(5, vl 0), (4, vi q5.1), (0, vr 130), (1, vi p1), (2, vi p2), (3, vi p3)]) dX12_mean_51 (by decide) rfl <| At.iconst dX12_mean_53 (by decide) <| At.istore (ls' := [(7, vi 0), (5, vl 0), (4, vi q5.1), (0, vr 130), (1, vi p1), (2, vi p2), (3, vi p3)]) dX12_mean_54 (by decide) rfl <| ?_
        obtain ⟨q6, ho7, h⟩ := bnd_e h
        refine At.sub [3, 6, 2, 1, 0] rfl (lX12_mean_L56 FU _ _ q6 ho7 ?_)
        refine At.lload dX12_mean_88 rfl <| At.iload dX12_mean_90 rfl <| At.iloadn dX12_mean_92 rfl <| ?_
        obtain ⟨q8, hq8, h⟩ := bnd_e h
        refine At.cS1 (av := [vl q6, vi q5.1, vi p3]) (rest := []) ms_X12_part lk_X12_444 dX12_mean_93 rfl rfl (Nat.le_of_ble_eq_true rfl) (by decide) ⟨rfl, rfl⟩ (rX12_part hq8) <| ?_
        obtain rfl := Option.some.inj h
        exact At.iret rfl (Nat.zero_le _) (Nat.zero_le _) ⟨rfl, rfl⟩ dX12_mean_96
      · refine At.cS1 (av := [vl p2, vl 0, vl 6]) (rest := []) ms_X12_within lk_X12_142 dX12_mean_33 rfl rfl (Nat.le_of_ble_eq_true rfl) (by decide) ⟨rfl, rfl⟩ (rX12_within hq4) <| At.bifne_f (tgt := 42) dX12_mean_36 (by decide) c9 <| ?_
        refine At.bipush dX12_mean_39 (by decide) <| ?_
        obtain rfl := Option.some.inj h
        exact At.iret rfl (Nat.zero_le _) (Nat.zero_le _) ⟨rfl, rfl⟩ dX12_mean_41
    · refine At.cS1 (av := [vl p3, vl 0, vl 1]) (rest := []) ms_X12_within lk_X12_142 dX12_mean_18 rfl rfl (Nat.le_of_ble_eq_true rfl) (by decide) ⟨rfl, rfl⟩ (rX12_within hq3) <| At.bifne_f (tgt := 27) dX12_mean_21 (by decide) c10 <| ?_
      refine At.bipush dX12_mean_24 (by decide) <| ?_
      obtain rfl := Option.some.inj h
      exact At.iret rfl (Nat.zero_le _) (Nat.zero_le _) ⟨rfl, rfl⟩ dX12_mean_26
  · refine At.cV1 (av := [vl p1]) (rest := []) mv_X12_isGoer lk_X12_233 dX12_mean_8 rfl rfl sh_130 (Nat.le_of_ble_eq_true rfl) (by decide) ⟨rfl, rfl⟩ (rX12_isGoer hq2) <| At.bifeq_t (tgt := 24) dX12_mean_11 (by decide) c11 <| ?_
    refine At.bipush dX12_mean_24 (by decide) <| ?_
    obtain rfl := Option.some.inj h
    exact At.iret rfl (Nat.zero_le _) (Nat.zero_le _) ⟨rfl, rfl⟩ dX12_mean_26
def fX12_likeliest_L44 (S : SS) : Nat → Int → Int → Option (Int)
  | 0, _, _ => none
  | n + 1, l3, l4 =>
    rdA S 131 3303 1 fun v1 =>
    if v1 ≤ l4 then (
      some l3
    ) else (
      Option.bind (fX12_likelyAt l4 S) fun q3 =>
      Option.bind (fX12_likelyAt l3 S) fun q4 =>
      Option.bind (
        if (lc q3 q4) ≤ 0 then (
          some l3
        ) else (
          some l4
        )
        : Option (Int)) fun q5 =>
      lt (w32 (l4 + 1)) fun x7 =>
      fX12_likeliest_L44 S n q5 x7
    )
def fX12_likeliest (p1 : Int) (p2 : Int) (S : SS) : Option (Int × SS) :=
  lt (up S 130 0 0) fun S1 =>
  Option.bind (fX12_isGoer p1 S1) fun q2 =>
  if q2 = true then (
    Option.bind (fX12_within p2 0 6) fun q3 =>
    if q3 = true then (
      Option.bind (fX12_laysLikely p1 p2 S1) fun q4 =>
      Option.bind (fX12_likeliest_L44 q4.2 FU 0 1) fun q5 =>
      some (q5, q4.2)
    ) else (
      some ((-3), S1)
    )
  ) else (
    some ((-2), S1)
  )
set_option maxRecDepth 100000 in
set_option maxHeartbeats 4000000 in
theorem lX12_likeliest_L44 {G : GG} {Φ : Option VV → MM → Prop} {S : SS} : ∀ (n : Nat) (l3 : Int) (l4 : Int) (q : Int), fX12_likeliest_L44 S n l3 l4 = some q → At G mX12_likeliest 8 79 [(3, vi q)] [] (mm S) 0 0 Φ → At G mX12_likeliest 8 44 [(0, vr 130), (3, vi l3), (4, vi l4)] [] (mm S) 0 0 Φ := by
  intro n
  induction n with
  | zero =>
    intro _ _ _ h
    cases h
  | succ n ih =>
    intro l3 l4 q h K79
    unfold fX12_likeliest_L44 at h
    refine At.iload dX12_likeliest_44 rfl <| At.aloadn dX12_likeliest_46 rfl <| At.getR fl_X12_13 sh_130 (le149 sh_130) rf_130_1 dX12_likeliest_47 <| At.iconst dX12_likeliest_50 (by decide) <| ?_
    obtain ⟨v1, hv1, g2, h⟩ := rdA_e h
    rcases ite_e h with ⟨c8, h⟩ | ⟨c8, h⟩
    · refine At.iald sh_131 (le149 sh_131) g2.1 g2.2 dX12_likeliest_51 <| At.nm hv1 <| At.icmp_ge_t (tgt := 79) dX12_likeliest_52 (by decide) c8 <| ?_
      obtain rfl := Option.some.inj h
      exact At.sub [1] rfl K79
    · refine At.iald sh_131 (le149 sh_131) g2.1 g2.2 dX12_likeliest_51 <| At.nm hv1 <| At.icmp_ge_f (tgt := 79) dX12_likeliest_52 (by decide) c8 <| ?_
      refine At.aloadn dX12_likeliest_55 rfl <| At.iload dX12_likeliest_56 rfl <| ?_
      obtain ⟨q3, hq3, h⟩ := bnd_e h
      refine At.cV1 (av := [vi l4]) (rest := []) mv_X12_likelyAt lk_X12_440 dX12_likeliest_58 rfl rfl sh_130 (Nat.le_of_ble_eq_true rfl) (by decide) ⟨rfl, rfl⟩ (rX12_likelyAt hq3) <| At.aloadn dX12_likeliest_61 rfl <| At.iloadn dX12_likeliest_62 rfl <| ?_
      obtain ⟨q4, hq4, h⟩ := bnd_e h
      obtain ⟨q5, hj73, h⟩ := bnd_e h
      have K73 : At G mX12_likeliest 8 73 [(0, vr 130), (3, vi q5), (4, vi l4)] [] (mm S) 0 0 Φ := by
        obtain ⟨x7, hx7, h⟩ := lt_e h
        refine At.iinc (ls' := [(4, vi x7), (0, vr 130), (3, vi q5)]) dX12_likeliest_73 rfl (by decide) (by rw [hx7]; rfl) <| At.goto (tgt := 44) dX12_likeliest_76 (by decide) <| ?_
        exact At.sub [1, 2, 0] rfl (ih _ _ _ h K79)
      clear h; have h := hj73; clear hj73
      rcases ite_e h with ⟨c6, h⟩ | ⟨c6, h⟩
      · refine At.cV1 (av := [vi l3]) (rest := [vl q3]) mv_X12_likelyAt lk_X12_440 dX12_likeliest_63 rfl rfl sh_130 (Nat.le_of_ble_eq_true rfl) (by decide) ⟨rfl, rfl⟩ (rX12_likelyAt hq4) <| At.lcmp dX12_likeliest_66 <| At.if_le_t (tgt := 73) dX12_likeliest_67 (by decide) c6 <| ?_
        obtain rfl := Option.some.inj h
        exact At.sub [0, 1, 2] rfl K73
      · refine At.cV1 (av := [vi l3]) (rest := [vl q3]) mv_X12_likelyAt lk_X12_440 dX12_likeliest_63 rfl rfl sh_130 (Nat.le_of_ble_eq_true rfl) (by decide) ⟨rfl, rfl⟩ (rX12_likelyAt hq4) <| At.lcmp dX12_likeliest_66 <| At.if_le_f (tgt := 73) dX12_likeliest_67 (by decide) c6 <| ?_
        refine At.iload dX12_likeliest_70 rfl <| At.istoren (ls' := [(3, vi l4), (0, vr 130), (4, vi l4)]) dX12_likeliest_72 (by decide) rfl <| ?_
        obtain rfl := Option.some.inj h
        exact At.sub [1, 0, 2] rfl K73
set_option maxRecDepth 100000 in
set_option maxHeartbeats 4000000 in
theorem rX12_likeliest {G : GG} {p1 : Int} {p2 : Int} {S : SS} {rr : (Int × SS)} (h : fX12_likeliest p1 p2 S = some rr) : RD G mX12_likeliest 8 [vr 130, vi p1, vi p2] S (some (vi rr.1)) rr.2 := by
  unfold fX12_likeliest at h
  refine Runs.of pl_X12 (Nat.le_of_ble_eq_true rfl) ?_
  show At G mX12_likeliest 8 0 [(0, vr 130), (1, vi p1), (2, vi p2)] [] (mm S) 0 0 (EQ (some (vi rr.1)) rr.2)
  refine At.aloadn dX12_likeliest_0 rfl <| At.iconst dX12_likeliest_1 (by decide) <| ?_
  obtain ⟨S1, hS1, h⟩ := lt_e h
  refine At.putI fw_X12_1 sh_130 (le149 sh_130) dX12_likeliest_2 <| At.nmS hS1 <| At.aloadn dX12_likeliest_5 rfl <| At.iloadn dX12_likeliest_6 rfl <| At.i2l dX12_likeliest_7 <| ?_
  obtain ⟨q2, hq2, h⟩ := bnd_e h
  rcases ite_e h with ⟨c8, h⟩ | ⟨c8, h⟩
  · refine At.cV1 (av := [vl p1]) (rest := []) mv_X12_isGoer lk_X12_233 dX12_likeliest_8 rfl rfl sh_130 (Nat.le_of_ble_eq_true rfl) (by decide) ⟨rfl, rfl⟩ (rX12_isGoer hq2) <| At.bifne_t (tgt := 17) dX12_likeliest_11 (by decide) c8 <| ?_
    refine At.iloadn dX12_likeliest_17 rfl <| At.i2l dX12_likeliest_18 <| At.lconst0 dX12_likeliest_19 <| At.ldc2 dX12_likeliest_20 kl_X12_435 (by decide) <| ?_
    obtain ⟨q3, hq3, h⟩ := bnd_e h
    rcases ite_e h with ⟨c7, h⟩ | ⟨c7, h⟩
    · refine At.cS1 (av := [vl p2, vl 0, vl 6]) (rest := []) ms_X12_within lk_X12_142 dX12_likeliest_23 rfl rfl (Nat.le_of_ble_eq_true rfl) (by decide) ⟨rfl, rfl⟩ (rX12_within hq3) <| At.bifne_t (tgt := 32) dX12_likeliest_26 (by decide) c7 <| ?_
      refine At.aloadn dX12_likeliest_32 rfl <| At.iloadn dX12_likeliest_33 rfl <| At.iloadn dX12_likeliest_34 rfl <| ?_
      obtain ⟨q4, hq4, h⟩ := bnd_e h
      refine At.cV1 (av := [vi p1, vi p2]) (rest := []) mv_X12_laysLikely lk_X12_437 dX12_likeliest_35 rfl rfl sh_130 (Nat.le_of_ble_eq_true rfl) (by decide) ⟨rfl, rfl⟩ (rX12_laysLikely hq4) <| At.pop rfl dX12_likeliest_38 <| At.iconst dX12_likeliest_39 (by decide) <| At.istoren (ls' := [(3, vi 0), (0, vr 130), (1, vi p1), (2, vi p2)]) dX12_likeliest_40 (by decide) rfl <| At.iconst dX12_likeliest_41 (by decide) <| At.istore (ls' := [(4, vi 1), (3, vi 0), (0, vr 130), (1, vi p1), (2, vi p2)]) dX12_likeliest_42 (by decide) rfl <| ?_
      obtain ⟨q5, ho6, h⟩ := bnd_e h
      refine At.sub [2, 1, 0] rfl (lX12_likeliest_L44 FU _ _ q5 ho6 ?_)
      refine At.iloadn dX12_likeliest_79 rfl <| ?_
      obtain rfl := Option.some.inj h
      exact At.iret rfl (Nat.zero_le _) (Nat.zero_le _) ⟨rfl, rfl⟩ dX12_likeliest_80
    · refine At.cS1 (av := [vl p2, vl 0, vl 6]) (rest := []) ms_X12_within lk_X12_142 dX12_likeliest_23 rfl rfl (Nat.le_of_ble_eq_true rfl) (by decide) ⟨rfl, rfl⟩ (rX12_within hq3) <| At.bifne_f (tgt := 32) dX12_likeliest_26 (by decide) c7 <| ?_
      refine At.bipush dX12_likeliest_29 (by decide) <| ?_
      obtain rfl := Option.some.inj h
      exact At.iret rfl (Nat.zero_le _) (Nat.zero_le _) ⟨rfl, rfl⟩ dX12_likeliest_31
  · refine At.cV1 (av := [vl p1]) (rest := []) mv_X12_isGoer lk_X12_233 dX12_likeliest_8 rfl rfl sh_130 (Nat.le_of_ble_eq_true rfl) (by decide) ⟨rfl, rfl⟩ (rX12_isGoer hq2) <| At.bifne_f (tgt := 17) dX12_likeliest_11 (by decide) c8 <| ?_
    refine At.bipush dX12_likeliest_14 (by decide) <| ?_
    obtain rfl := Option.some.inj h
    exact At.iret rfl (Nat.zero_le _) (Nat.zero_le _) ⟨rfl, rfl⟩ dX12_likeliest_16
def fX12_cut (p0 : Int) (p2 : Int) : Option Int :=
  if p2 = 0 then (
    some (jb (w32 p0))
  ) else (
    if p2 = 1 then (
      some (js (w32 p0))
    ) else (
      if p2 = 2 then (
        some (w32 p0)
      ) else (
        some p0
      )
    )
  )
set_option maxRecDepth 100000 in
set_option maxHeartbeats 4000000 in
theorem rX12_cut {G : GG} {p0 : Int} {p2 : Int} {S : SS} {rr : Int} (h : fX12_cut p0 p2 = some rr) : RD G mX12_cut 1 [vl p0, vi p2] S (some (vl rr)) S := by
  unfold fX12_cut at h
  refine Runs.of pl_X12 (Nat.le_of_ble_eq_true rfl) ?_
  show At G mX12_cut 1 0 [(0, vl p0), (2, vi p2)] [] (mm S) 0 0 (EQ (some (vl rr)) S)
  rcases ite_e h with ⟨c3, h⟩ | ⟨c3, h⟩
  · refine At.iloadn dX12_cut_0 rfl <| At.if_ne_f (tgt := 11) dX12_cut_1 (by decide) c3 <| ?_
    refine At.lloadn dX12_cut_4 rfl <| At.l2i dX12_cut_5 <| At.i2b dX12_cut_6 <| At.i2l dX12_cut_7 <| At.goto (tgt := 35) dX12_cut_8 (by decide) <| ?_
    obtain rfl := Option.some.inj h
    exact At.lret rfl (Nat.zero_le _) (Nat.zero_le _) ⟨rfl, rfl⟩ dX12_cut_35
  · refine At.iloadn dX12_cut_0 rfl <| At.if_ne_t (tgt := 11) dX12_cut_1 (by decide) c3 <| ?_
    rcases ite_e h with ⟨c2, h⟩ | ⟨c2, h⟩
    · refine At.iloadn dX12_cut_11 rfl <| At.iconst dX12_cut_12 (by decide) <| At.icmp_ne_f (tgt := 23) dX12_cut_13 (by decide) c2 <| ?_
      refine At.lloadn dX12_cut_16 rfl <| At.l2i dX12_cut_17 <| At.i2s dX12_cut_18 <| At.i2l dX12_cut_19 <| At.goto (tgt := 35) dX12_cut_20 (by decide) <| ?_
      obtain rfl := Option.some.inj h
      exact At.lret rfl (Nat.zero_le _) (Nat.zero_le _) ⟨rfl, rfl⟩ dX12_cut_35
    · refine At.iloadn dX12_cut_11 rfl <| At.iconst dX12_cut_12 (by decide) <| At.icmp_ne_t (tgt := 23) dX12_cut_13 (by decide) c2 <| ?_
      rcases ite_e h with ⟨c1, h⟩ | ⟨c1, h⟩
      · refine At.iloadn dX12_cut_23 rfl <| At.iconst dX12_cut_24 (by decide) <| At.icmp_ne_f (tgt := 34) dX12_cut_25 (by decide) c1 <| ?_
        refine At.lloadn dX12_cut_28 rfl <| At.l2i dX12_cut_29 <| At.i2l dX12_cut_30 <| At.goto (tgt := 35) dX12_cut_31 (by decide) <| ?_
        obtain rfl := Option.some.inj h
        exact At.lret rfl (Nat.zero_le _) (Nat.zero_le _) ⟨rfl, rfl⟩ dX12_cut_35
      · refine At.iloadn dX12_cut_23 rfl <| At.iconst dX12_cut_24 (by decide) <| At.icmp_ne_t (tgt := 34) dX12_cut_25 (by decide) c1 <| ?_
        refine At.lloadn dX12_cut_34 rfl <| ?_
        obtain rfl := Option.some.inj h
        exact At.lret rfl (Nat.zero_le _) (Nat.zero_le _) ⟨rfl, rfl⟩ dX12_cut_35
def fX12_numbers_L64 (l1 : Int) (l3 : Int) : Nat → Int → SS → Option (SS)
  | 0, _, _ => none
  | n + 1, l4, S =>
    if l3 ≤ l4 then (
      some S
    ) else (
      wrA S 149 160 (w32 ((w32 (40 * l1)) + l4)) 0 fun S1 =>
      lt (w32 (l4 + 1)) fun x3 =>
      fX12_numbers_L64 l1 l3 n x3 S1
    )
def fX12_numbers (p1 : Int) (p2 : Int) (p3 : Int) (S : SS) : Option (Int × SS) :=
  lt (up S 130 0 0) fun S1 =>
  Option.bind (fX12_within p1 0 3) fun q2 =>
  if q2 = true then (
    Option.bind (fX12_within p2 0 3) fun q3 =>
    if q3 = true then (
      Option.bind (fX12_within p3 0 40) fun q4 =>
      if q4 = true then (
        wrA S1 147 4 p1 p2 fun S5 =>
        wrA S5 148 4 p1 p3 fun S7 =>
        Option.bind (fX12_numbers_L64 p1 p3 FU 0 S7) fun q9 =>
        some (0, q9)
      ) else (
        some ((-3), S1)
      )
    ) else (
      some ((-2), S1)
    )
  ) else (
    some ((-2), S1)
  )
set_option maxRecDepth 100000 in
set_option maxHeartbeats 4000000 in
theorem lX12_numbers_L64 {G : GG} {Φ : Option VV → MM → Prop} {l1 : Int} {l3 : Int} : ∀ (n : Nat) (l4 : Int) (S : SS) (q : SS), fX12_numbers_L64 l1 l3 n l4 S = some q → At G mX12_numbers 2 89 [] [] (mm q) 0 0 Φ → At G mX12_numbers 2 64 [(0, vr 130), (1, vi l1), (3, vi l3), (4, vi l4)] [] (mm S) 0 0 Φ := by
  intro n
  induction n with
  | zero =>
    intro _ _ _ h
    cases h
  | succ n ih =>
    intro l4 S q h K89
    unfold fX12_numbers_L64 at h
    rcases ite_e h with ⟨c4, h⟩ | ⟨c4, h⟩
    · refine At.iload dX12_numbers_64 rfl <| At.iloadn dX12_numbers_66 rfl <| At.icmp_ge_t (tgt := 89) dX12_numbers_67 (by decide) c4 <| ?_
      obtain rfl := Option.some.inj h
      exact At.sub [] rfl K89
    · refine At.iload dX12_numbers_64 rfl <| At.iloadn dX12_numbers_66 rfl <| At.icmp_ge_f (tgt := 89) dX12_numbers_67 (by decide) c4 <| ?_
      refine At.aloadn dX12_numbers_70 rfl <| At.getR fl_X12_73 sh_130 (le149 sh_130) rf_130_32 dX12_numbers_71 <| At.bipush dX12_numbers_74 (by decide) <| At.iloadn dX12_numbers_76 rfl <| At.imul dX12_numbers_77 <| At.iload dX12_numbers_78 rfl <| At.iadd dX12_numbers_80 <| At.lconst0 dX12_numbers_81 <| ?_
      obtain ⟨S1, hS1, g2, h⟩ := wrA_e h
      refine At.last sh_149 (le149 sh_149) g2.1 g2.2 dX12_numbers_82 <| At.nmS hS1 <| ?_
      obtain ⟨x3, hx3, h⟩ := lt_e h
      refine At.iinc (ls' := [(4, vi x3), (0, vr 130), (1, vi l1), (3, vi l3)]) dX12_numbers_83 rfl (by decide) (by rw [hx3]; rfl) <| At.goto (tgt := 64) dX12_numbers_86 (by decide) <| ?_
      exact At.sub [1, 2, 3, 0] rfl (ih _ _ _ h K89)
set_option maxRecDepth 100000 in
set_option maxHeartbeats 4000000 in
theorem rX12_numbers {G : GG} {p1 : Int} {p2 : Int} {p3 : Int} {S : SS} {rr : (Int × SS)} (h : fX12_numbers p1 p2 p3 S = some rr) : RD G mX12_numbers 2 [vr 130, vi p1, vi p2, vi p3] S (some (vi rr.1)) rr.2 := by
  unfold fX12_numbers at h
  refine Runs.of pl_X12 (Nat.le_of_ble_eq_true rfl) ?_
  show At G mX12_numbers 2 0 [(0, vr 130), (1, vi p1), (2, vi p2), (3, vi p3)] [] (mm S) 0 0 (EQ (some (vi rr.1)) rr.2)
  refine At.aloadn dX12_numbers_0 rfl <| At.iconst dX12_numbers_1 (by decide) <| ?_
  obtain ⟨S1, hS1, h⟩ := lt_e h
  refine At.putI fw_X12_1 sh_130 (le149 sh_130) dX12_numbers_2 <| At.nmS hS1 <| At.iloadn dX12_numbers_5 rfl <| At.i2l dX12_numbers_6 <| At.lconst0 dX12_numbers_7 <| At.ldc2 dX12_numbers_8 kl_X12_264 (by decide) <| ?_
  obtain ⟨q2, hq2, h⟩ := bnd_e h
  rcases ite_e h with ⟨c13, h⟩ | ⟨c13, h⟩
  · refine At.cS1 (av := [vl p1, vl 0, vl 3]) (rest := []) ms_X12_within lk_X12_142 dX12_numbers_11 rfl rfl (Nat.le_of_ble_eq_true rfl) (by decide) ⟨rfl, rfl⟩ (rX12_within hq2) <| At.bifeq_f (tgt := 29) dX12_numbers_14 (by decide) c13 <| ?_
    refine At.iloadn dX12_numbers_17 rfl <| At.i2l dX12_numbers_18 <| At.lconst0 dX12_numbers_19 <| At.ldc2 dX12_numbers_20 kl_X12_264 (by decide) <| ?_
    obtain ⟨q3, hq3, h⟩ := bnd_e h
    rcases ite_e h with ⟨c12, h⟩ | ⟨c12, h⟩
    · refine At.cS1 (av := [vl p2, vl 0, vl 3]) (rest := []) ms_X12_within lk_X12_142 dX12_numbers_23 rfl rfl (Nat.le_of_ble_eq_true rfl) (by decide) ⟨rfl, rfl⟩ (rX12_within hq3) <| At.bifne_t (tgt := 32) dX12_numbers_26 (by decide) c12 <| ?_
      refine At.iloadn dX12_numbers_32 rfl <| At.i2l dX12_numbers_33 <| At.lconst0 dX12_numbers_34 <| At.ldc2 dX12_numbers_35 kl_X12_319 (by decide) <| ?_
      obtain ⟨q4, hq4, h⟩ := bnd_e h
      rcases ite_e h with ⟨c11, h⟩ | ⟨c11, h⟩
      · refine At.cS1 (av := [vl p3, vl 0, vl 40]) (rest := []) ms_X12_within lk_X12_142 dX12_numbers_38 rfl rfl (Nat.le_of_ble_eq_true rfl) (by decide) ⟨rfl, rfl⟩ (rX12_within hq4) <| At.bifne_t (tgt := 47) dX12_numbers_41 (by decide) c11 <| ?_
        refine At.aloadn dX12_numbers_47 rfl <| At.getR fl_X12_67 sh_130 (le149 sh_130) rf_130_30 dX12_numbers_48 <| At.iloadn dX12_numbers_51 rfl <| At.iloadn dX12_numbers_52 rfl <| ?_
        obtain ⟨S5, hS5, g6, h⟩ := wrA_e h
        refine At.iast sh_147 (le149 sh_147) g6.1 g6.2 dX12_numbers_53 <| At.nmS hS5 <| At.aloadn dX12_numbers_54 rfl <| At.getR fl_X12_70 sh_130 (le149 sh_130) rf_130_31 dX12_numbers_55 <| At.iloadn dX12_numbers_58 rfl <| At.iloadn dX12_numbers_59 rfl <| ?_
        obtain ⟨S7, hS7, g8, h⟩ := wrA_e h
        refine At.iast sh_148 (le149 sh_148) g8.1 g8.2 dX12_numbers_60 <| At.nmS hS7 <| At.iconst dX12_numbers_61 (by decide) <| At.istore (ls' := [(4, vi 0), (0, vr 130), (1, vi p1), (2, vi p2), (3, vi p3)]) dX12_numbers_62 (by decide) rfl <| ?_
        obtain ⟨q9, ho10, h⟩ := bnd_e h
        refine At.sub [1, 2, 4, 0] rfl (lX12_numbers_L64 FU _ _ q9 ho10 ?_)
        refine At.iconst dX12_numbers_89 (by decide) <| ?_
        obtain rfl := Option.some.inj h
        exact At.iret rfl (Nat.zero_le _) (Nat.zero_le _) ⟨rfl, rfl⟩ dX12_numbers_90
      · refine At.cS1 (av := [vl p3, vl 0, vl 40]) (rest := []) ms_X12_within lk_X12_142 dX12_numbers_38 rfl rfl (Nat.le_of_ble_eq_true rfl) (by decide) ⟨rfl, rfl⟩ (rX12_within hq4) <| At.bifne_f (tgt := 47) dX12_numbers_41 (by decide) c11 <| ?_
        refine At.bipush dX12_numbers_44 (by decide) <| ?_
        obtain rfl := Option.some.inj h
        exact At.iret rfl (Nat.zero_le _) (Nat.zero_le _) ⟨rfl, rfl⟩ dX12_numbers_46
    · refine At.cS1 (av := [vl p2, vl 0, vl 3]) (rest := []) ms_X12_within lk_X12_142 dX12_numbers_23 rfl rfl (Nat.le_of_ble_eq_true rfl) (by decide) ⟨rfl, rfl⟩ (rX12_within hq3) <| At.bifne_f (tgt := 32) dX12_numbers_26 (by decide) c12 <| ?_
      refine At.bipush dX12_numbers_29 (by decide) <| ?_
      obtain rfl := Option.some.inj h
      exact At.iret rfl (Nat.zero_le _) (Nat.zero_le _) ⟨rfl, rfl⟩ dX12_numbers_31
  · refine At.cS1 (av := [vl p1, vl 0, vl 3]) (rest := []) ms_X12_within lk_X12_142 dX12_numbers_11 rfl rfl (Nat.le_of_ble_eq_true rfl) (by decide) ⟨rfl, rfl⟩ (rX12_within hq2) <| At.bifeq_t (tgt := 29) dX12_numbers_14 (by decide) c13 <| ?_
    refine At.bipush dX12_numbers_29 (by decide) <| ?_
    obtain rfl := Option.some.inj h
    exact At.iret rfl (Nat.zero_le _) (Nat.zero_le _) ⟨rfl, rfl⟩ dX12_numbers_31
def fX12_write (p1 : Int) (p2 : Int) (p3 : Int) (S : SS) : Option (Int × SS) :=
  lt (up S 130 0 0) fun S1 =>
  Option.bind (fX12_noTray p1 S1) fun q2 =>
  if q2 = 0 then (
    rdA S1 148 4 p1 fun v3 =>
    Option.bind (fX12_within p2 0 (w32 (v3 - 1))) fun q5 =>
    if q5 = true then (
      rdA S1 147 4 p1 fun v6 =>
      Option.bind (fX12_cut p3 v6) fun q8 =>
      wrA S1 149 160 (w32 ((w32 (40 * p1)) + p2)) q8 fun S9 =>
      rdA S9 149 160 (w32 ((w32 (40 * p1)) + p2)) fun v11 =>
      some (v11, S9)
    ) else (
      some ((-7), S1)
    )
  ) else (
    some (q2, S1)
  )
set_option maxRecDepth 100000 in
set_option maxHeartbeats 4000000 in
theorem rX12_write {G : GG} {p1 : Int} {p2 : Int} {p3 : Int} {S : SS} {rr : (Int × SS)} (h : fX12_write p1 p2 p3 S = some rr) : RD G mX12_write 3 [vr 130, vi p1, vi p2, vl p3] S (some (vl rr.1)) rr.2 := by
  unfold fX12_write at h
  refine Runs.of pl_X12 (Nat.le_of_ble_eq_true rfl) ?_
  show At G mX12_write 3 0 [(0, vr 130), (1, vi p1), (2, vi p2), (3, vl p3)] [] (mm S) 0 0 (EQ (some (vl rr.1)) rr.2)
  refine At.aloadn dX12_write_0 rfl <| At.iconst dX12_write_1 (by decide) <| ?_
  obtain ⟨S1, hS1, h⟩ := lt_e h
  refine At.putI fw_X12_1 sh_130 (le149 sh_130) dX12_write_2 <| At.nmS hS1 <| At.aloadn dX12_write_5 rfl <| At.iloadn dX12_write_6 rfl <| ?_
  obtain ⟨q2, hq2, h⟩ := bnd_e h
  rcases ite_e h with ⟨c14, h⟩ | ⟨c14, h⟩
  · refine At.cV1 (av := [vi p1]) (rest := []) mv_X12_noTray lk_X12_297 dX12_write_7 rfl rfl sh_130 (Nat.le_of_ble_eq_true rfl) (by decide) ⟨rfl, rfl⟩ (rX12_noTray hq2) <| At.istore (ls' := [(5, vi q2), (0, vr 130), (1, vi p1), (2, vi p2), (3, vl p3)]) dX12_write_10 (by decide) rfl <| At.iload dX12_write_12 rfl <| At.if_eq_t (tgt := 21) dX12_write_14 (by decide) c14 <| ?_
    refine At.iloadn dX12_write_21 rfl <| At.i2l dX12_write_22 <| At.lconst0 dX12_write_23 <| At.aloadn dX12_write_24 rfl <| At.getR fl_X12_70 sh_130 (le149 sh_130) rf_130_31 dX12_write_25 <| At.iloadn dX12_write_28 rfl <| ?_
    obtain ⟨v3, hv3, g4, h⟩ := rdA_e h
    refine At.iald sh_148 (le149 sh_148) g4.1 g4.2 dX12_write_29 <| At.nm hv3 <| At.iconst dX12_write_30 (by decide) <| At.isub dX12_write_31 <| At.i2l dX12_write_32 <| ?_
    obtain ⟨q5, hq5, h⟩ := bnd_e h
    rcases ite_e h with ⟨c13, h⟩ | ⟨c13, h⟩
    · refine At.cS1 (av := [vl p2, vl 0, vl (w32 (v3 - 1))]) (rest := []) ms_X12_within lk_X12_142 dX12_write_33 rfl rfl (Nat.le_of_ble_eq_true rfl) (by decide) ⟨rfl, rfl⟩ (rX12_within hq5) <| At.bifne_t (tgt := 43) dX12_write_36 (by decide) c13 <| ?_
      refine At.aloadn dX12_write_43 rfl <| At.getR fl_X12_73 sh_130 (le149 sh_130) rf_130_32 dX12_write_44 <| At.bipush dX12_write_47 (by decide) <| At.iloadn dX12_write_49 rfl <| At.imul dX12_write_50 <| At.iloadn dX12_write_51 rfl <| At.iadd dX12_write_52 <| At.lloadn dX12_write_53 rfl <| At.aloadn dX12_write_54 rfl <| At.getR fl_X12_67 sh_130 (le149 sh_130) rf_130_30 dX12_write_55 <| At.iloadn dX12_write_58 rfl <| ?_
      obtain ⟨v6, hv6, g7, h⟩ := rdA_e h
      refine At.iald sh_147 (le149 sh_147) g7.1 g7.2 dX12_write_59 <| At.nm hv6 <| ?_
      obtain ⟨q8, hq8, h⟩ := bnd_e h
      refine At.cS1 (av := [vl p3, vi v6]) (rest := [vi (w32 ((w32 (40 * p1)) + p2)), vr 149]) ms_X12_cut lk_X12_450 dX12_write_60 rfl rfl (Nat.le_of_ble_eq_true rfl) (by decide) ⟨rfl, rfl⟩ (rX12_cut hq8) <| ?_
      obtain ⟨S9, hS9, g10, h⟩ := wrA_e h
      refine At.last sh_149 (le149 sh_149) g10.1 g10.2 dX12_write_63 <| At.nmS hS9 <| At.aloadn dX12_write_64 rfl <| At.getR fl_X12_73 sh_130 (le149 sh_130) rf_130_32 dX12_write_65 <| At.bipush dX12_write_68 (by decide) <| At.iloadn dX12_write_70 rfl <| At.imul dX12_write_71 <| At.iloadn dX12_write_72 rfl <| At.iadd dX12_write_73 <| ?_
      obtain ⟨v11, hv11, g12, h⟩ := rdA_e h
      refine At.lald sh_149 (le149 sh_149) g12.1 g12.2 dX12_write_74 <| At.nml hv11 <| ?_
      obtain rfl := Option.some.inj h
      exact At.lret rfl (Nat.zero_le _) (Nat.zero_le _) ⟨rfl, rfl⟩ dX12_write_75
    · refine At.cS1 (av := [vl p2, vl 0, vl (w32 (v3 - 1))]) (rest := []) ms_X12_within lk_X12_142 dX12_write_33 rfl rfl (Nat.le_of_ble_eq_true rfl) (by decide) ⟨rfl, rfl⟩ (rX12_within hq5) <| At.bifne_f (tgt := 43) dX12_write_36 (by decide) c13 <| ?_
      refine At.ldc2 dX12_write_39 kl_X12_448 (by decide) <| ?_
      obtain rfl := Option.some.inj h
      exact At.lret rfl (Nat.zero_le _) (Nat.zero_le _) ⟨rfl, rfl⟩ dX12_write_42
  · refine At.cV1 (av := [vi p1]) (rest := []) mv_X12_noTray lk_X12_297 dX12_write_7 rfl rfl sh_130 (Nat.le_of_ble_eq_true rfl) (by decide) ⟨rfl, rfl⟩ (rX12_noTray hq2) <| At.istore (ls' := [(5, vi q2), (0, vr 130), (1, vi p1), (2, vi p2), (3, vl p3)]) dX12_write_10 (by decide) rfl <| At.iload dX12_write_12 rfl <| At.if_eq_f (tgt := 21) dX12_write_14 (by decide) c14 <| ?_
    refine At.iload dX12_write_17 rfl <| At.i2l dX12_write_19 <| ?_
    obtain rfl := Option.some.inj h
    exact At.lret rfl (Nat.zero_le _) (Nat.zero_le _) ⟨rfl, rfl⟩ dX12_write_20
def fX12_lists_L119 (l1 : Int) (l2 : Int) (l7 : Int) : Nat → Int → SS → Option (SS)
  | 0, _, _ => none
  | n + 1, l8, S =>
    if l7 ≤ l8 then (
      some S
    ) else (
      Option.bind (fX12_streetAt l2 l8 S) fun q1 =>
      wrA S 149 160 (w32 ((w32 (40 * l1)) + l8)) q1 fun S2 =>
      lt (w32 (l8 + 1)) fun x4 =>
      fX12_lists_L119 l1 l2 l7 n x4 S2
    )
def fX12_lists (p1 : Int) (p2 : Int) (p3 : Int) (p4 : Int) (S : SS) : Option (Int × SS) :=
  lt (up S 130 0 0) fun S1 =>
  Option.bind (fX12_within p1 0 3) fun q2 =>
  if q2 = true then (
    Option.bind (fX12_isGoer p2 S1) fun q3 =>
    if q3 = true then (
      Option.bind (fX12_isCorner p3 S1) fun q4 =>
      if q4 = true then (
        Option.bind (fX12_noTray p1 S1) fun q5 =>
        if q5 = 0 then (
          Option.bind (fX12_noComing p2 p3 p4 S1) fun q6 =>
          if q6 = 0 then (
            Option.bind (fX12_laysFar p2 p3 p4 S1) fun q7 =>
            if q7.1 = 268435456 then (
              some ((-5), q7.2)
            ) else (
              rdA q7.2 148 4 p1 fun v8 =>
              Option.bind (
                if v8 ≤ q7.1 then (
                  rdA q7.2 148 4 p1 fun v11 =>
                  some v11
                ) else (
                  some q7.1
                )
                : Option (Int)) fun q10 =>
              Option.bind (fX12_lists_L119 p1 p2 q10 FU 0 q7.2) fun q14 =>
              some (q10, q14)
            )
          ) else (
            some (q6, S1)
          )
        ) else (
          some (q5, S1)
        )
      ) else (
        some ((-2), S1)
      )
    ) else (
      some ((-2), S1)
    )
  ) else (
    some ((-2), S1)
  )
set_option maxRecDepth 100000 in
set_option maxHeartbeats 4000000 in
theorem lX12_lists_L119 {G : GG} {Φ : Option VV → MM → Prop} {l1 : Int} {l2 : Int} {l7 : Int} : ∀ (n : Nat) (l8 : Int) (S : SS) (q : SS), fX12_lists_L119 l1 l2 l7 n l8 S = some q → At G mX12_lists 7 152 [(7, vi l7)] [] (mm q) 0 0 Φ → At G mX12_lists 7 119 [(0, vr 130), (1, vi l1), (2, vi l2), (7, vi l7), (8, vi l8)] [] (mm S) 0 0 Φ := by
  intro n
  induction n with
  | zero =>
    intro _ _ _ h
    cases h
  | succ n ih =>
    intro l8 S q h K152
    unfold fX12_lists_L119 at h
    rcases ite_e h with ⟨c5, h⟩ | ⟨c5, h⟩
    · refine At.iload dX12_lists_119 rfl <| At.iload dX12_lists_121 rfl <| At.icmp_ge_t (tgt := 152) dX12_lists_123 (by decide) c5 <| ?_
      obtain rfl := Option.some.inj h
      exact At.sub [3] rfl K152
    · refine At.iload dX12_lists_119 rfl <| At.iload dX12_lists_121 rfl <| At.icmp_ge_f (tgt := 152) dX12_lists_123 (by decide) c5 <| ?_
      refine At.aloadn dX12_lists_126 rfl <| At.getR fl_X12_73 sh_130 (le149 sh_130) rf_130_32 dX12_lists_127 <| At.bipush dX12_lists_130 (by decide) <| At.iloadn dX12_lists_132 rfl <| At.imul dX12_lists_133 <| At.iload dX12_lists_134 rfl <| At.iadd dX12_lists_136 <| At.aloadn dX12_lists_137 rfl <| At.iloadn dX12_lists_138 rfl <| At.iload dX12_lists_139 rfl <| ?_
      obtain ⟨q1, hq1, h⟩ := bnd_e h
      refine At.cV1 (av := [vi l2, vi l8]) (rest := [vi (w32 ((w32 (40 * l1)) + l8)), vr 149]) mv_X12_streetAt lk_X12_351 dX12_lists_141 rfl rfl sh_130 (Nat.le_of_ble_eq_true rfl) (by decide) ⟨rfl, rfl⟩ (rX12_streetAt hq1) <| At.i2l dX12_lists_144 <| ?_
      obtain ⟨S2, hS2, g3, h⟩ := wrA_e h
      refine At.last sh_149 (le149 sh_149) g3.1 g3.2 dX12_lists_145 <| At.nmS hS2 <| ?_
      obtain ⟨x4, hx4, h⟩ := lt_e h
      refine At.iinc (ls' := [(8, vi x4), (0, vr 130), (1, vi l1), (2, vi l2), (7, vi l7)]) dX12_lists_146 rfl (by decide) (by rw [hx4]; rfl) <| At.goto (tgt := 119) dX12_lists_149 (by decide) <| ?_
      exact At.sub [1, 2, 3, 4, 0] rfl (ih _ _ _ h K152)
set_option maxRecDepth 100000 in
set_option maxHeartbeats 4000000 in
theorem rX12_lists {G : GG} {p1 : Int} {p2 : Int} {p3 : Int} {p4 : Int} {S : SS} {rr : (Int × SS)} (h : fX12_lists p1 p2 p3 p4 S = some rr) : RD G mX12_lists 7 [vr 130, vi p1, vi p2, vi p3, vi p4] S (some (vi rr.1)) rr.2 := by
  unfold fX12_lists at h
  refine Runs.of pl_X12 (Nat.le_of_ble_eq_true rfl) ?_
  show At G mX12_lists 7 0 [(0, vr 130), (1, vi p1), (2, vi p2), (3, vi p3), (4, vi p4)] [] (mm S) 0 0 (EQ (some (vi rr.1)) rr.2)
  refine At.aloadn dX12_lists_0 rfl <| At.iconst dX12_lists_1 (by decide) <| ?_
  obtain ⟨S1, hS1, h⟩ := lt_e h
  refine At.putI fw_X12_1 sh_130 (le149 sh_130) dX12_lists_2 <| At.nmS hS1 <| At.iloadn dX12_lists_5 rfl <| At.i2l dX12_lists_6 <| At.lconst0 dX12_lists_7 <| At.ldc2 dX12_lists_8 kl_X12_264 (by decide) <| ?_
  obtain ⟨q2, hq2, h⟩ := bnd_e h
  rcases ite_e h with ⟨c21, h⟩ | ⟨c21, h⟩
  · refine At.cS1 (av := [vl p1, vl 0, vl 3]) (rest := []) ms_X12_within lk_X12_142 dX12_lists_11 rfl rfl (Nat.le_of_ble_eq_true rfl) (by decide) ⟨rfl, rfl⟩ (rX12_within hq2) <| At.bifeq_f (tgt := 35) dX12_lists_14 (by decide) c21 <| ?_
    refine At.aloadn dX12_lists_17 rfl <| At.iloadn dX12_lists_18 rfl <| At.i2l dX12_lists_19 <| ?_
    obtain ⟨q3, hq3, h⟩ := bnd_e h
    rcases ite_e h with ⟨c20, h⟩ | ⟨c20, h⟩
    · refine At.cV1 (av := [vl p2]) (rest := []) mv_X12_isGoer lk_X12_233 dX12_lists_20 rfl rfl sh_130 (Nat.le_of_ble_eq_true rfl) (by decide) ⟨rfl, rfl⟩ (rX12_isGoer hq3) <| At.bifeq_f (tgt := 35) dX12_lists_23 (by decide) c20 <| ?_
      refine At.aloadn dX12_lists_26 rfl <| At.iloadn dX12_lists_27 rfl <| At.i2l dX12_lists_28 <| ?_
      obtain ⟨q4, hq4, h⟩ := bnd_e h
      rcases ite_e h with ⟨c19, h⟩ | ⟨c19, h⟩
      · refine At.cV1 (av := [vl p3]) (rest := []) mv_X12_isCorner lk_X12_268 dX12_lists_29 rfl rfl sh_130 (Nat.le_of_ble_eq_true rfl) (by decide) ⟨rfl, rfl⟩ (rX12_isCorner hq4) <| At.bifne_t (tgt := 38) dX12_lists_32 (by decide) c19 <| ?_
        refine At.aloadn dX12_lists_38 rfl <| At.iloadn dX12_lists_39 rfl <| ?_
        obtain ⟨q5, hq5, h⟩ := bnd_e h
        rcases ite_e h with ⟨c18, h⟩ | ⟨c18, h⟩
        · refine At.cV1 (av := [vi p1]) (rest := []) mv_X12_noTray lk_X12_297 dX12_lists_40 rfl rfl sh_130 (Nat.le_of_ble_eq_true rfl) (by decide) ⟨rfl, rfl⟩ (rX12_noTray hq5) <| At.istore (ls' := [(5, vi q5), (0, vr 130), (1, vi p1), (2, vi p2), (3, vi p3), (4, vi p4)]) dX12_lists_43 (by decide) rfl <| At.iload dX12_lists_45 rfl <| At.if_eq_t (tgt := 53) dX12_lists_47 (by decide) c18 <| ?_
          refine At.aloadn dX12_lists_53 rfl <| At.iloadn dX12_lists_54 rfl <| At.iloadn dX12_lists_55 rfl <| At.iload dX12_lists_56 rfl <| ?_
          obtain ⟨q6, hq6, h⟩ := bnd_e h
          rcases ite_e h with ⟨c17, h⟩ | ⟨c17, h⟩
          · refine At.cV1 (av := [vi p2, vi p3, vi p4]) (rest := []) mv_X12_noComing lk_X12_342 dX12_lists_58 rfl rfl sh_130 (Nat.le_of_ble_eq_true rfl) (by decide) ⟨rfl, rfl⟩ (rX12_noComing hq6) <| At.istore (ls' := [(5, vi q6), (0, vr 130), (1, vi p1), (2, vi p2), (3, vi p3), (4, vi p4)]) dX12_lists_61 (by decide) rfl <| At.iload dX12_lists_63 rfl <| At.if_eq_t (tgt := 71) dX12_lists_65 (by decide) c17 <| ?_
            refine At.aloadn dX12_lists_71 rfl <| At.iloadn dX12_lists_72 rfl <| At.iloadn dX12_lists_73 rfl <| At.iload dX12_lists_74 rfl <| ?_
            obtain ⟨q7, hq7, h⟩ := bnd_e h
            rcases ite_e h with ⟨c16, h⟩ | ⟨c16, h⟩
            · refine At.cV1 (av := [vi p2, vi p3, vi p4]) (rest := []) mv_X12_laysFar lk_X12_345 dX12_lists_76 rfl rfl sh_130 (Nat.le_of_ble_eq_true rfl) (by decide) ⟨rfl, rfl⟩ (rX12_laysFar hq7) <| At.istore (ls' := [(6, vi q7.1), (5, vi q6), (0, vr 130), (1, vi p1), (2, vi p2), (3, vi p3), (4, vi p4)]) dX12_lists_79 (by decide) rfl <| At.iload dX12_lists_81 rfl <| At.ldcw dX12_lists_83 ki_X12_328 (by decide) <| At.icmp_ne_f (tgt := 92) dX12_lists_86 (by decide) c16 <| ?_
              refine At.bipush dX12_lists_89 (by decide) <| ?_
              obtain rfl := Option.some.inj h
              exact At.iret rfl (Nat.zero_le _) (Nat.zero_le _) ⟨rfl, rfl⟩ dX12_lists_91
            · refine At.cV1 (av := [vi p2, vi p3, vi p4]) (rest := []) mv_X12_laysFar lk_X12_345 dX12_lists_76 rfl rfl sh_130 (Nat.le_of_ble_eq_true rfl) (by decide) ⟨rfl, rfl⟩ (rX12_laysFar hq7) <| At.istore (ls' := [(6, vi q7.1), (5, vi q6), (0, vr 130), (1, vi p1), (2, vi p2), (3, vi p3), (4, vi p4)]) dX12_lists_79 (by decide) rfl <| At.iload dX12_lists_81 rfl <| At.ldcw dX12_lists_83 ki_X12_328 (by decide) <| At.icmp_ne_t (tgt := 92) dX12_lists_86 (by decide) c16 <| ?_
              refine At.iload dX12_lists_92 rfl <| At.aloadn dX12_lists_94 rfl <| At.getR fl_X12_70 sh_130 (le149 sh_130) rf_130_31 dX12_lists_95 <| At.iloadn dX12_lists_98 rfl <| ?_
              obtain ⟨v8, hv8, g9, h⟩ := rdA_e h
              obtain ⟨q10, hj114, h⟩ := bnd_e h
              have K114 : At G mX12_lists 7 114 [(0, vr 130), (1, vi p1), (2, vi p2)] [vi q10] (mm q7.2) 0 0 (EQ (some (vi rr.1)) rr.2) := by
                refine At.istore (ls' := [(7, vi q10), (0, vr 130), (1, vi p1), (2, vi p2)]) dX12_lists_114 (by decide) rfl <| At.iconst dX12_lists_116 (by decide) <| At.istore (ls' := [(8, vi 0), (7, vi q10), (0, vr 130), (1, vi p1), (2, vi p2)]) dX12_lists_117 (by decide) rfl <| ?_
                obtain ⟨q14, ho15, h⟩ := bnd_e h
                refine At.sub [2, 3, 4, 1, 0] rfl (lX12_lists_L119 FU _ _ q14 ho15 ?_)
                refine At.iload dX12_lists_152 rfl <| ?_
                obtain rfl := Option.some.inj h
                exact At.iret rfl (Nat.zero_le _) (Nat.zero_le _) ⟨rfl, rfl⟩ dX12_lists_154
              clear h; have h := hj114; clear hj114
              rcases ite_e h with ⟨c13, h⟩ | ⟨c13, h⟩
              · refine At.iald sh_148 (le149 sh_148) g9.1 g9.2 dX12_lists_99 <| At.nm hv8 <| At.icmp_ge_t (tgt := 108) dX12_lists_100 (by decide) c13 <| ?_
                refine At.aloadn dX12_lists_108 rfl <| At.getR fl_X12_70 sh_130 (le149 sh_130) rf_130_31 dX12_lists_109 <| At.iloadn dX12_lists_112 rfl <| ?_
                obtain ⟨v11, hv11, g12, h⟩ := rdA_e h
                refine At.iald sh_148 (le149 sh_148) g12.1 g12.2 dX12_lists_113 <| At.nm hv11 <| ?_
                obtain rfl := Option.some.inj h
                exact At.sub [2, 3, 4] rfl K114
              · refine At.iald sh_148 (le149 sh_148) g9.1 g9.2 dX12_lists_99 <| At.nm hv8 <| At.icmp_ge_f (tgt := 108) dX12_lists_100 (by decide) c13 <| ?_
                refine At.iload dX12_lists_103 rfl <| At.goto (tgt := 114) dX12_lists_105 (by decide) <| ?_
                obtain rfl := Option.some.inj h
                exact At.sub [2, 3, 4] rfl K114
          · refine At.cV1 (av := [vi p2, vi p3, vi p4]) (rest := []) mv_X12_noComing lk_X12_342 dX12_lists_58 rfl rfl sh_130 (Nat.le_of_ble_eq_true rfl) (by decide) ⟨rfl, rfl⟩ (rX12_noComing hq6) <| At.istore (ls' := [(5, vi q6), (0, vr 130), (1, vi p1), (2, vi p2), (3, vi p3), (4, vi p4)]) dX12_lists_61 (by decide) rfl <| At.iload dX12_lists_63 rfl <| At.if_eq_f (tgt := 71) dX12_lists_65 (by decide) c17 <| ?_
            refine At.iload dX12_lists_68 rfl <| ?_
            obtain rfl := Option.some.inj h
            exact At.iret rfl (Nat.zero_le _) (Nat.zero_le _) ⟨rfl, rfl⟩ dX12_lists_70
        · refine At.cV1 (av := [vi p1]) (rest := []) mv_X12_noTray lk_X12_297 dX12_lists_40 rfl rfl sh_130 (Nat.le_of_ble_eq_true rfl) (by decide) ⟨rfl, rfl⟩ (rX12_noTray hq5) <| At.istore (ls' := [(5, vi q5), (0, vr 130), (1, vi p1), (2, vi p2), (3, vi p3), (4, vi p4)]) dX12_lists_43 (by decide) rfl <| At.iload dX12_lists_45 rfl <| At.if_eq_f (tgt := 53) dX12_lists_47 (by decide) c18 <| ?_
          refine At.iload dX12_lists_50 rfl <| ?_
          obtain rfl := Option.some.inj h
          exact At.iret rfl (Nat.zero_le _) (Nat.zero_le _) ⟨rfl, rfl⟩ dX12_lists_52
      · refine At.cV1 (av := [vl p3]) (rest := []) mv_X12_isCorner lk_X12_268 dX12_lists_29 rfl rfl sh_130 (Nat.le_of_ble_eq_true rfl) (by decide) ⟨rfl, rfl⟩ (rX12_isCorner hq4) <| At.bifne_f (tgt := 38) dX12_lists_32 (by decide) c19 <| ?_
        refine At.bipush dX12_lists_35 (by decide) <| ?_
        obtain rfl := Option.some.inj h
        exact At.iret rfl (Nat.zero_le _) (Nat.zero_le _) ⟨rfl, rfl⟩ dX12_lists_37
    · refine At.cV1 (av := [vl p2]) (rest := []) mv_X12_isGoer lk_X12_233 dX12_lists_20 rfl rfl sh_130 (Nat.le_of_ble_eq_true rfl) (by decide) ⟨rfl, rfl⟩ (rX12_isGoer hq3) <| At.bifeq_t (tgt := 35) dX12_lists_23 (by decide) c20 <| ?_
      refine At.bipush dX12_lists_35 (by decide) <| ?_
      obtain rfl := Option.some.inj h
      exact At.iret rfl (Nat.zero_le _) (Nat.zero_le _) ⟨rfl, rfl⟩ dX12_lists_37
  · refine At.cS1 (av := [vl p1, vl 0, vl 3]) (rest := []) ms_X12_within lk_X12_142 dX12_lists_11 rfl rfl (Nat.le_of_ble_eq_true rfl) (by decide) ⟨rfl, rfl⟩ (rX12_within hq2) <| At.bifeq_t (tgt := 35) dX12_lists_14 (by decide) c21 <| ?_
    refine At.bipush dX12_lists_35 (by decide) <| ?_
    obtain rfl := Option.some.inj h
    exact At.iret rfl (Nat.zero_le _) (Nat.zero_le _) ⟨rfl, rfl⟩ dX12_lists_37
def fX12_image_L20 (l1 : Int) : Nat → Int → SS → Option (SS)
  | 0, _, _ => none
  | n + 1, l2, S =>
    if 1101 ≤ l2 then (
      some S
    ) else (
      rdA S 131 3303 l2 fun v1 =>
      wrA S 131 3303 (w32 ((w32 (1101 * (w32 (l1 + 1)))) + l2)) v1 fun S3 =>
      lt (w32 (l2 + 1)) fun x5 =>
      fX12_image_L20 l1 n x5 S3
    )
def fX12_image (p1 : Int) (S : SS) : Option (Int × SS) :=
  lt (up S 130 0 0) fun S1 =>
  Option.bind (fX12_within p1 0 1) fun q2 =>
  if q2 = true then (
    Option.bind (fX12_image_L20 p1 FU 0 S1) fun q3 =>
    wrA q3 132 2 p1 (jz 1) fun S5 =>
    some (0, S5)
  ) else (
    some ((-2), S1)
  )
set_option maxRecDepth 100000 in
set_option maxHeartbeats 4000000 in
theorem lX12_image_L20 {G : GG} {Φ : Option VV → MM → Prop} {l1 : Int} : ∀ (n : Nat) (l2 : Int) (S : SS) (q : SS), fX12_image_L20 l1 n l2 S = some q → At G mX12_image 2 53 [(0, vr 130), (1, vi l1)] [] (mm q) 0 0 Φ → At G mX12_image 2 20 [(0, vr 130), (1, vi l1), (2, vi l2)] [] (mm S) 0 0 Φ := by
  intro n
  induction n with
  | zero =>
    intro _ _ _ h
    cases h
  | succ n ih =>
    intro l2 S q h K53
    unfold fX12_image_L20 at h
    rcases ite_e h with ⟨c6, h⟩ | ⟨c6, h⟩
    · refine At.iloadn dX12_image_20 rfl <| At.sipush dX12_image_21 (by decide) <| At.icmp_ge_t (tgt := 53) dX12_image_24 (by decide) c6 <| ?_
      obtain rfl := Option.some.inj h
      exact At.sub [0, 1] rfl K53
    · refine At.iloadn dX12_image_20 rfl <| At.sipush dX12_image_21 (by decide) <| At.icmp_ge_f (tgt := 53) dX12_image_24 (by decide) c6 <| ?_
      refine At.aloadn dX12_image_27 rfl <| At.getR fl_X12_13 sh_130 (le149 sh_130) rf_130_1 dX12_image_28 <| At.sipush dX12_image_31 (by decide) <| At.iloadn dX12_image_34 rfl <| At.iconst dX12_image_35 (by decide) <| At.iadd dX12_image_36 <| At.imul dX12_image_37 <| At.iloadn dX12_image_38 rfl <| At.iadd dX12_image_39 <| At.aloadn dX12_image_40 rfl <| At.getR fl_X12_13 sh_130 (le149 sh_130) rf_130_1 dX12_image_41 <| At.iloadn dX12_image_44 rfl <| ?_
      obtain ⟨v1, hv1, g2, h⟩ := rdA_e h
      refine At.iald sh_131 (le149 sh_131) g2.1 g2.2 dX12_image_45 <| At.nm hv1 <| ?_
      obtain ⟨S3, hS3, g4, h⟩ := wrA_e h
      refine At.iast sh_131 (le149 sh_131) g4.1 g4.2 dX12_image_46 <| At.nmS hS3 <| ?_
      obtain ⟨x5, hx5, h⟩ := lt_e h
      refine At.iinc (ls' := [(2, vi x5), (0, vr 130), (1, vi l1)]) dX12_image_47 rfl (by decide) (by rw [hx5]; rfl) <| At.goto (tgt := 20) dX12_image_50 (by decide) <| ?_
      exact At.sub [1, 2, 0] rfl (ih _ _ _ h K53)
set_option maxRecDepth 100000 in
set_option maxHeartbeats 4000000 in
theorem rX12_image {G : GG} {p1 : Int} {S : SS} {rr : (Int × SS)} (h : fX12_image p1 S = some rr) : RD G mX12_image 2 [vr 130, vi p1] S (some (vi rr.1)) rr.2 := by
  unfold fX12_image at h
  refine Runs.of pl_X12 (Nat.le_of_ble_eq_true rfl) ?_
  show At G mX12_image 2 0 [(0, vr 130), (1, vi p1)] [] (mm S) 0 0 (EQ (some (vi rr.1)) rr.2)
  refine At.aloadn dX12_image_0 rfl <| At.iconst dX12_image_1 (by decide) <| ?_
  obtain ⟨S1, hS1, h⟩ := lt_e h
  refine At.putI fw_X12_1 sh_130 (le149 sh_130) dX12_image_2 <| At.nmS hS1 <| At.iloadn dX12_image_5 rfl <| At.i2l dX12_image_6 <| At.lconst0 dX12_image_7 <| At.lconst1 dX12_image_8 <| ?_
  obtain ⟨q2, hq2, h⟩ := bnd_e h
  rcases ite_e h with ⟨c7, h⟩ | ⟨c7, h⟩
  · refine At.cS1 (av := [vl p1, vl 0, vl 1]) (rest := []) ms_X12_within lk_X12_142 dX12_image_9 rfl rfl (Nat.le_of_ble_eq_true rfl) (by decide) ⟨rfl, rfl⟩ (rX12_within hq2) <| At.bifne_t (tgt := 18) dX12_image_12 (by decide) c7 <| ?_
    refine At.iconst dX12_image_18 (by decide) <| At.istoren (ls' := [(2, vi 0), (0, vr 130), (1, vi p1)]) dX12_image_19 (by decide) rfl <| ?_
    obtain ⟨q3, ho4, h⟩ := bnd_e h
    refine At.sub [1, 2, 0] rfl (lX12_image_L20 FU _ _ q3 ho4 ?_)
    refine At.aloadn dX12_image_53 rfl <| At.getR fl_X12_17 sh_130 (le149 sh_130) rf_130_2 dX12_image_54 <| At.iloadn dX12_image_57 rfl <| At.iconst dX12_image_58 (by decide) <| ?_
    obtain ⟨S5, hS5, g6, h⟩ := wrA_e h
    refine At.zast sh_132 (le149 sh_132) g6.1 g6.2 dX12_image_59 <| At.nmS hS5 <| At.iconst dX12_image_60 (by decide) <| ?_
    obtain rfl := Option.some.inj h
    exact At.iret rfl (Nat.zero_le _) (Nat.zero_le _) ⟨rfl, rfl⟩ dX12_image_61
  · refine At.cS1 (av := [vl p1, vl 0, vl 1]) (rest := []) ms_X12_within lk_X12_142 dX12_image_9 rfl rfl (Nat.le_of_ble_eq_true rfl) (by decide) ⟨rfl, rfl⟩ (rX12_within hq2) <| At.bifne_f (tgt := 18) dX12_image_12 (by decide) c7 <| ?_
    refine At.bipush dX12_image_15 (by decide) <| ?_
    obtain rfl := Option.some.inj h
    exact At.iret rfl (Nat.zero_le _) (Nat.zero_le _) ⟨rfl, rfl⟩ dX12_image_17
def fX12_restore_L32 (l1 : Int) : Nat → Int → SS → Option (SS)
  | 0, _, _ => none
  | n + 1, l2, S =>
    if 1101 ≤ l2 then (
      some S
    ) else (
      rdA S 131 3303 (w32 ((w32 (1101 * (w32 (l1 + 1)))) + l2)) fun v1 =>
      wrA S 131 3303 l2 v1 fun S3 =>
      lt (w32 (l2 + 1)) fun x5 =>
      fX12_restore_L32 l1 n x5 S3
    )
def fX12_restore (p1 : Int) (S : SS) : Option (Int × SS) :=
  lt (up S 130 0 0) fun S1 =>
  Option.bind (fX12_within p1 0 1) fun q2 =>
  if q2 = true then (
    rdA S1 132 2 p1 fun v3 =>
    if v3 = 0 then (
      some ((-5), S1)
    ) else (
      Option.bind (fX12_restore_L32 p1 FU 0 S1) fun q5 =>
      wrA q5 131 3303 49 0 fun S7 =>
      some (0, S7)
    )
  ) else (
    some ((-2), S1)
  )
set_option maxRecDepth 100000 in
set_option maxHeartbeats 4000000 in
theorem lX12_restore_L32 {G : GG} {Φ : Option VV → MM → Prop} {l1 : Int} : ∀ (n : Nat) (l2 : Int) (S : SS) (q : SS), fX12_restore_L32 l1 n l2 S = some q → At G mX12_restore 2 65 [(0, vr 130)] [] (mm q) 0 0 Φ → At G mX12_restore 2 32 [(0, vr 130), (1, vi l1), (2, vi l2)] [] (mm S) 0 0 Φ := by
  intro n
  induction n with
  | zero =>
    intro _ _ _ h
    cases h
  | succ n ih =>
    intro l2 S q h K65
    unfold fX12_restore_L32 at h
    rcases ite_e h with ⟨c6, h⟩ | ⟨c6, h⟩
    · refine At.iloadn dX12_restore_32 rfl <| At.sipush dX12_restore_33 (by decide) <| At.icmp_ge_t (tgt := 65) dX12_restore_36 (by decide) c6 <| ?_
      obtain rfl := Option.some.inj h
      exact At.sub [0] rfl K65
    · refine At.iloadn dX12_restore_32 rfl <| At.sipush dX12_restore_33 (by decide) <| At.icmp_ge_f (tgt := 65) dX12_restore_36 (by decide) c6 <| ?_
      refine At.aloadn dX12_restore_39 rfl <| At.getR fl_X12_13 sh_130 (le149 sh_130) rf_130_1 dX12_restore_40 <| At.iloadn dX12_restore_43 rfl <| At.aloadn dX12_restore_44 rfl <| At.getR fl_X12_13 sh_130 (le149 sh_130) rf_130_1 dX12_restore_45 <| At.sipush dX12_restore_48 (by decide) <| At.iloadn dX12_restore_51 rfl <| At.iconst dX12_restore_52 (by decide) <| At.iadd dX12_restore_53 <| At.imul dX12_restore_54 <| At.iloadn dX12_restore_55 rfl <| At.iadd dX12_restore_56 <| ?_
      obtain ⟨v1, hv1, g2, h⟩ := rdA_e h
      refine At.iald sh_131 (le149 sh_131) g2.1 g2.2 dX12_restore_57 <| At.nm hv1 <| ?_
      obtain ⟨S3, hS3, g4, h⟩ := wrA_e h
      refine At.iast sh_131 (le149 sh_131) g4.1 g4.2 dX12_restore_58 <| At.nmS hS3 <| ?_
      obtain ⟨x5, hx5, h⟩ := lt_e h
      refine At.iinc (ls' := [(2, vi x5), (0, vr 130), (1, vi l1)]) dX12_restore_59 rfl (by decide) (by rw [hx5]; rfl) <| At.goto (tgt := 32) dX12_restore_62 (by decide) <| ?_
      exact At.sub [1, 2, 0] rfl (ih _ _ _ h K65)
set_option maxRecDepth 100000 in
set_option maxHeartbeats 4000000 in
theorem rX12_restore {G : GG} {p1 : Int} {S : SS} {rr : (Int × SS)} (h : fX12_restore p1 S = some rr) : RD G mX12_restore 2 [vr 130, vi p1] S (some (vi rr.1)) rr.2 := by
  unfold fX12_restore at h
  refine Runs.of pl_X12 (Nat.le_of_ble_eq_true rfl) ?_
  show At G mX12_restore 2 0 [(0, vr 130), (1, vi p1)] [] (mm S) 0 0 (EQ (some (vi rr.1)) rr.2)
  refine At.aloadn dX12_restore_0 rfl <| At.iconst dX12_restore_1 (by decide) <| ?_
  obtain ⟨S1, hS1, h⟩ := lt_e h
  refine At.putI fw_X12_1 sh_130 (le149 sh_130) dX12_restore_2 <| At.nmS hS1 <| At.iloadn dX12_restore_5 rfl <| At.i2l dX12_restore_6 <| At.lconst0 dX12_restore_7 <| At.lconst1 dX12_restore_8 <| ?_
  obtain ⟨q2, hq2, h⟩ := bnd_e h
  rcases ite_e h with ⟨c10, h⟩ | ⟨c10, h⟩
  · refine At.cS1 (av := [vl p1, vl 0, vl 1]) (rest := []) ms_X12_within lk_X12_142 dX12_restore_9 rfl rfl (Nat.le_of_ble_eq_true rfl) (by decide) ⟨rfl, rfl⟩ (rX12_within hq2) <| At.bifne_t (tgt := 18) dX12_restore_12 (by decide) c10 <| ?_
    refine At.aloadn dX12_restore_18 rfl <| At.getR fl_X12_17 sh_130 (le149 sh_130) rf_130_2 dX12_restore_19 <| At.iloadn dX12_restore_22 rfl <| ?_
    obtain ⟨v3, hv3, g4, h⟩ := rdA_e h
    rcases ite_e h with ⟨c9, h⟩ | ⟨c9, h⟩
    · refine At.zald sh_132 (le149 sh_132) g4.1 g4.2 dX12_restore_23 <| At.nm hv3 <| At.if_ne_f (tgt := 30) dX12_restore_24 (by decide) c9 <| ?_
      refine At.bipush dX12_restore_27 (by decide) <| ?_
      obtain rfl := Option.some.inj h
      exact At.iret rfl (Nat.zero_le _) (Nat.zero_le _) ⟨rfl, rfl⟩ dX12_restore_29
    · refine At.zald sh_132 (le149 sh_132) g4.1 g4.2 dX12_restore_23 <| At.nm hv3 <| At.if_ne_t (tgt := 30) dX12_restore_24 (by decide) c9 <| ?_
      refine At.iconst dX12_restore_30 (by decide) <| At.istoren (ls' := [(2, vi 0), (0, vr 130), (1, vi p1)]) dX12_restore_31 (by decide) rfl <| ?_
      obtain ⟨q5, ho6, h⟩ := bnd_e h
      refine At.sub [1, 2, 0] rfl (lX12_restore_L32 FU _ _ q5 ho6 ?_)
      refine At.aloadn dX12_restore_65 rfl <| At.getR fl_X12_13 sh_130 (le149 sh_130) rf_130_1 dX12_restore_66 <| At.bipush dX12_restore_69 (by decide) <| At.iconst dX12_restore_71 (by decide) <| ?_
      obtain ⟨S7, hS7, g8, h⟩ := wrA_e h
      refine At.iast sh_131 (le149 sh_131) g8.1 g8.2 dX12_restore_72 <| At.nmS hS7 <| At.iconst dX12_restore_73 (by decide) <| ?_
      obtain rfl := Option.some.inj h
      exact At.iret rfl (Nat.zero_le _) (Nat.zero_le _) ⟨rfl, rfl⟩ dX12_restore_74
  · refine At.cS1 (av := [vl p1, vl 0, vl 1]) (rest := []) ms_X12_within lk_X12_142 dX12_restore_9 rfl rfl (Nat.le_of_ble_eq_true rfl) (by decide) ⟨rfl, rfl⟩ (rX12_within hq2) <| At.bifne_f (tgt := 18) dX12_restore_12 (by decide) c10 <| ?_
    refine At.bipush dX12_restore_15 (by decide) <| ?_
    obtain rfl := Option.some.inj h
    exact At.iret rfl (Nat.zero_le _) (Nat.zero_le _) ⟨rfl, rfl⟩ dX12_restore_17
def fX12_count (p1 : Int) (S : SS) : Option (Int × SS) :=
  lt (up S 130 0 0) fun S1 =>
  if p1 = 0 then (
    rdA S1 131 3303 1 fun v3 =>
    some (v3, S1)
  ) else (
    if p1 = 1 then (
      rdA S1 131 3303 2 fun v6 =>
      some (v6, S1)
    ) else (
      if p1 = 2 then (
        rdA S1 131 3303 3 fun v9 =>
        some (v9, S1)
      ) else (
        if p1 = 3 then (
          rdA S1 131 3303 48 fun v12 =>
          some (v12, S1)
        ) else (
          if p1 = 4 then (
            Option.bind (fX12_shutNow  S1) fun q15 =>
            some (q15, S1)
          ) else (
            if p1 = 5 then (
              Option.bind (fX12_yearsAll  S1) fun q17 =>
              some (q17, S1)
            ) else (
              if p1 = 6 then (
                rdA S1 131 3303 49 fun v19 =>
                some (v19, S1)
              ) else (
                if p1 = 7 then (
                  some (S1 130 5, S1)
                ) else (
                  if p1 = 8 then (
                    rdA S1 131 3303 0 fun v23 =>
                    some (v23, S1)
                  ) else (
                    some ((-1), S1)
                  )
                )
              )
            )
          )
        )
      )
    )
  )
set_option maxRecDepth 100000 in
set_option maxHeartbeats 4000000 in
theorem rX12_count {G : GG} {p1 : Int} {S : SS} {rr : (Int × SS)} (h : fX12_count p1 S = some rr) : RD G mX12_count 2 [vr 130, vi p1] S (some (vi rr.1)) rr.2 := by
  unfold fX12_count at h
  refine Runs.of pl_X12 (Nat.le_of_ble_eq_true rfl) ?_
  show At G mX12_count 2 0 [(0, vr 130), (1, vi p1)] [] (mm S) 0 0 (EQ (some (vi rr.1)) rr.2)
  refine At.aloadn dX12_count_0 rfl <| At.iconst dX12_count_1 (by decide) <| ?_
  obtain ⟨S1, hS1, h⟩ := lt_e h
  rcases ite_e h with ⟨c2, h⟩ | ⟨c2, h⟩
  · refine At.putI fw_X12_1 sh_130 (le149 sh_130) dX12_count_2 <| At.nmS hS1 <| At.iloadn dX12_count_5 rfl <| At.tsIn (off := 50) (tgt := 56) dX12_count_6 (by omega) (by omega) (by rw [c2] <;> rfl) (by decide) <| ?_
    refine At.aloadn dX12_count_56 rfl <| At.getR fl_X12_13 sh_130 (le149 sh_130) rf_130_1 dX12_count_57 <| At.iconst dX12_count_60 (by decide) <| ?_
    obtain ⟨v3, hv3, g4, h⟩ := rdA_e h
    refine At.iald sh_131 (le149 sh_131) g4.1 g4.2 dX12_count_61 <| At.nm hv3 <| ?_
    obtain rfl := Option.some.inj h
    exact At.iret rfl (Nat.zero_le _) (Nat.zero_le _) ⟨rfl, rfl⟩ dX12_count_62
  · rcases ite_e h with ⟨c5, h⟩ | ⟨c5, h⟩
    · refine At.putI fw_X12_1 sh_130 (le149 sh_130) dX12_count_2 <| At.nmS hS1 <| At.iloadn dX12_count_5 rfl <| At.tsIn (off := 57) (tgt := 63) dX12_count_6 (by omega) (by omega) (by rw [c5] <;> rfl) (by decide) <| ?_
      refine At.aloadn dX12_count_63 rfl <| At.getR fl_X12_13 sh_130 (le149 sh_130) rf_130_1 dX12_count_64 <| At.iconst dX12_count_67 (by decide) <| ?_
      obtain ⟨v6, hv6, g7, h⟩ := rdA_e h
      refine At.iald sh_131 (le149 sh_131) g7.1 g7.2 dX12_count_68 <| At.nm hv6 <| ?_
      obtain rfl := Option.some.inj h
      exact At.iret rfl (Nat.zero_le _) (Nat.zero_le _) ⟨rfl, rfl⟩ dX12_count_69
    · rcases ite_e h with ⟨c8, h⟩ | ⟨c8, h⟩
      · refine At.putI fw_X12_1 sh_130 (le149 sh_130) dX12_count_2 <| At.nmS hS1 <| At.iloadn dX12_count_5 rfl <| At.tsIn (off := 64) (tgt := 70) dX12_count_6 (by omega) (by omega) (by rw [c8] <;> rfl) (by decide) <| ?_
        refine At.aloadn dX12_count_70 rfl <| At.getR fl_X12_13 sh_130 (le149 sh_130) rf_130_1 dX12_count_71 <| At.iconst dX12_count_74 (by decide) <| ?_
        obtain ⟨v9, hv9, g10, h⟩ := rdA_e h
        refine At.iald sh_131 (le149 sh_131) g10.1 g10.2 dX12_count_75 <| At.nm hv9 <| ?_
        obtain rfl := Option.some.inj h
        exact At.iret rfl (Nat.zero_le _) (Nat.zero_le _) ⟨rfl, rfl⟩ dX12_count_76
      · rcases ite_e h with ⟨c11, h⟩ | ⟨c11, h⟩
        · refine At.putI fw_X12_1 sh_130 (le149 sh_130) dX12_count_2 <| At.nmS hS1 <| At.iloadn dX12_count_5 rfl <| At.tsIn (off := 71) (tgt := 77) dX12_count_6 (by omega) (by omega) (by rw [c11] <;> rfl) (by decide) <| ?_
          refine At.aloadn dX12_count_77 rfl <| At.getR fl_X12_13 sh_130 (le149 sh_130) rf_130_1 dX12_count_78 <| At.bipush dX12_count_81 (by decide) <| ?_
          obtain ⟨v12, hv12, g13, h⟩ := rdA_e h
          refine At.iald sh_131 (le149 sh_131) g13.1 g13.2 dX12_count_83 <| At.nm hv12 <| ?_
          obtain rfl := Option.some.inj h
          exact At.iret rfl (Nat.zero_le _) (Nat.zero_le _) ⟨rfl, rfl⟩ dX12_count_84
        · rcases ite_e h with ⟨c14, h⟩ | ⟨c14, h⟩
          · refine At.putI fw_X12_1 sh_130 (le149 sh_130) dX12_count_2 <| At.nmS hS1 <| At.iloadn dX12_count_5 rfl <| At.tsIn (off := 79) (tgt := 85) dX12_count_6 (by omega) (by omega) (by rw [c14] <;> rfl) (by decide) <| ?_
            refine At.aloadn dX12_count_85 rfl <| ?_
            obtain ⟨q15, hq15, h⟩ := bnd_e h
            refine At.cV1 (av := []) (rest := []) mv_X12_shutNow lk_X12_384 dX12_count_86 rfl rfl sh_130 (Nat.le_of_ble_eq_true rfl) (by decide) ⟨rfl, rfl⟩ (rX12_shutNow hq15) <| ?_
            obtain rfl := Option.some.inj h
            exact At.iret rfl (Nat.zero_le _) (Nat.zero_le _) ⟨rfl, rfl⟩ dX12_count_89
          · rcases ite_e h with ⟨c16, h⟩ | ⟨c16, h⟩
            · refine At.putI fw_X12_1 sh_130 (le149 sh_130) dX12_count_2 <| At.nmS hS1 <| At.iloadn dX12_count_5 rfl <| At.tsIn (off := 84) (tgt := 90) dX12_count_6 (by omega) (by omega) (by rw [c16] <;> rfl) (by decide) <| ?_
              refine At.aloadn dX12_count_90 rfl <| ?_
              obtain ⟨q17, hq17, h⟩ := bnd_e h
              refine At.cV1 (av := []) (rest := []) mv_X12_yearsAll lk_X12_303 dX12_count_91 rfl rfl sh_130 (Nat.le_of_ble_eq_true rfl) (by decide) ⟨rfl, rfl⟩ (rX12_yearsAll hq17) <| ?_
              obtain rfl := Option.some.inj h
              exact At.iret rfl (Nat.zero_le _) (Nat.zero_le _) ⟨rfl, rfl⟩ dX12_count_94
            · rcases ite_e h with ⟨c18, h⟩ | ⟨c18, h⟩
              · refine At.putI fw_X12_1 sh_130 (le149 sh_130) dX12_count_2 <| At.nmS hS1 <| At.iloadn dX12_count_5 rfl <| At.tsIn (off := 89) (tgt := 95) dX12_count_6 (by omega) (by omega) (by rw [c18] <;> rfl) (by decide) <| ?_
                refine At.aloadn dX12_count_95 rfl <| At.getR fl_X12_13 sh_130 (le149 sh_130) rf_130_1 dX12_count_96 <| At.bipush dX12_count_99 (by decide) <| ?_
                obtain ⟨v19, hv19, g20, h⟩ := rdA_e h
                refine At.iald sh_131 (le149 sh_131) g20.1 g20.2 dX12_count_101 <| At.nm hv19 <| ?_
                obtain rfl := Option.some.inj h
                exact At.iret rfl (Nat.zero_le _) (Nat.zero_le _) ⟨rfl, rfl⟩ dX12_count_102
              · rcases ite_e h with ⟨c21, h⟩ | ⟨c21, h⟩
                · refine At.putI fw_X12_1 sh_130 (le149 sh_130) dX12_count_2 <| At.nmS hS1 <| At.iloadn dX12_count_5 rfl <| At.tsIn (off := 97) (tgt := 103) dX12_count_6 (by omega) (by omega) (by rw [c21] <;> rfl) (by decide) <| ?_
                  refine At.aloadn dX12_count_103 rfl <| At.getI fl_X12_80 sh_130 (le149 sh_130) dX12_count_104 <| ?_
                  obtain rfl := Option.some.inj h
                  exact At.iret rfl (Nat.zero_le _) (Nat.zero_le _) ⟨rfl, rfl⟩ dX12_count_107
                · rcases ite_e h with ⟨c22, h⟩ | ⟨c22, h⟩
                  · refine At.putI fw_X12_1 sh_130 (le149 sh_130) dX12_count_2 <| At.nmS hS1 <| At.iloadn dX12_count_5 rfl <| At.tsIn (off := 102) (tgt := 108) dX12_count_6 (by omega) (by omega) (by rw [c22] <;> rfl) (by decide) <| ?_
                    refine At.aloadn dX12_count_108 rfl <| At.getR fl_X12_13 sh_130 (le149 sh_130) rf_130_1 dX12_count_109 <| At.iconst dX12_count_112 (by decide) <| ?_
                    obtain ⟨v23, hv23, g24, h⟩ := rdA_e h
                    refine At.iald sh_131 (le149 sh_131) g24.1 g24.2 dX12_count_113 <| At.nm hv23 <| ?_
                    obtain rfl := Option.some.inj h
                    exact At.iret rfl (Nat.zero_le _) (Nat.zero_le _) ⟨rfl, rfl⟩ dX12_count_114
                  · have hz : (p1 < 0 ∨ 8 < p1) := by omega
                    refine At.putI fw_X12_1 sh_130 (le149 sh_130) dX12_count_2 <| At.nmS hS1 <| At.iloadn dX12_count_5 rfl <| At.tsOut (tgt := 115) dX12_count_6 hz (by decide) <| ?_
                    refine At.iconst dX12_count_115 (by decide) <| ?_
                    obtain rfl := Option.some.inj h
                    exact At.iret rfl (Nat.zero_le _) (Nat.zero_le _) ⟨rfl, rfl⟩ dX12_count_116
def fX12_plain_3303_L2 (l0 : Nat) : Nat → Int → SS → Option (SS)
  | 0, _, _ => none
  | n + 1, l1, S =>
    if 1101 ≤ l1 then (
      some S
    ) else (
      wrA S l0 3303 l1 0 fun S1 =>
      lt (w32 (l1 + 1)) fun x3 =>
      fX12_plain_3303_L2 l0 n x3 S1
    )
def fX12_plain_3303 (p0 : Nat) (S : SS) : Option SS :=
  Option.bind (fX12_plain_3303_L2 p0 FU 0 S) fun q1 =>
  wrA q1 p0 3303 1 1 fun S3 =>
  some S3
set_option maxRecDepth 100000 in
set_option maxHeartbeats 4000000 in
theorem lX12_plain_3303_L2 {G : GG} {Φ : Option VV → MM → Prop} {l0 : Nat} (hl0 : sh l0 = (20, 3303)) : ∀ (n : Nat) (l1 : Int) (S : SS) (q : SS), fX12_plain_3303_L2 l0 n l1 S = some q → At G mX12_plain 1 19 [(0, vr l0)] [] (mm q) 0 0 Φ → At G mX12_plain 1 2 [(0, vr l0), (1, vi l1)] [] (mm S) 0 0 Φ := by
  intro n
  induction n with
  | zero =>
    intro _ _ _ h
    cases h
  | succ n ih =>
    intro l1 S q h K19
    unfold fX12_plain_3303_L2 at h
    rcases ite_e h with ⟨c4, h⟩ | ⟨c4, h⟩
    · refine At.iloadn dX12_plain_2 rfl <| At.sipush dX12_plain_3 (by decide) <| At.icmp_ge_t (tgt := 19) dX12_plain_6 (by decide) c4 <| ?_
      obtain rfl := Option.some.inj h
      exact At.sub [0] rfl K19
    · refine At.iloadn dX12_plain_2 rfl <| At.sipush dX12_plain_3 (by decide) <| At.icmp_ge_f (tgt := 19) dX12_plain_6 (by decide) c4 <| ?_
      refine At.aloadn dX12_plain_9 rfl <| At.iloadn dX12_plain_10 rfl <| At.iconst dX12_plain_11 (by decide) <| ?_
      obtain ⟨S1, hS1, g2, h⟩ := wrA_e h
      refine At.iast hl0 (le149 hl0) g2.1 g2.2 dX12_plain_12 <| At.nmS hS1 <| ?_
      obtain ⟨x3, hx3, h⟩ := lt_e h
      refine At.iinc (ls' := [(1, vi x3), (0, vr l0)]) dX12_plain_13 rfl (by decide) (by rw [hx3]; rfl) <| At.goto (tgt := 2) dX12_plain_16 (by decide) <| ?_
      exact At.sub [1, 0] rfl (ih _ _ _ h K19)
set_option maxRecDepth 100000 in
set_option maxHeartbeats 4000000 in
theorem rX12_plain_3303 {G : GG} {p0 : Nat} {S : SS} {rr : SS} (hp0 : sh p0 = (20, 3303)) (h : fX12_plain_3303 p0 S = some rr) : RD G mX12_plain 1 [vr p0] S none rr := by
  unfold fX12_plain_3303 at h
  refine Runs.of pl_X12 (Nat.le_of_ble_eq_true rfl) ?_
  show At G mX12_plain 1 0 [(0, vr p0)] [] (mm S) 0 0 (EQ none rr)
  refine At.iconst dX12_plain_0 (by decide) <| At.istoren (ls' := [(1, vi 0), (0, vr p0)]) dX12_plain_1 (by decide) rfl <| ?_
  obtain ⟨q1, ho2, h⟩ := bnd_e h
  refine At.sub [1, 0] rfl (lX12_plain_3303_L2 hp0 FU _ _ q1 ho2 ?_)
  refine At.aloadn dX12_plain_19 rfl <| At.iconst dX12_plain_20 (by decide) <| At.iconst dX12_plain_21 (by decide) <| ?_
  obtain ⟨S3, hS3, g4, h⟩ := wrA_e h
  refine At.iast hp0 (le149 hp0) g4.1 g4.2 dX12_plain_22 <| At.nmS hS3 <| ?_
  obtain rfl := Option.some.inj h
  exact At.vret rfl (Nat.zero_le _) (Nat.zero_le _) ⟨rfl, rfl⟩ dX12_plain_23
