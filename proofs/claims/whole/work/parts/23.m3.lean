def fX12_wordOf (p1 : Int) (S : SS) : Option Int :=
  if p1 = 1 then (
    some 0
  ) else (
    if p1 = 2 then (
      some 1
    ) else (
      if p1 = 5 then (
        if (S 130 15) = 1 then (
          some 5
        ) else (
          some ((-1))
        )
      ) else (
        if p1 = 6 then (
          some 2
        ) else (
          if p1 = 7 then (
            some 4
          ) else (
            if p1 = 14 then (
              some 3
            ) else (
              some ((-1))
            )
          )
        )
      )
    )
  )
set_option maxRecDepth 100000 in
set_option maxHeartbeats 4000000 in
theorem rX12_wordOf {G : GG} {p1 : Int} {S : SS} {rr : Int} (h : fX12_wordOf p1 S = some rr) : RD G mX12_wordOf 1 [vr 130, vi p1] S (some (vi rr)) S := by
  unfold fX12_wordOf at h
  refine Runs.of pl_X12 (Nat.le_of_ble_eq_true rfl) ?_
  show At G mX12_wordOf 1 0 [(0, vr 130), (1, vi p1)] [] (mm S) 0 0 (EQ (some (vi rr)) S)
  rcases ite_e h with ⟨c1, h⟩ | ⟨c1, h⟩
  · refine At.iloadn dX12_wordOf_0 rfl <| At.tsIn (off := 71) (tgt := 72) dX12_wordOf_1 (by omega) (by omega) (by rw [c1] <;> rfl) (by decide) <| ?_
    refine At.iconst dX12_wordOf_72 (by decide) <| ?_
    obtain rfl := Option.some.inj h
    exact At.iret rfl (Nat.zero_le _) (Nat.zero_le _) ⟨rfl, rfl⟩ dX12_wordOf_73
  · rcases ite_e h with ⟨c2, h⟩ | ⟨c2, h⟩
    · refine At.iloadn dX12_wordOf_0 rfl <| At.tsIn (off := 73) (tgt := 74) dX12_wordOf_1 (by omega) (by omega) (by rw [c2] <;> rfl) (by decide) <| ?_
      refine At.iconst dX12_wordOf_74 (by decide) <| ?_
      obtain rfl := Option.some.inj h
      exact At.iret rfl (Nat.zero_le _) (Nat.zero_le _) ⟨rfl, rfl⟩ dX12_wordOf_75
    · rcases ite_e h with ⟨c3, h⟩ | ⟨c3, h⟩
      · refine At.iloadn dX12_wordOf_0 rfl <| At.tsIn (off := 81) (tgt := 82) dX12_wordOf_1 (by omega) (by omega) (by rw [c3] <;> rfl) (by decide) <| ?_
        rcases ite_e h with ⟨c4, h⟩ | ⟨c4, h⟩
        · refine At.aloadn dX12_wordOf_82 rfl <| At.getI fl_X12_146 sh_130 (le149 sh_130) dX12_wordOf_83 <| At.iconst dX12_wordOf_86 (by decide) <| At.icmp_ne_f (tgt := 94) dX12_wordOf_87 (by decide) c4 <| ?_
          refine At.iconst dX12_wordOf_90 (by decide) <| At.goto (tgt := 95) dX12_wordOf_91 (by decide) <| ?_
          obtain rfl := Option.some.inj h
          exact At.iret rfl (Nat.zero_le _) (Nat.zero_le _) ⟨rfl, rfl⟩ dX12_wordOf_95
        · refine At.aloadn dX12_wordOf_82 rfl <| At.getI fl_X12_146 sh_130 (le149 sh_130) dX12_wordOf_83 <| At.iconst dX12_wordOf_86 (by decide) <| At.icmp_ne_t (tgt := 94) dX12_wordOf_87 (by decide) c4 <| ?_
          refine At.iconst dX12_wordOf_94 (by decide) <| ?_
          obtain rfl := Option.some.inj h
          exact At.iret rfl (Nat.zero_le _) (Nat.zero_le _) ⟨rfl, rfl⟩ dX12_wordOf_95
      · rcases ite_e h with ⟨c5, h⟩ | ⟨c5, h⟩
        · refine At.iloadn dX12_wordOf_0 rfl <| At.tsIn (off := 75) (tgt := 76) dX12_wordOf_1 (by omega) (by omega) (by rw [c5] <;> rfl) (by decide) <| ?_
          refine At.iconst dX12_wordOf_76 (by decide) <| ?_
          obtain rfl := Option.some.inj h
          exact At.iret rfl (Nat.zero_le _) (Nat.zero_le _) ⟨rfl, rfl⟩ dX12_wordOf_77
        · rcases ite_e h with ⟨c6, h⟩ | ⟨c6, h⟩
          · refine At.iloadn dX12_wordOf_0 rfl <| At.tsIn (off := 79) (tgt := 80) dX12_wordOf_1 (by omega) (by omega) (by rw [c6] <;> rfl) (by decide) <| ?_
            refine At.iconst dX12_wordOf_80 (by decide) <| ?_
            obtain rfl := Option.some.inj h
            exact At.iret rfl (Nat.zero_le _) (Nat.zero_le _) ⟨rfl, rfl⟩ dX12_wordOf_81
          · rcases ite_e h with ⟨c7, h⟩ | ⟨c7, h⟩
            · refine At.iloadn dX12_wordOf_0 rfl <| At.tsIn (off := 77) (tgt := 78) dX12_wordOf_1 (by omega) (by omega) (by rw [c7] <;> rfl) (by decide) <| ?_
              refine At.iconst dX12_wordOf_78 (by decide) <| ?_
              obtain rfl := Option.some.inj h
              exact At.iret rfl (Nat.zero_le _) (Nat.zero_le _) ⟨rfl, rfl⟩ dX12_wordOf_79
            · rcases (show (p1 < 1 ∨ 14 < p1) ∨ p1 = 3 ∨ p1 = 4 ∨ p1 = 8 ∨ p1 = 9 ∨ p1 = 10 ∨ p1 = 11 ∨ p1 = 12 ∨ p1 = 13 by omega) with hz | hz | hz | hz | hz | hz | hz | hz | hz
              · refine At.iloadn dX12_wordOf_0 rfl <| At.tsOut (tgt := 96) dX12_wordOf_1 hz (by decide) <| ?_
                refine At.iconst dX12_wordOf_96 (by decide) <| ?_
                obtain rfl := Option.some.inj h
                exact At.iret rfl (Nat.zero_le _) (Nat.zero_le _) ⟨rfl, rfl⟩ dX12_wordOf_97
              · refine At.iloadn dX12_wordOf_0 rfl <| At.tsIn (off := 95) (tgt := 96) dX12_wordOf_1 (by omega) (by omega) (by rw [hz] <;> rfl) (by decide) <| ?_
                refine At.iconst dX12_wordOf_96 (by decide) <| ?_
                obtain rfl := Option.some.inj h
                exact At.iret rfl (Nat.zero_le _) (Nat.zero_le _) ⟨rfl, rfl⟩ dX12_wordOf_97
              · refine At.iloadn dX12_wordOf_0 rfl <| At.tsIn (off := 95) (tgt := 96) dX12_wordOf_1 (by omega) (by omega) (by rw [hz] <;> rfl) (by decide) <| ?_
                refine At.iconst dX12_wordOf_96 (by decide) <| ?_
                obtain rfl := Option.some.inj h
                exact At.iret rfl (Nat.zero_le _) (Nat.zero_le _) ⟨rfl, rfl⟩ dX12_wordOf_97
              · refine At.iloadn dX12_wordOf_0 rfl <| At.tsIn (off := 95) (tgt := 96) dX12_wordOf_1 (by omega) (by omega) (by rw [hz] <;> rfl) (by decide) <| ?_
                refine At.iconst dX12_wordOf_96 (by decide) <| ?_
                obtain rfl := Option.some.inj h
                exact At.iret rfl (Nat.zero_le _) (Nat.zero_le _) ⟨rfl, rfl⟩ dX12_wordOf_97
              · refine At.iloadn dX12_wordOf_0 rfl <| At.tsIn (off := 95) (tgt := 96) dX12_wordOf_1 (by omega) (by omega) (by rw [hz] <;> rfl) (by decide) <| ?_
                refine At.iconst dX12_wordOf_96 (by decide) <| ?_
                obtain rfl := Option.some.inj h
                exact At.iret rfl (Nat.zero_le _) (Nat.zero_le _) ⟨rfl, rfl⟩ dX12_wordOf_97
              · refine At.iloadn dX12_wordOf_0 rfl <| At.tsIn (off := 95) (tgt := 96) dX12_wordOf_1 (by omega) (by omega) (by rw [hz] <;> rfl) (by decide) <| ?_
                refine At.iconst dX12_wordOf_96 (by decide) <| ?_
                obtain rfl := Option.some.inj h
                exact At.iret rfl (Nat.zero_le _) (Nat.zero_le _) ⟨rfl, rfl⟩ dX12_wordOf_97
              · refine At.iloadn dX12_wordOf_0 rfl <| At.tsIn (off := 95) (tgt := 96) dX12_wordOf_1 (by omega) (by omega) (by rw [hz] <;> rfl) (by decide) <| ?_
                refine At.iconst dX12_wordOf_96 (by decide) <| ?_
                obtain rfl := Option.some.inj h
                exact At.iret rfl (Nat.zero_le _) (Nat.zero_le _) ⟨rfl, rfl⟩ dX12_wordOf_97
              · refine At.iloadn dX12_wordOf_0 rfl <| At.tsIn (off := 95) (tgt := 96) dX12_wordOf_1 (by omega) (by omega) (by rw [hz] <;> rfl) (by decide) <| ?_
                refine At.iconst dX12_wordOf_96 (by decide) <| ?_
                obtain rfl := Option.some.inj h
                exact At.iret rfl (Nat.zero_le _) (Nat.zero_le _) ⟨rfl, rfl⟩ dX12_wordOf_97
              · refine At.iloadn dX12_wordOf_0 rfl <| At.tsIn (off := 95) (tgt := 96) dX12_wordOf_1 (by omega) (by omega) (by rw [hz] <;> rfl) (by decide) <| ?_
                refine At.iconst dX12_wordOf_96 (by decide) <| ?_
                obtain rfl := Option.some.inj h
                exact At.iret rfl (Nat.zero_le _) (Nat.zero_le _) ⟨rfl, rfl⟩ dX12_wordOf_97
def fX12_codes (p1 : Int) (S : SS) : Option SS :=
  if (S 130 11) = 0 then (
    rdA S 134 1101 200 fun v1 =>
    wrA S 134 1101 (w32 (201 + v1)) p1 fun S3 =>
    rdA S3 134 1101 200 fun v5 =>
    wrA S3 134 1101 200 (w32 (v5 + 1)) fun S7 =>
    some S7
  ) else (
    some S
  )
set_option maxRecDepth 100000 in
set_option maxHeartbeats 4000000 in
theorem rX12_codes {G : GG} {p1 : Int} {S : SS} {rr : SS} (h : fX12_codes p1 S = some rr) : RD G mX12_codes 1 [vr 130, vi p1] S none rr := by
  unfold fX12_codes at h
  refine Runs.of pl_X12 (Nat.le_of_ble_eq_true rfl) ?_
  show At G mX12_codes 1 0 [(0, vr 130), (1, vi p1)] [] (mm S) 0 0 (EQ none rr)
  rcases ite_e h with ⟨c9, h⟩ | ⟨c9, h⟩
  · refine At.aloadn dX12_codes_0 rfl <| At.getI fl_X12_126 sh_130 (le149 sh_130) dX12_codes_1 <| At.if_eq_t (tgt := 8) dX12_codes_4 (by decide) c9 <| ?_
    refine At.aloadn dX12_codes_8 rfl <| At.getR fl_X12_24 sh_130 (le149 sh_130) rf_130_4 dX12_codes_9 <| At.sipush dX12_codes_12 (by decide) <| At.aloadn dX12_codes_15 rfl <| At.getR fl_X12_24 sh_130 (le149 sh_130) rf_130_4 dX12_codes_16 <| At.sipush dX12_codes_19 (by decide) <| ?_
    obtain ⟨v1, hv1, g2, h⟩ := rdA_e h
    refine At.iald sh_134 (le149 sh_134) g2.1 g2.2 dX12_codes_22 <| At.nm hv1 <| At.iadd dX12_codes_23 <| At.iloadn dX12_codes_24 rfl <| ?_
    obtain ⟨S3, hS3, g4, h⟩ := wrA_e h
    refine At.iast sh_134 (le149 sh_134) g4.1 g4.2 dX12_codes_25 <| At.nmS hS3 <| At.aloadn dX12_codes_26 rfl <| At.getR fl_X12_24 sh_130 (le149 sh_130) rf_130_4 dX12_codes_27 <| At.sipush dX12_codes_30 (by decide) <| At.dup2 rfl rfl dX12_codes_33 <| ?_
    obtain ⟨v5, hv5, g6, h⟩ := rdA_e h
    refine At.iald sh_134 (le149 sh_134) g6.1 g6.2 dX12_codes_34 <| At.nm hv5 <| At.iconst dX12_codes_35 (by decide) <| At.iadd dX12_codes_36 <| ?_
    obtain ⟨S7, hS7, g8, h⟩ := wrA_e h
    refine At.iast sh_134 (le149 sh_134) g8.1 g8.2 dX12_codes_37 <| At.nmS hS7 <| ?_
    obtain rfl := Option.some.inj h
    exact At.vret rfl (Nat.zero_le _) (Nat.zero_le _) ⟨rfl, rfl⟩ dX12_codes_38
  · refine At.aloadn dX12_codes_0 rfl <| At.getI fl_X12_126 sh_130 (le149 sh_130) dX12_codes_1 <| At.if_eq_f (tgt := 8) dX12_codes_4 (by decide) c9 <| ?_
    obtain rfl := Option.some.inj h
    exact At.vret rfl (Nat.zero_le _) (Nat.zero_le _) ⟨rfl, rfl⟩ dX12_codes_7
def fX12_plain_1101_L2 (l0 : Nat) : Nat → Int → SS → Option (SS)
  | 0, _, _ => none
  | n + 1, l1, S =>
    if 1101 ≤ l1 then (
      some S
    ) else (
      wrA S l0 1101 l1 0 fun S1 =>
      lt (w32 (l1 + 1)) fun x3 =>
      fX12_plain_1101_L2 l0 n x3 S1
    )
def fX12_plain_1101 (p0 : Nat) (S : SS) : Option SS :=
  Option.bind (fX12_plain_1101_L2 p0 FU 0 S) fun q1 =>
  wrA q1 p0 1101 1 1 fun S3 =>
  some S3
set_option maxRecDepth 100000 in
set_option maxHeartbeats 4000000 in
theorem lX12_plain_1101_L2 {G : GG} {Φ : Option VV → MM → Prop} {l0 : Nat} (hl0 : sh l0 = (20, 1101)) : ∀ (n : Nat) (l1 : Int) (S : SS) (q : SS), fX12_plain_1101_L2 l0 n l1 S = some q → At G mX12_plain 1 19 [(0, vr l0)] [] (mm q) 0 0 Φ → At G mX12_plain 1 2 [(0, vr l0), (1, vi l1)] [] (mm S) 0 0 Φ := by
  intro n
  induction n with
  | zero =>
    intro _ _ _ h
    cases h
  | succ n ih =>
    intro l1 S q h K19
    unfold fX12_plain_1101_L2 at h
    rcases ite_e h with ⟨c4, h⟩ | ⟨c4, h⟩
    · refine At.iloadn dX12_plain_2 rfl <| At.sipush dX12_plain_3 (by decide) <| At.icmp_ge_t (tgt := 19) dX12_plain_6 (by decide) c4 <| ?_
      obtain rfl := Option.some.inj h
      exact At.sub [0] rfl K19
    · refine At.iloadn dX12_plain_2 rfl <| At.sipush dX12_plain_3 (by decide) <| At.icmp_ge_f (tgt := 19) dX12_plain_6 (by decide) c4 <| ?_
      refine At.aloadn dX12_plain_9 rfl <| At.iloadn dX12_plain_10 rfl <| At.iconst dX12_plain_11 (by decide) <| ?_
      obtain ⟨S1, hS1, g2, h⟩ := wrA_e h
      refine At.iast hl0 (le149 hl0) g2.1 g2.2 dX12_plain_12 <| At.nmS hS1 <| ?_
      obtain ⟨x3, hx3, h⟩ := lt_e h
      refine At.iinc (ls' := [(1, vi x3), (0, vr l0)]) dX12_plain_13 rfl (by decide) (by rw [hx3]; rfl) <| At.goto (tgt := 2) dX12_plain_16 (by decide) <| ?_
      exact At.sub [1, 0] rfl (ih _ _ _ h K19)
set_option maxRecDepth 100000 in
set_option maxHeartbeats 4000000 in
theorem rX12_plain_1101 {G : GG} {p0 : Nat} {S : SS} {rr : SS} (hp0 : sh p0 = (20, 1101)) (h : fX12_plain_1101 p0 S = some rr) : RD G mX12_plain 1 [vr p0] S none rr := by
  unfold fX12_plain_1101 at h
  refine Runs.of pl_X12 (Nat.le_of_ble_eq_true rfl) ?_
  show At G mX12_plain 1 0 [(0, vr p0)] [] (mm S) 0 0 (EQ none rr)
  refine At.iconst dX12_plain_0 (by decide) <| At.istoren (ls' := [(1, vi 0), (0, vr p0)]) dX12_plain_1 (by decide) rfl <| ?_
  obtain ⟨q1, ho2, h⟩ := bnd_e h
  refine At.sub [1, 0] rfl (lX12_plain_1101_L2 hp0 FU _ _ q1 ho2 ?_)
  refine At.aloadn dX12_plain_19 rfl <| At.iconst dX12_plain_20 (by decide) <| At.iconst dX12_plain_21 (by decide) <| ?_
  obtain ⟨S3, hS3, g4, h⟩ := wrA_e h
  refine At.iast hp0 (le149 hp0) g4.1 g4.2 dX12_plain_22 <| At.nmS hS3 <| ?_
  obtain rfl := Option.some.inj h
  exact At.vret rfl (Nat.zero_le _) (Nat.zero_le _) ⟨rfl, rfl⟩ dX12_plain_23
def fX12_fault (p1 : Int) (S : SS) : Option (Int × SS) :=
  lt (up S 130 0 0) fun S1 =>
  if p1 = 0 then (
    some (S1 130 13, S1)
  ) else (
    if p1 = 1 then (
      some (S1 130 14, S1)
    ) else (
      some ((-1), S1)
    )
  )
set_option maxRecDepth 100000 in
set_option maxHeartbeats 4000000 in
theorem rX12_fault {G : GG} {p1 : Int} {S : SS} {rr : (Int × SS)} (h : fX12_fault p1 S = some rr) : RD G mX12_fault 1 [vr 130, vi p1] S (some (vi rr.1)) rr.2 := by
  unfold fX12_fault at h
  refine Runs.of pl_X12 (Nat.le_of_ble_eq_true rfl) ?_
  show At G mX12_fault 1 0 [(0, vr 130), (1, vi p1)] [] (mm S) 0 0 (EQ (some (vi rr.1)) rr.2)
  refine At.aloadn dX12_fault_0 rfl <| At.iconst dX12_fault_1 (by decide) <| ?_
  obtain ⟨S1, hS1, h⟩ := lt_e h
  rcases ite_e h with ⟨c3, h⟩ | ⟨c3, h⟩
  · refine At.putI fw_X12_1 sh_130 (le149 sh_130) dX12_fault_2 <| At.nmS hS1 <| At.iloadn dX12_fault_5 rfl <| At.if_ne_f (tgt := 16) dX12_fault_6 (by decide) c3 <| ?_
    refine At.aloadn dX12_fault_9 rfl <| At.getI fl_X12_204 sh_130 (le149 sh_130) dX12_fault_10 <| At.goto (tgt := 29) dX12_fault_13 (by decide) <| ?_
    obtain rfl := Option.some.inj h
    exact At.iret rfl (Nat.zero_le _) (Nat.zero_le _) ⟨rfl, rfl⟩ dX12_fault_29
  · refine At.putI fw_X12_1 sh_130 (le149 sh_130) dX12_fault_2 <| At.nmS hS1 <| At.iloadn dX12_fault_5 rfl <| At.if_ne_t (tgt := 16) dX12_fault_6 (by decide) c3 <| ?_
    rcases ite_e h with ⟨c2, h⟩ | ⟨c2, h⟩
    · refine At.iloadn dX12_fault_16 rfl <| At.iconst dX12_fault_17 (by decide) <| At.icmp_ne_f (tgt := 28) dX12_fault_18 (by decide) c2 <| ?_
      refine At.aloadn dX12_fault_21 rfl <| At.getI fl_X12_27 sh_130 (le149 sh_130) dX12_fault_22 <| At.goto (tgt := 29) dX12_fault_25 (by decide) <| ?_
      obtain rfl := Option.some.inj h
      exact At.iret rfl (Nat.zero_le _) (Nat.zero_le _) ⟨rfl, rfl⟩ dX12_fault_29
    · refine At.iloadn dX12_fault_16 rfl <| At.iconst dX12_fault_17 (by decide) <| At.icmp_ne_t (tgt := 28) dX12_fault_18 (by decide) c2 <| ?_
      refine At.iconst dX12_fault_28 (by decide) <| ?_
      obtain rfl := Option.some.inj h
      exact At.iret rfl (Nat.zero_le _) (Nat.zero_le _) ⟨rfl, rfl⟩ dX12_fault_29
def fX12_isCorner (p1 : Int) (S : SS) : Option Bool :=
  rdA S 131 3303 1 fun v1 =>
  Option.bind (fX12_within p1 0 (w32 (v1 - 1))) fun q3 =>
  some q3
set_option maxRecDepth 100000 in
set_option maxHeartbeats 4000000 in
theorem rX12_isCorner {G : GG} {p1 : Int} {S : SS} {rr : Bool} (h : fX12_isCorner p1 S = some rr) : RD G mX12_isCorner 2 [vr 130, vl p1] S (some (vi (bI rr))) S := by
  unfold fX12_isCorner at h
  refine Runs.of pl_X12 (Nat.le_of_ble_eq_true rfl) ?_
  show At G mX12_isCorner 2 0 [(0, vr 130), (1, vl p1)] [] (mm S) 0 0 (EQ (some (vi (bI rr))) S)
  refine At.lloadn dX12_isCorner_0 rfl <| At.lconst0 dX12_isCorner_1 <| At.aloadn dX12_isCorner_2 rfl <| At.getR fl_X12_13 sh_130 (le149 sh_130) rf_130_1 dX12_isCorner_3 <| At.iconst dX12_isCorner_6 (by decide) <| ?_
  obtain ⟨v1, hv1, g2, h⟩ := rdA_e h
  refine At.iald sh_131 (le149 sh_131) g2.1 g2.2 dX12_isCorner_7 <| At.nm hv1 <| At.iconst dX12_isCorner_8 (by decide) <| At.isub dX12_isCorner_9 <| At.i2l dX12_isCorner_10 <| ?_
  obtain ⟨q3, hq3, h⟩ := bnd_e h
  refine At.cS1 (av := [vl p1, vl 0, vl (w32 (v1 - 1))]) (rest := []) ms_X12_within lk_X12_142 dX12_isCorner_11 rfl rfl (Nat.le_of_ble_eq_true rfl) (by decide) ⟨rfl, rfl⟩ (rX12_within hq3) <| ?_
  obtain rfl := Option.some.inj h
  exact At.zret (b := q3) rfl (Nat.zero_le _) (Nat.zero_le _) ⟨rfl, rfl⟩ dX12_isCorner_14
def fX12_isStreet (p1 : Int) (S : SS) : Option Bool :=
  rdA S 131 3303 2 fun v1 =>
  Option.bind (fX12_within p1 0 (w32 (v1 - 1))) fun q3 =>
  some q3
set_option maxRecDepth 100000 in
set_option maxHeartbeats 4000000 in
theorem rX12_isStreet {G : GG} {p1 : Int} {S : SS} {rr : Bool} (h : fX12_isStreet p1 S = some rr) : RD G mX12_isStreet 2 [vr 130, vl p1] S (some (vi (bI rr))) S := by
  unfold fX12_isStreet at h
  refine Runs.of pl_X12 (Nat.le_of_ble_eq_true rfl) ?_
  show At G mX12_isStreet 2 0 [(0, vr 130), (1, vl p1)] [] (mm S) 0 0 (EQ (some (vi (bI rr))) S)
  refine At.lloadn dX12_isStreet_0 rfl <| At.lconst0 dX12_isStreet_1 <| At.aloadn dX12_isStreet_2 rfl <| At.getR fl_X12_13 sh_130 (le149 sh_130) rf_130_1 dX12_isStreet_3 <| At.iconst dX12_isStreet_6 (by decide) <| ?_
  obtain ⟨v1, hv1, g2, h⟩ := rdA_e h
  refine At.iald sh_131 (le149 sh_131) g2.1 g2.2 dX12_isStreet_7 <| At.nm hv1 <| At.iconst dX12_isStreet_8 (by decide) <| At.isub dX12_isStreet_9 <| At.i2l dX12_isStreet_10 <| ?_
  obtain ⟨q3, hq3, h⟩ := bnd_e h
  refine At.cS1 (av := [vl p1, vl 0, vl (w32 (v1 - 1))]) (rest := []) ms_X12_within lk_X12_142 dX12_isStreet_11 rfl rfl (Nat.le_of_ble_eq_true rfl) (by decide) ⟨rfl, rfl⟩ (rX12_within hq3) <| ?_
  obtain rfl := Option.some.inj h
  exact At.zret (b := q3) rfl (Nat.zero_le _) (Nat.zero_le _) ⟨rfl, rfl⟩ dX12_isStreet_14
def fX12_isGoer (p1 : Int) (S : SS) : Option Bool :=
  rdA S 131 3303 3 fun v1 =>
  Option.bind (fX12_within p1 0 (w32 (v1 - 1))) fun q3 =>
  some q3
set_option maxRecDepth 100000 in
set_option maxHeartbeats 4000000 in
theorem rX12_isGoer {G : GG} {p1 : Int} {S : SS} {rr : Bool} (h : fX12_isGoer p1 S = some rr) : RD G mX12_isGoer 2 [vr 130, vl p1] S (some (vi (bI rr))) S := by
  unfold fX12_isGoer at h
  refine Runs.of pl_X12 (Nat.le_of_ble_eq_true rfl) ?_
  show At G mX12_isGoer 2 0 [(0, vr 130), (1, vl p1)] [] (mm S) 0 0 (EQ (some (vi (bI rr))) S)
  refine At.lloadn dX12_isGoer_0 rfl <| At.lconst0 dX12_isGoer_1 <| At.aloadn dX12_isGoer_2 rfl <| At.getR fl_X12_13 sh_130 (le149 sh_130) rf_130_1 dX12_isGoer_3 <| At.iconst dX12_isGoer_6 (by decide) <| ?_
  obtain ⟨v1, hv1, g2, h⟩ := rdA_e h
  refine At.iald sh_131 (le149 sh_131) g2.1 g2.2 dX12_isGoer_7 <| At.nm hv1 <| At.iconst dX12_isGoer_8 (by decide) <| At.isub dX12_isGoer_9 <| At.i2l dX12_isGoer_10 <| ?_
  obtain ⟨q3, hq3, h⟩ := bnd_e h
  refine At.cS1 (av := [vl p1, vl 0, vl (w32 (v1 - 1))]) (rest := []) ms_X12_within lk_X12_142 dX12_isGoer_11 rfl rfl (Nat.le_of_ble_eq_true rfl) (by decide) ⟨rfl, rfl⟩ (rX12_within hq3) <| ?_
  obtain rfl := Option.some.inj h
  exact At.zret (b := q3) rfl (Nat.zero_le _) (Nat.zero_le _) ⟨rfl, rfl⟩ dX12_isGoer_14
def fX12_isYear (p0 : Int) : Option Bool :=
  Option.bind (fX12_within p0 0 19) fun q1 =>
  some q1
set_option maxRecDepth 100000 in
set_option maxHeartbeats 4000000 in
theorem rX12_isYear {G : GG} {p0 : Int} {S : SS} {rr : Bool} (h : fX12_isYear p0 = some rr) : RD G mX12_isYear 2 [vl p0] S (some (vi (bI rr))) S := by
  unfold fX12_isYear at h
  refine Runs.of pl_X12 (Nat.le_of_ble_eq_true rfl) ?_
  show At G mX12_isYear 2 0 [(0, vl p0)] [] (mm S) 0 0 (EQ (some (vi (bI rr))) S)
  refine At.lloadn dX12_isYear_0 rfl <| At.lconst0 dX12_isYear_1 <| At.ldc2 dX12_isYear_2 kl_X12_207 (by decide) <| ?_
  obtain ⟨q1, hq1, h⟩ := bnd_e h
  refine At.cS1 (av := [vl p0, vl 0, vl 19]) (rest := []) ms_X12_within lk_X12_142 dX12_isYear_5 rfl rfl (Nat.le_of_ble_eq_true rfl) (by decide) ⟨rfl, rfl⟩ (rX12_within hq1) <| ?_
  obtain rfl := Option.some.inj h
  exact At.zret (b := q1) rfl (Nat.zero_le _) (Nat.zero_le _) ⟨rfl, rfl⟩ dX12_isYear_8
def fX12_bitsOf_L4 (l0 : Int) : Nat → Int → Int → Option (Int)
  | 0, _, _ => none
  | n + 1, l1, l2 =>
    if 20 ≤ l2 then (
      some l1
    ) else (
      lt (w32 (l1 + (jand (jshr l0 l2) 1))) fun x1 =>
      lt (w32 (l2 + 1)) fun x2 =>
      fX12_bitsOf_L4 l0 n x1 x2
    )
def fX12_bitsOf (p0 : Int) : Option Int :=
  Option.bind (fX12_bitsOf_L4 p0 FU 0 0) fun q1 =>
  some q1
set_option maxRecDepth 100000 in
set_option maxHeartbeats 4000000 in
theorem lX12_bitsOf_L4 {G : GG} {Φ : Option VV → MM → Prop} {l0 : Int} {S : SS} : ∀ (n : Nat) (l1 : Int) (l2 : Int) (q : Int), fX12_bitsOf_L4 l0 n l1 l2 = some q → At G mX12_bitsOf 1 24 [(1, vi q)] [] (mm S) 0 0 Φ → At G mX12_bitsOf 1 4 [(0, vi l0), (1, vi l1), (2, vi l2)] [] (mm S) 0 0 Φ := by
  intro n
  induction n with
  | zero =>
    intro _ _ _ h
    cases h
  | succ n ih =>
    intro l1 l2 q h K24
    unfold fX12_bitsOf_L4 at h
    rcases ite_e h with ⟨c3, h⟩ | ⟨c3, h⟩
    · refine At.iloadn dX12_bitsOf_4 rfl <| At.bipush dX12_bitsOf_5 (by decide) <| At.icmp_ge_t (tgt := 24) dX12_bitsOf_7 (by decide) c3 <| ?_
      obtain rfl := Option.some.inj h
      exact At.sub [1] rfl K24
    · refine At.iloadn dX12_bitsOf_4 rfl <| At.bipush dX12_bitsOf_5 (by decide) <| At.icmp_ge_f (tgt := 24) dX12_bitsOf_7 (by decide) c3 <| ?_
      refine At.iloadn dX12_bitsOf_10 rfl <| At.iloadn dX12_bitsOf_11 rfl <| At.iloadn dX12_bitsOf_12 rfl <| At.ishr dX12_bitsOf_13 <| At.iconst dX12_bitsOf_14 (by decide) <| At.iand dX12_bitsOf_15 <| At.iadd dX12_bitsOf_16 <| ?_
      obtain ⟨x1, hx1, h⟩ := lt_e h
      refine At.nm hx1 <| At.istoren (ls' := [(1, vi x1), (0, vi l0), (2, vi l2)]) dX12_bitsOf_17 (by decide) rfl <| ?_
      obtain ⟨x2, hx2, h⟩ := lt_e h
      refine At.iinc (ls' := [(2, vi x2), (1, vi x1), (0, vi l0)]) dX12_bitsOf_18 rfl (by decide) (by rw [hx2]; rfl) <| At.goto (tgt := 4) dX12_bitsOf_21 (by decide) <| ?_
      exact At.sub [2, 1, 0] rfl (ih _ _ _ h K24)
set_option maxRecDepth 100000 in
set_option maxHeartbeats 4000000 in
theorem rX12_bitsOf {G : GG} {p0 : Int} {S : SS} {rr : Int} (h : fX12_bitsOf p0 = some rr) : RD G mX12_bitsOf 1 [vi p0] S (some (vi rr)) S := by
  unfold fX12_bitsOf at h
  refine Runs.of pl_X12 (Nat.le_of_ble_eq_true rfl) ?_
  show At G mX12_bitsOf 1 0 [(0, vi p0)] [] (mm S) 0 0 (EQ (some (vi rr)) S)
  refine At.iconst dX12_bitsOf_0 (by decide) <| At.istoren (ls' := [(1, vi 0), (0, vi p0)]) dX12_bitsOf_1 (by decide) rfl <| At.iconst dX12_bitsOf_2 (by decide) <| At.istoren (ls' := [(2, vi 0), (1, vi 0), (0, vi p0)]) dX12_bitsOf_3 (by decide) rfl <| ?_
  obtain ⟨q1, ho2, h⟩ := bnd_e h
  refine At.sub [2, 1, 0] rfl (lX12_bitsOf_L4 FU _ _ q1 ho2 ?_)
  refine At.iloadn dX12_bitsOf_24 rfl <| ?_
  obtain rfl := Option.some.inj h
  exact At.iret rfl (Nat.zero_le _) (Nat.zero_le _) ⟨rfl, rfl⟩ dX12_bitsOf_25
def fX12_standOf (p1 : Int) (S : SS) : Option Int :=
  rdA S 131 3303 (w32 (34 + p1)) fun v1 =>
  rdA S 131 3303 (w32 (37 + p1)) fun v3 =>
  some (w32 ((w32 (20 * v1)) + v3))
set_option maxRecDepth 100000 in
set_option maxHeartbeats 4000000 in
theorem rX12_standOf {G : GG} {p1 : Int} {S : SS} {rr : Int} (h : fX12_standOf p1 S = some rr) : RD G mX12_standOf 1 [vr 130, vi p1] S (some (vi rr)) S := by
  unfold fX12_standOf at h
  refine Runs.of pl_X12 (Nat.le_of_ble_eq_true rfl) ?_
  show At G mX12_standOf 1 0 [(0, vr 130), (1, vi p1)] [] (mm S) 0 0 (EQ (some (vi rr)) S)
  refine At.bipush dX12_standOf_0 (by decide) <| At.aloadn dX12_standOf_2 rfl <| At.getR fl_X12_13 sh_130 (le149 sh_130) rf_130_1 dX12_standOf_3 <| At.bipush dX12_standOf_6 (by decide) <| At.iloadn dX12_standOf_8 rfl <| At.iadd dX12_standOf_9 <| ?_
  obtain ⟨v1, hv1, g2, h⟩ := rdA_e h
  refine At.iald sh_131 (le149 sh_131) g2.1 g2.2 dX12_standOf_10 <| At.nm hv1 <| At.imul dX12_standOf_11 <| At.aloadn dX12_standOf_12 rfl <| At.getR fl_X12_13 sh_130 (le149 sh_130) rf_130_1 dX12_standOf_13 <| At.bipush dX12_standOf_16 (by decide) <| At.iloadn dX12_standOf_18 rfl <| At.iadd dX12_standOf_19 <| ?_
  obtain ⟨v3, hv3, g4, h⟩ := rdA_e h
  refine At.iald sh_131 (le149 sh_131) g4.1 g4.2 dX12_standOf_20 <| At.nm hv3 <| At.iadd dX12_standOf_21 <| ?_
  obtain rfl := Option.some.inj h
  exact At.iret rfl (Nat.zero_le _) (Nat.zero_le _) ⟨rfl, rfl⟩ dX12_standOf_22
def fX12_between (p0 : Int) (p1 : Int) (p2 : Int) : Option Int :=
  if p0 = 3003 then (
    if p1 = p2 then (
      some 1
    ) else (
      some 0
    )
  ) else (
    if p0 = 3004 then (
      if p2 ≤ p1 then (
        some 0
      ) else (
        some 1
      )
    ) else (
      if p0 = 3005 then (
        if p1 ≤ p2 then (
          some 0
        ) else (
          some 1
        )
      ) else (
        if p0 = 3007 then (
          some (jand p1 p2)
        ) else (
          if p0 = 3008 then (
            some (jor p1 p2)
          ) else (
            Option.bind (
              if p0 = 3000 then (
                some (w64 (p1 + p2))
              ) else (
                if p0 = 3001 then (
                  some (w64 (p1 - p2))
                ) else (
                  some (w64 (p1 * p2))
                )
              )
              : Option (Int)) fun q9 =>
            Option.bind (
              if (lc q9 1000000) ≤ 0 then (
                if 0 ≤ (lc q9 ((-1000000))) then (
                  some q9
                ) else (
                  some ((-1000000))
                )
              ) else (
                some 1000000
              )
              : Option (Int)) fun q12 =>
            some (w32 q12)
          )
        )
      )
    )
  )
set_option maxRecDepth 100000 in
set_option maxHeartbeats 4000000 in
theorem rX12_between {G : GG} {p0 : Int} {p1 : Int} {p2 : Int} {S : SS} {rr : Int} (h : fX12_between p0 p1 p2 = some rr) : RD G mX12_between 1 [vi p0, vi p1, vi p2] S (some (vi rr)) S := by
  unfold fX12_between at h
  refine Runs.of pl_X12 (Nat.le_of_ble_eq_true rfl) ?_
  show At G mX12_between 1 0 [(0, vi p0), (1, vi p1), (2, vi p2)] [] (mm S) 0 0 (EQ (some (vi rr)) S)
  rcases ite_e h with ⟨c1, h⟩ | ⟨c1, h⟩
  · refine At.iloadn dX12_between_0 rfl <| At.tsIn (off := 39) (tgt := 40) dX12_between_1 (by omega) (by omega) (by rw [c1] <;> rfl) (by decide) <| ?_
    rcases ite_e h with ⟨c2, h⟩ | ⟨c2, h⟩
    · refine At.iloadn dX12_between_40 rfl <| At.iloadn dX12_between_41 rfl <| At.icmp_ne_f (tgt := 49) dX12_between_42 (by decide) c2 <| ?_
      refine At.iconst dX12_between_45 (by decide) <| At.goto (tgt := 50) dX12_between_46 (by decide) <| ?_
      obtain rfl := Option.some.inj h
      exact At.iret rfl (Nat.zero_le _) (Nat.zero_le _) ⟨rfl, rfl⟩ dX12_between_50
    · refine At.iloadn dX12_between_40 rfl <| At.iloadn dX12_between_41 rfl <| At.icmp_ne_t (tgt := 49) dX12_between_42 (by decide) c2 <| ?_
      refine At.iconst dX12_between_49 (by decide) <| ?_
      obtain rfl := Option.some.inj h
      exact At.iret rfl (Nat.zero_le _) (Nat.zero_le _) ⟨rfl, rfl⟩ dX12_between_50
  · rcases ite_e h with ⟨c3, h⟩ | ⟨c3, h⟩
    · refine At.iloadn dX12_between_0 rfl <| At.tsIn (off := 50) (tgt := 51) dX12_between_1 (by omega) (by omega) (by rw [c3] <;> rfl) (by decide) <| ?_
      rcases ite_e h with ⟨c4, h⟩ | ⟨c4, h⟩
      · refine At.iloadn dX12_between_51 rfl <| At.iloadn dX12_between_52 rfl <| At.icmp_ge_t (tgt := 60) dX12_between_53 (by decide) c4 <| ?_
        refine At.iconst dX12_between_60 (by decide) <| ?_
        obtain rfl := Option.some.inj h
        exact At.iret rfl (Nat.zero_le _) (Nat.zero_le _) ⟨rfl, rfl⟩ dX12_between_61
      · refine At.iloadn dX12_between_51 rfl <| At.iloadn dX12_between_52 rfl <| At.icmp_ge_f (tgt := 60) dX12_between_53 (by decide) c4 <| ?_
        refine At.iconst dX12_between_56 (by decide) <| At.goto (tgt := 61) dX12_between_57 (by decide) <| ?_
        obtain rfl := Option.some.inj h
        exact At.iret rfl (Nat.zero_le _) (Nat.zero_le _) ⟨rfl, rfl⟩ dX12_between_61
    · rcases ite_e h with ⟨c5, h⟩ | ⟨c5, h⟩
      · refine At.iloadn dX12_between_0 rfl <| At.tsIn (off := 61) (tgt := 62) dX12_between_1 (by omega) (by omega) (by rw [c5] <;> rfl) (by decide) <| ?_
        rcases ite_e h with ⟨c6, h⟩ | ⟨c6, h⟩
        · refine At.iloadn dX12_between_62 rfl <| At.iloadn dX12_between_63 rfl <| At.icmp_le_t (tgt := 71) dX12_between_64 (by decide) c6 <| ?_
          refine At.iconst dX12_between_71 (by decide) <| ?_
          obtain rfl := Option.some.inj h
          exact At.iret rfl (Nat.zero_le _) (Nat.zero_le _) ⟨rfl, rfl⟩ dX12_between_72
        · refine At.iloadn dX12_between_62 rfl <| At.iloadn dX12_between_63 rfl <| At.icmp_le_f (tgt := 71) dX12_between_64 (by decide) c6 <| ?_
          refine At.iconst dX12_between_67 (by decide) <| At.goto (tgt := 72) dX12_between_68 (by decide) <| ?_
          obtain rfl := Option.some.inj h
          exact At.iret rfl (Nat.zero_le _) (Nat.zero_le _) ⟨rfl, rfl⟩ dX12_between_72
      · rcases ite_e h with ⟨c7, h⟩ | ⟨c7, h⟩
        · refine At.iloadn dX12_between_0 rfl <| At.tsIn (off := 72) (tgt := 73) dX12_between_1 (by omega) (by omega) (by rw [c7] <;> rfl) (by decide) <| ?_
          refine At.iloadn dX12_between_73 rfl <| At.iloadn dX12_between_74 rfl <| At.iand dX12_between_75 <| ?_
          obtain rfl := Option.some.inj h
          exact At.iret rfl (Nat.zero_le _) (Nat.zero_le _) ⟨rfl, rfl⟩ dX12_between_76
        · rcases ite_e h with ⟨c8, h⟩ | ⟨c8, h⟩
          · refine At.iloadn dX12_between_0 rfl <| At.tsIn (off := 76) (tgt := 77) dX12_between_1 (by omega) (by omega) (by rw [c8] <;> rfl) (by decide) <| ?_
            refine At.iloadn dX12_between_77 rfl <| At.iloadn dX12_between_78 rfl <| At.ior dX12_between_79 <| ?_
            obtain rfl := Option.some.inj h
            exact At.iret rfl (Nat.zero_le _) (Nat.zero_le _) ⟨rfl, rfl⟩ dX12_between_80
          · rcases (show (p0 < 3003 ∨ 3008 < p0) ∨ p0 = 3006 by omega) with hz | hz
            · refine At.iloadn dX12_between_0 rfl <| At.tsOut (tgt := 81) dX12_between_1 hz (by decide) <| ?_
              obtain ⟨q9, hj116, h⟩ := bnd_e h
              have K116 : At G mX12_between 1 116 [] [vl q9] (mm S) 0 0 (EQ (some (vi rr)) S) := by
                obtain ⟨q12, hj146, h⟩ := bnd_e h
                have K146 : At G mX12_between 1 146 [] [vl q12] (mm S) 0 0 (EQ (some (vi rr)) S) := by
                  refine At.l2i dX12_between_146 <| ?_
                  obtain rfl := Option.some.inj h
                  exact At.iret rfl (Nat.zero_le _) (Nat.zero_le _) ⟨rfl, rfl⟩ dX12_between_147
                clear h; have h := hj146; clear hj146
                rcases ite_e h with ⟨c14, h⟩ | ⟨c14, h⟩
                · refine At.lstoren (ls' := [(3, vl q9)]) dX12_between_116 (by decide) rfl <| At.lloadn dX12_between_117 rfl <| At.ldc2 dX12_between_118 kl_X12_209 (by decide) <| At.lcmp dX12_between_121 <| At.if_le_t (tgt := 131) dX12_between_122 (by decide) c14 <| ?_
                  rcases ite_e h with ⟨c13, h⟩ | ⟨c13, h⟩
                  · refine At.lloadn dX12_between_131 rfl <| At.ldc2 dX12_between_132 kl_X12_211 (by decide) <| At.lcmp dX12_between_135 <| At.if_ge_t (tgt := 145) dX12_between_136 (by decide) c13 <| ?_
                    refine At.lloadn dX12_between_145 rfl <| ?_
                    obtain rfl := Option.some.inj h
                    exact At.sub [] rfl K146
                  · refine At.lloadn dX12_between_131 rfl <| At.ldc2 dX12_between_132 kl_X12_211 (by decide) <| At.lcmp dX12_between_135 <| At.if_ge_f (tgt := 145) dX12_between_136 (by decide) c13 <| ?_
                    refine At.ldc2 dX12_between_139 kl_X12_211 (by decide) <| At.goto (tgt := 146) dX12_between_142 (by decide) <| ?_
                    obtain rfl := Option.some.inj h
                    exact At.sub [] rfl K146
                · refine At.lstoren (ls' := [(3, vl q9)]) dX12_between_116 (by decide) rfl <| At.lloadn dX12_between_117 rfl <| At.ldc2 dX12_between_118 kl_X12_209 (by decide) <| At.lcmp dX12_between_121 <| At.if_le_f (tgt := 131) dX12_between_122 (by decide) c14 <| ?_
                  refine At.ldc2 dX12_between_125 kl_X12_209 (by decide) <| At.goto (tgt := 146) dX12_between_128 (by decide) <| ?_
                  obtain rfl := Option.some.inj h
                  exact At.sub [] rfl K146
              clear h; have h := hj116; clear hj116
              rcases ite_e h with ⟨c11, h⟩ | ⟨c11, h⟩
              · refine At.iloadn dX12_between_81 rfl <| At.sipush dX12_between_82 (by decide) <| At.icmp_ne_f (tgt := 96) dX12_between_85 (by decide) c11 <| ?_
                refine At.iloadn dX12_between_88 rfl <| At.i2l dX12_between_89 <| At.iloadn dX12_between_90 rfl <| At.i2l dX12_between_91 <| At.ladd dX12_between_92 <| At.goto (tgt := 116) dX12_between_93 (by decide) <| ?_
                obtain rfl := Option.some.inj h
                exact At.sub [] rfl K116
              · refine At.iloadn dX12_between_81 rfl <| At.sipush dX12_between_82 (by decide) <| At.icmp_ne_t (tgt := 96) dX12_between_85 (by decide) c11 <| ?_
                rcases ite_e h with ⟨c10, h⟩ | ⟨c10, h⟩
                · refine At.iloadn dX12_between_96 rfl <| At.sipush dX12_between_97 (by decide) <| At.icmp_ne_f (tgt := 111) dX12_between_100 (by decide) c10 <| ?_
                  refine At.iloadn dX12_between_103 rfl <| At.i2l dX12_between_104 <| At.iloadn dX12_between_105 rfl <| At.i2l dX12_between_106 <| At.lsub dX12_between_107 <| At.goto (tgt := 116) dX12_between_108 (by decide) <| ?_
                  obtain rfl := Option.some.inj h
                  exact At.sub [] rfl K116
                · refine At.iloadn dX12_between_96 rfl <| At.sipush dX12_between_97 (by decide) <| At.icmp_ne_t (tgt := 111) dX12_between_100 (by decide) c10 <| ?_
                  refine At.iloadn dX12_between_111 rfl <| At.i2l dX12_between_112 <| At.iloadn dX12_between_113 rfl <| At.i2l dX12_between_114 <| At.lmul dX12_between_115 <| ?_
                  obtain rfl := Option.some.inj h
                  exact At.sub [] rfl K116
            · refine At.iloadn dX12_between_0 rfl <| At.tsIn (off := 80) (tgt := 81) dX12_between_1 (by omega) (by omega) (by rw [hz] <;> rfl) (by decide) <| ?_
              obtain ⟨q9, hj116, h⟩ := bnd_e h
              have K116 : At G mX12_between 1 116 [] [vl q9] (mm S) 0 0 (EQ (some (vi rr)) S) := by
                obtain ⟨q12, hj146, h⟩ := bnd_e h
                have K146 : At G mX12_between 1 146 [] [vl q12] (mm S) 0 0 (EQ (some (vi rr)) S) := by
                  refine At.l2i dX12_between_146 <| ?_
                  obtain rfl := Option.some.inj h
                  exact At.iret rfl (Nat.zero_le _) (Nat.zero_le _) ⟨rfl, rfl⟩ dX12_between_147
                clear h; have h := hj146; clear hj146
                rcases ite_e h with ⟨c14, h⟩ | ⟨c14, h⟩
                · refine At.lstoren (ls' := [(3, vl q9)]) dX12_between_116 (by decide) rfl <| At.lloadn dX12_between_117 rfl <| At.ldc2 dX12_between_118 kl_X12_209 (by decide) <| At.lcmp dX12_between_121 <| At.if_le_t (tgt := 131) dX12_between_122 (by decide) c14 <| ?_
                  rcases ite_e h with ⟨c13, h⟩ | ⟨c13, h⟩
                  · refine At.lloadn dX12_between_131 rfl <| At.ldc2 dX12_between_132 kl_X12_211 (by decide) <| At.lcmp dX12_between_135 <| At.if_ge_t (tgt := 145) dX12_between_136 (by decide) c13 <| ?_
                    refine At.lloadn dX12_between_145 rfl <| ?_
                    obtain rfl := Option.some.inj h
                    exact At.sub [] rfl K146
                  · refine At.lloadn dX12_between_131 rfl <| At.ldc2 dX12_between_132 kl_X12_211 (by decide) <| At.lcmp dX12_between_135 <| At.if_ge_f (tgt := 145) dX12_between_136 (by decide) c13 <| ?_
                    refine At.ldc2 dX12_between_139 kl_X12_211 (by decide) <| At.goto (tgt := 146) dX12_between_142 (by decide) <| ?_
                    obtain rfl := Option.some.inj h
                    exact At.sub [] rfl K146
                · refine At.lstoren (ls' := [(3, vl q9)]) dX12_between_116 (by decide) rfl <| At.lloadn dX12_between_117 rfl <| At.ldc2 dX12_between_118 kl_X12_209 (by decide) <| At.lcmp dX12_between_121 <| At.if_le_f (tgt := 131) dX12_between_122 (by decide) c14 <| ?_
                  refine At.ldc2 dX12_between_125 kl_X12_209 (by decide) <| At.goto (tgt := 146) dX12_between_128 (by decide) <| ?_
                  obtain rfl := Option.some.inj h
                  exact At.sub [] rfl K146
              clear h; have h := hj116; clear hj116
              rcases ite_e h with ⟨c11, h⟩ | ⟨c11, h⟩
              · refine At.iloadn dX12_between_81 rfl <| At.sipush dX12_between_82 (by decide) <| At.icmp_ne_f (tgt := 96) dX12_between_85 (by decide) c11 <| ?_
                refine At.iloadn dX12_between_88 rfl <| At.i2l dX12_between_89 <| At.iloadn dX12_between_90 rfl <| At.i2l dX12_between_91 <| At.ladd dX12_between_92 <| At.goto (tgt := 116) dX12_between_93 (by decide) <| ?_
                obtain rfl := Option.some.inj h
                exact At.sub [] rfl K116
              · refine At.iloadn dX12_between_81 rfl <| At.sipush dX12_between_82 (by decide) <| At.icmp_ne_t (tgt := 96) dX12_between_85 (by decide) c11 <| ?_
                rcases ite_e h with ⟨c10, h⟩ | ⟨c10, h⟩
                · refine At.iloadn dX12_between_96 rfl <| At.sipush dX12_between_97 (by decide) <| At.icmp_ne_f (tgt := 111) dX12_between_100 (by decide) c10 <| ?_
                  refine At.iloadn dX12_between_103 rfl <| At.i2l dX12_between_104 <| At.iloadn dX12_between_105 rfl <| At.i2l dX12_between_106 <| At.lsub dX12_between_107 <| At.goto (tgt := 116) dX12_between_108 (by decide) <| ?_
                  obtain rfl := Option.some.inj h
                  exact At.sub [] rfl K116
                · refine At.iloadn dX12_between_96 rfl <| At.sipush dX12_between_97 (by decide) <| At.icmp_ne_t (tgt := 111) dX12_between_100 (by decide) c10 <| ?_
                  refine At.iloadn dX12_between_111 rfl <| At.i2l dX12_between_112 <| At.iloadn dX12_between_113 rfl <| At.i2l dX12_between_114 <| At.lmul dX12_between_115 <| ?_
                  obtain rfl := Option.some.inj h
                  exact At.sub [] rfl K116
def fX12_reckons_L64 (l1 : Int) : Nat → Int → Int → SS → Option (SS)
  | 0, _, _, _ => none
  | n + 1, l6, l7, S =>
    rdA S 131 3303 (w32 (8 + l1)) fun v1 =>
    if v1 ≤ l7 then (
      some S
    ) else (
      rdA S 131 3303 (w32 (6 + l1)) fun v3 =>
      rdA S 131 3303 (w32 ((w32 (201 + v3)) + l7)) fun v5 =>
      Option.bind (
        if 3000 ≤ v5 then (
          if v5 = 3006 then (
            rdA S 135 900 (w32 (l6 - 1)) fun v8 =>
            wrA S 135 900 (w32 (l6 - 1)) (w32 (1 - v8)) fun S10 =>
            some (l6, S10)
          ) else (
            if v5 = 3009 then (
              lt (w32 (l6 + (-2))) fun x12 =>
              rdA S 135 900 (w32 (x12 - 1)) fun v13 =>
              Option.bind (
                if v13 = 1 then (
                  rdA S 135 900 x12 fun v16 =>
                  some v16
                ) else (
                  rdA S 135 900 (w32 (x12 + 1)) fun v18 =>
                  some v18
                )
                : Option (Int)) fun q15 =>
              wrA S 135 900 (w32 (x12 - 1)) q15 fun S21 =>
              some (x12, S21)
            ) else (
              lt (w32 (l6 + (-1))) fun x23 =>
              rdA S 135 900 (w32 (x23 - 1)) fun v24 =>
              rdA S 135 900 x23 fun v26 =>
              Option.bind (fX12_between v5 v24 v26) fun q28 =>
              wrA S 135 900 (w32 (x23 - 1)) q28 fun S29 =>
              some (x23, S29)
            )
          )
        ) else (
          Option.bind (
            if 1000 ≤ v5 then (
              rdA S 136 6 (w32 (v5 - 1000)) fun v34 =>
              some v34
            ) else (
              some v5
            )
            : Option (Int)) fun q33 =>
          wrA S 135 900 l6 q33 fun S37 =>
          lt (w32 (l6 + 1)) fun x39 =>
          some (x39, S37)
        )
        : Option (Int × SS)) fun q7 =>
      lt (w32 (l7 + 1)) fun x41 =>
      fX12_reckons_L64 l1 n q7.1 x41 q7.2
    )
def fX12_reckons (p1 : Int) (p2 : Int) (p3 : Int) (p4 : Int) (p5 : Int) (S : SS) : Option (Int × SS) :=
  wrA S 136 6 0 p3 fun S1 =>
  rdA S1 131 3303 (w32 (26 + p3)) fun v3 =>
  wrA S1 136 6 1 v3 fun S5 =>
  wrA S5 136 6 2 p4 fun S7 =>
  wrA S7 136 6 3 p5 fun S9 =>
  rdA S9 131 3303 48 fun v11 =>
  wrA S9 136 6 4 v11 fun S13 =>
  wrA S13 136 6 5 p2 fun S15 =>
  Option.bind (fX12_reckons_L64 p1 FU 0 0 S15) fun q17 =>
  rdA q17 135 900 0 fun v19 =>
  some (v19, q17)
set_option maxRecDepth 100000 in
set_option maxHeartbeats 4000000 in
theorem lX12_reckons_L64 {G : GG} {Φ : Option VV → MM → Prop} {l1 : Int} : ∀ (n : Nat) (l6 : Int) (l7 : Int) (S : SS) (q : SS), fX12_reckons_L64 l1 n l6 l7 S = some q → At G mX12_reckons 2 271 [(0, vr 130)] [] (mm q) 0 0 Φ → At G mX12_reckons 2 64 [(0, vr 130), (1, vi l1), (6, vi l6), (7, vi l7)] [] (mm S) 0 0 Φ := by
  intro n
  induction n with
  | zero =>
    intro _ _ _ _ h
    cases h
  | succ n ih =>
    intro l6 l7 S q h K271
    unfold fX12_reckons_L64 at h
    refine At.iload dX12_reckons_64 rfl <| At.aloadn dX12_reckons_66 rfl <| At.getR fl_X12_13 sh_130 (le149 sh_130) rf_130_1 dX12_reckons_67 <| At.bipush dX12_reckons_70 (by decide) <| At.iloadn dX12_reckons_72 rfl <| At.iadd dX12_reckons_73 <| ?_
    obtain ⟨v1, hv1, g2, h⟩ := rdA_e h
    rcases ite_e h with ⟨c42, h⟩ | ⟨c42, h⟩
    · refine At.iald sh_131 (le149 sh_131) g2.1 g2.2 dX12_reckons_74 <| At.nm hv1 <| At.icmp_ge_t (tgt := 271) dX12_reckons_75 (by decide) c42 <| ?_
      obtain rfl := Option.some.inj h
      exact At.sub [0] rfl K271
    · refine At.iald sh_131 (le149 sh_131) g2.1 g2.2 dX12_reckons_74 <| At.nm hv1 <| At.icmp_ge_f (tgt := 271) dX12_reckons_75 (by decide) c42 <| ?_
      refine At.aloadn dX12_reckons_78 rfl <| At.getR fl_X12_13 sh_130 (le149 sh_130) rf_130_1 dX12_reckons_79 <| At.sipush dX12_reckons_82 (by decide) <| At.aloadn dX12_reckons_85 rfl <| At.getR fl_X12_13 sh_130 (le149 sh_130) rf_130_1 dX12_reckons_86 <| At.bipush dX12_reckons_89 (by decide) <| At.iloadn dX12_reckons_91 rfl <| At.iadd dX12_reckons_92 <| ?_
      obtain ⟨v3, hv3, g4, h⟩ := rdA_e h
      refine At.iald sh_131 (le149 sh_131) g4.1 g4.2 dX12_reckons_93 <| At.nm hv3 <| At.iadd dX12_reckons_94 <| At.iload dX12_reckons_95 rfl <| At.iadd dX12_reckons_97 <| ?_
      obtain ⟨v5, hv5, g6, h⟩ := rdA_e h
      obtain ⟨q7, hj265, h⟩ := bnd_e h
      have K265 : At G mX12_reckons 2 265 [(0, vr 130), (1, vi l1), (6, vi q7.1), (7, vi l7)] [] (mm q7.2) 0 0 Φ := by
        obtain ⟨x41, hx41, h⟩ := lt_e h
        refine At.iinc (ls' := [(7, vi x41), (0, vr 130), (1, vi l1), (6, vi q7.1)]) dX12_reckons_265 rfl (by decide) (by rw [hx41]; rfl) <| At.goto (tgt := 64) dX12_reckons_268 (by decide) <| ?_
        exact At.sub [1, 2, 3, 0] rfl (ih _ _ _ _ h K271)
      clear h; have h := hj265; clear hj265
      rcases ite_e h with ⟨c40, h⟩ | ⟨c40, h⟩
      · refine At.iald sh_131 (le149 sh_131) g6.1 g6.2 dX12_reckons_98 <| At.nm hv5 <| At.istore (ls' := [(8, vi v5), (0, vr 130), (1, vi l1), (6, vi l6), (7, vi l7)]) dX12_reckons_99 (by decide) rfl <| At.iload dX12_reckons_101 rfl <| At.sipush dX12_reckons_103 (by decide) <| At.icmp_ge_t (tgt := 146) dX12_reckons_106 (by decide) c40 <| ?_
        rcases ite_e h with ⟨c32, h⟩ | ⟨c32, h⟩
        · refine At.iload dX12_reckons_146 rfl <| At.sipush dX12_reckons_148 (by decide) <| At.icmp_ne_f (tgt := 177) dX12_reckons_151 (by decide) c32 <| ?_
          refine At.aloadn dX12_reckons_154 rfl <| At.getR fl_X12_30 sh_130 (le149 sh_130) rf_130_16 dX12_reckons_155 <| At.iload dX12_reckons_158 rfl <| At.iconst dX12_reckons_160 (by decide) <| At.isub dX12_reckons_161 <| At.iconst dX12_reckons_162 (by decide) <| At.aloadn dX12_reckons_163 rfl <| At.getR fl_X12_30 sh_130 (le149 sh_130) rf_130_16 dX12_reckons_164 <| At.iload dX12_reckons_167 rfl <| At.iconst dX12_reckons_169 (by decide) <| At.isub dX12_reckons_170 <| ?_
          obtain ⟨v8, hv8, g9, h⟩ := rdA_e h
          refine At.iald sh_135 (le149 sh_135) g9.1 g9.2 dX12_reckons_171 <| At.nm hv8 <| At.isub dX12_reckons_172 <| ?_
          obtain ⟨S10, hS10, g11, h⟩ := wrA_e h
          refine At.iast sh_135 (le149 sh_135) g11.1 g11.2 dX12_reckons_173 <| At.nmS hS10 <| At.goto (tgt := 265) dX12_reckons_174 (by decide) <| ?_
          obtain rfl := Option.some.inj h
          exact At.sub [1, 2, 3, 4] rfl K265
        · refine At.iload dX12_reckons_146 rfl <| At.sipush dX12_reckons_148 (by decide) <| At.icmp_ne_t (tgt := 177) dX12_reckons_151 (by decide) c32 <| ?_
          rcases ite_e h with ⟨c31, h⟩ | ⟨c31, h⟩
          · refine At.iload dX12_reckons_177 rfl <| At.sipush dX12_reckons_179 (by decide) <| At.icmp_ne_f (tgt := 232) dX12_reckons_182 (by decide) c31 <| ?_
            obtain ⟨x12, hx12, h⟩ := lt_e h
            refine At.iinc (ls' := [(6, vi x12), (8, vi v5), (0, vr 130), (1, vi l1), (7, vi l7)]) dX12_reckons_185 rfl (by decide) (by rw [hx12]; rfl) <| At.aloadn dX12_reckons_188 rfl <| At.getR fl_X12_30 sh_130 (le149 sh_130) rf_130_16 dX12_reckons_189 <| At.iload dX12_reckons_192 rfl <| At.iconst dX12_reckons_194 (by decide) <| At.isub dX12_reckons_195 <| At.aloadn dX12_reckons_196 rfl <| At.getR fl_X12_30 sh_130 (le149 sh_130) rf_130_16 dX12_reckons_197 <| At.iload dX12_reckons_200 rfl <| At.iconst dX12_reckons_202 (by decide) <| At.isub dX12_reckons_203 <| ?_
            obtain ⟨v13, hv13, g14, h⟩ := rdA_e h
            obtain ⟨q15, hj228, h⟩ := bnd_e h
            have K228 : At G mX12_reckons 2 228 [(0, vr 130), (1, vi l1), (6, vi x12), (7, vi l7)] [vi q15, vi (w32 (x12 - 1)), vr 135] (mm S) 0 0 Φ := by
              obtain ⟨S21, hS21, g22, h⟩ := wrA_e h
              refine At.iast sh_135 (le149 sh_135) g22.1 g22.2 dX12_reckons_228 <| At.nmS hS21 <| At.goto (tgt := 265) dX12_reckons_229 (by decide) <| ?_
              obtain rfl := Option.some.inj h
              exact At.sub [0, 1, 2, 3] rfl K265
            clear h; have h := hj228; clear hj228
            rcases ite_e h with ⟨c20, h⟩ | ⟨c20, h⟩
            · refine At.iald sh_135 (le149 sh_135) g14.1 g14.2 dX12_reckons_204 <| At.nm hv13 <| At.iconst dX12_reckons_205 (by decide) <| At.icmp_ne_f (tgt := 219) dX12_reckons_206 (by decide) c20 <| ?_
              refine At.aloadn dX12_reckons_209 rfl <| At.getR fl_X12_30 sh_130 (le149 sh_130) rf_130_16 dX12_reckons_210 <| At.iload dX12_reckons_213 rfl <| ?_
              obtain ⟨v16, hv16, g17, h⟩ := rdA_e h
              refine At.iald sh_135 (le149 sh_135) g17.1 g17.2 dX12_reckons_215 <| At.nm hv16 <| At.goto (tgt := 228) dX12_reckons_216 (by decide) <| ?_
              obtain rfl := Option.some.inj h
              exact At.sub [2, 3, 0, 4] rfl K228
            · refine At.iald sh_135 (le149 sh_135) g14.1 g14.2 dX12_reckons_204 <| At.nm hv13 <| At.iconst dX12_reckons_205 (by decide) <| At.icmp_ne_t (tgt := 219) dX12_reckons_206 (by decide) c20 <| ?_
              refine At.aloadn dX12_reckons_219 rfl <| At.getR fl_X12_30 sh_130 (le149 sh_130) rf_130_16 dX12_reckons_220 <| At.iload dX12_reckons_223 rfl <| At.iconst dX12_reckons_225 (by decide) <| At.iadd dX12_reckons_226 <| ?_
              obtain ⟨v18, hv18, g19, h⟩ := rdA_e h
              refine At.iald sh_135 (le149 sh_135) g19.1 g19.2 dX12_reckons_227 <| At.nm hv18 <| ?_
              obtain rfl := Option.some.inj h
              exact At.sub [2, 3, 0, 4] rfl K228
          · refine At.iload dX12_reckons_177 rfl <| At.sipush dX12_reckons_179 (by decide) <| At.icmp_ne_t (tgt := 232) dX12_reckons_182 (by decide) c31 <| ?_
            obtain ⟨x23, hx23, h⟩ := lt_e h
            refine At.iinc (ls' := [(6, vi x23), (8, vi v5), (0, vr 130), (1, vi l1), (7, vi l7)]) dX12_reckons_232 rfl (by decide) (by rw [hx23]; rfl) <| At.aloadn dX12_reckons_235 rfl <| At.getR fl_X12_30 sh_130 (le149 sh_130) rf_130_16 dX12_reckons_236 <| At.iload dX12_reckons_239 rfl <| At.iconst dX12_reckons_241 (by decide) <| At.isub dX12_reckons_242 <| At.iload dX12_reckons_243 rfl <| At.aloadn dX12_reckons_245 rfl <| At.getR fl_X12_30 sh_130 (le149 sh_130) rf_130_16 dX12_reckons_246 <| At.iload dX12_reckons_249 rfl <| At.iconst dX12_reckons_251 (by decide) <| At.isub dX12_reckons_252 <| ?_
            obtain ⟨v24, hv24, g25, h⟩ := rdA_e h
            refine At.iald sh_135 (le149 sh_135) g25.1 g25.2 dX12_reckons_253 <| At.nm hv24 <| At.aloadn dX12_reckons_254 rfl <| At.getR fl_X12_30 sh_130 (le149 sh_130) rf_130_16 dX12_reckons_255 <| At.iload dX12_reckons_258 rfl <| ?_
            obtain ⟨v26, hv26, g27, h⟩ := rdA_e h
            refine At.iald sh_135 (le149 sh_135) g27.1 g27.2 dX12_reckons_260 <| At.nm hv26 <| ?_
            obtain ⟨q28, hq28, h⟩ := bnd_e h
            refine At.cS1 (av := [vi v5, vi v24, vi v26]) (rest := [vi (w32 (x23 - 1)), vr 135]) ms_X12_between lk_X12_213 dX12_reckons_261 rfl rfl (Nat.le_of_ble_eq_true rfl) (by decide) ⟨rfl, rfl⟩ (rX12_between hq28) <| ?_
            obtain ⟨S29, hS29, g30, h⟩ := wrA_e h
            refine At.iast sh_135 (le149 sh_135) g30.1 g30.2 dX12_reckons_264 <| At.nmS hS29 <| ?_
            obtain rfl := Option.some.inj h
            exact At.sub [2, 3, 0, 4] rfl K265
      · refine At.iald sh_131 (le149 sh_131) g6.1 g6.2 dX12_reckons_98 <| At.nm hv5 <| At.istore (ls' := [(8, vi v5), (0, vr 130), (1, vi l1), (6, vi l6), (7, vi l7)]) dX12_reckons_99 (by decide) rfl <| At.iload dX12_reckons_101 rfl <| At.sipush dX12_reckons_103 (by decide) <| At.icmp_ge_f (tgt := 146) dX12_reckons_106 (by decide) c40 <| ?_
        obtain ⟨q33, hj139, h⟩ := bnd_e h
        have K139 : At G mX12_reckons 2 139 [(0, vr 130), (1, vi l1), (6, vi l6), (7, vi l7)] [vi q33, vi l6, vr 135] (mm S) 0 0 Φ := by
          obtain ⟨S37, hS37, g38, h⟩ := wrA_e h
          refine At.iast sh_135 (le149 sh_135) g38.1 g38.2 dX12_reckons_139 <| At.nmS hS37 <| ?_
          obtain ⟨x39, hx39, h⟩ := lt_e h
          refine At.iinc (ls' := [(6, vi x39), (0, vr 130), (1, vi l1), (7, vi l7)]) dX12_reckons_140 rfl (by decide) (by rw [hx39]; rfl) <| At.goto (tgt := 265) dX12_reckons_143 (by decide) <| ?_
          obtain rfl := Option.some.inj h
          exact At.sub [1, 2, 0, 3] rfl K265
        clear h; have h := hj139; clear hj139
        rcases ite_e h with ⟨c36, h⟩ | ⟨c36, h⟩
        · refine At.aloadn dX12_reckons_109 rfl <| At.getR fl_X12_30 sh_130 (le149 sh_130) rf_130_16 dX12_reckons_110 <| At.iload dX12_reckons_113 rfl <| At.iload dX12_reckons_115 rfl <| At.sipush dX12_reckons_117 (by decide) <| At.icmp_ge_t (tgt := 128) dX12_reckons_120 (by decide) c36 <| ?_
          refine At.aloadn dX12_reckons_128 rfl <| At.getR fl_X12_33 sh_130 (le149 sh_130) rf_130_17 dX12_reckons_129 <| At.iload dX12_reckons_132 rfl <| At.sipush dX12_reckons_134 (by decide) <| At.isub dX12_reckons_137 <| ?_
          obtain ⟨v34, hv34, g35, h⟩ := rdA_e h
          refine At.iald sh_136 (le149 sh_136) g35.1 g35.2 dX12_reckons_138 <| At.nm hv34 <| ?_
          obtain rfl := Option.some.inj h
          exact At.sub [1, 2, 3, 4] rfl K139
        · refine At.aloadn dX12_reckons_109 rfl <| At.getR fl_X12_30 sh_130 (le149 sh_130) rf_130_16 dX12_reckons_110 <| At.iload dX12_reckons_113 rfl <| At.iload dX12_reckons_115 rfl <| At.sipush dX12_reckons_117 (by decide) <| At.icmp_ge_f (tgt := 128) dX12_reckons_120 (by decide) c36 <| ?_
          refine At.iload dX12_reckons_123 rfl <| At.goto (tgt := 139) dX12_reckons_125 (by decide) <| ?_
          obtain rfl := Option.some.inj h
          exact At.sub [1, 2, 3, 4] rfl K139
set_option maxRecDepth 100000 in
set_option maxHeartbeats 4000000 in
theorem rX12_reckons {G : GG} {p1 : Int} {p2 : Int} {p3 : Int} {p4 : Int} {p5 : Int} {S : SS} {rr : (Int × SS)} (h : fX12_reckons p1 p2 p3 p4 p5 S = some rr) : RD G mX12_reckons 2 [vr 130, vi p1, vi p2, vi p3, vi p4, vi p5] S (some (vi rr.1)) rr.2 := by
  unfold fX12_reckons at h
  refine Runs.of pl_X12 (Nat.le_of_ble_eq_true rfl) ?_
  show At G mX12_reckons 2 0 [(0, vr 130), (1, vi p1), (2, vi p2), (3, vi p3), (4, vi p4), (5, vi p5)] [] (mm S) 0 0 (EQ (some (vi rr.1)) rr.2)
  refine At.aloadn dX12_reckons_0 rfl <| At.getR fl_X12_33 sh_130 (le149 sh_130) rf_130_17 dX12_reckons_1 <| At.iconst dX12_reckons_4 (by decide) <| At.iloadn dX12_reckons_5 rfl <| ?_
  obtain ⟨S1, hS1, g2, h⟩ := wrA_e h
  refine At.iast sh_136 (le149 sh_136) g2.1 g2.2 dX12_reckons_6 <| At.nmS hS1 <| At.aloadn dX12_reckons_7 rfl <| At.getR fl_X12_33 sh_130 (le149 sh_130) rf_130_17 dX12_reckons_8 <| At.iconst dX12_reckons_11 (by decide) <| At.aloadn dX12_reckons_12 rfl <| At.getR fl_X12_13 sh_130 (le149 sh_130) rf_130_1 dX12_reckons_13 <| At.bipush dX12_reckons_16 (by decide) <| At.iloadn dX12_reckons_18 rfl <| At.iadd dX12_reckons_19 <| ?_
  obtain ⟨v3, hv3, g4, h⟩ := rdA_e h
  refine At.iald sh_131 (le149 sh_131) g4.1 g4.2 dX12_reckons_20 <| At.nm hv3 <| ?_
  obtain ⟨S5, hS5, g6, h⟩ := wrA_e h
  refine At.iast sh_136 (le149 sh_136) g6.1 g6.2 dX12_reckons_21 <| At.nmS hS5 <| At.aloadn dX12_reckons_22 rfl <| At.getR fl_X12_33 sh_130 (le149 sh_130) rf_130_17 dX12_reckons_23 <| At.iconst dX12_reckons_26 (by decide) <| At.iload dX12_reckons_27 rfl <| ?_
  obtain ⟨S7, hS7, g8, h⟩ := wrA_e h
  refine At.iast sh_136 (le149 sh_136) g8.1 g8.2 dX12_reckons_29 <| At.nmS hS7 <| At.aloadn dX12_reckons_30 rfl <| At.getR fl_X12_33 sh_130 (le149 sh_130) rf_130_17 dX12_reckons_31 <| At.iconst dX12_reckons_34 (by decide) <| At.iload dX12_reckons_35 rfl <| ?_
  obtain ⟨S9, hS9, g10, h⟩ := wrA_e h
  refine At.iast sh_136 (le149 sh_136) g10.1 g10.2 dX12_reckons_37 <| At.nmS hS9 <| At.aloadn dX12_reckons_38 rfl <| At.getR fl_X12_33 sh_130 (le149 sh_130) rf_130_17 dX12_reckons_39 <| At.iconst dX12_reckons_42 (by decide) <| At.aloadn dX12_reckons_43 rfl <| At.getR fl_X12_13 sh_130 (le149 sh_130) rf_130_1 dX12_reckons_44 <| At.bipush dX12_reckons_47 (by decide) <| ?_
  obtain ⟨v11, hv11, g12, h⟩ := rdA_e h
  refine At.iald sh_131 (le149 sh_131) g12.1 g12.2 dX12_reckons_49 <| At.nm hv11 <| ?_
  obtain ⟨S13, hS13, g14, h⟩ := wrA_e h
  refine At.iast sh_136 (le149 sh_136) g14.1 g14.2 dX12_reckons_50 <| At.nmS hS13 <| At.aloadn dX12_reckons_51 rfl <| At.getR fl_X12_33 sh_130 (le149 sh_130) rf_130_17 dX12_reckons_52 <| At.iconst dX12_reckons_55 (by decide) <| At.iloadn dX12_reckons_56 rfl <| ?_
  obtain ⟨S15, hS15, g16, h⟩ := wrA_e h
  refine At.iast sh_136 (le149 sh_136) g16.1 g16.2 dX12_reckons_57 <| At.nmS hS15 <| At.iconst dX12_reckons_58 (by decide) <| At.istore (ls' := [(6, vi 0), (0, vr 130), (1, vi p1), (2, vi p2), (3, vi p3), (4, vi p4), (5, vi p5)]) dX12_reckons_59 (by decide) rfl <| At.iconst dX12_reckons_61 (by decide) <| At.istore (ls' := [(7, vi 0), (6, vi 0), (0, vr 130), (1, vi p1), (2, vi p2), (3, vi p3), (4, vi p4), (5, vi p5)]) dX12_reckons_62 (by decide) rfl <| ?_
  obtain ⟨q17, ho18, h⟩ := bnd_e h
  refine At.sub [2, 3, 1, 0] rfl (lX12_reckons_L64 FU _ _ _ q17 ho18 ?_)
  refine At.aloadn dX12_reckons_271 rfl <| At.getR fl_X12_30 sh_130 (le149 sh_130) rf_130_16 dX12_reckons_272 <| At.iconst dX12_reckons_275 (by decide) <| ?_
  obtain ⟨v19, hv19, g20, h⟩ := rdA_e h
  refine At.iald sh_135 (le149 sh_135) g20.1 g20.2 dX12_reckons_276 <| At.nm hv19 <| ?_
  obtain rfl := Option.some.inj h
  exact At.iret rfl (Nat.zero_le _) (Nat.zero_le _) ⟨rfl, rfl⟩ dX12_reckons_277
def fX12_lets (p0 : Int) (p1 : Int) : Option Bool :=
  if p0 = 2 then (
    some true
  ) else (
    if p0 = p1 then (
      some true
    ) else (
      some false
    )
  )
set_option maxRecDepth 100000 in
set_option maxHeartbeats 4000000 in
theorem rX12_lets {G : GG} {p0 : Int} {p1 : Int} {S : SS} {rr : Bool} (h : fX12_lets p0 p1 = some rr) : RD G mX12_lets 1 [vi p0, vi p1] S (some (vi (bI rr))) S := by
  unfold fX12_lets at h
  refine Runs.of pl_X12 (Nat.le_of_ble_eq_true rfl) ?_
  show At G mX12_lets 1 0 [(0, vi p0), (1, vi p1)] [] (mm S) 0 0 (EQ (some (vi (bI rr))) S)
  rcases ite_e h with ⟨c2, h⟩ | ⟨c2, h⟩
  · refine At.iloadn dX12_lets_0 rfl <| At.iconst dX12_lets_1 (by decide) <| At.icmp_eq_t (tgt := 10) dX12_lets_2 (by decide) c2 <| ?_
    refine At.iconst dX12_lets_10 (by decide) <| At.goto (tgt := 15) dX12_lets_11 (by decide) <| ?_
    obtain rfl := Option.some.inj h
    exact At.zret (b := true) rfl (Nat.zero_le _) (Nat.zero_le _) ⟨rfl, rfl⟩ dX12_lets_15
  · refine At.iloadn dX12_lets_0 rfl <| At.iconst dX12_lets_1 (by decide) <| At.icmp_eq_f (tgt := 10) dX12_lets_2 (by decide) c2 <| ?_
    rcases ite_e h with ⟨c1, h⟩ | ⟨c1, h⟩
    · refine At.iloadn dX12_lets_5 rfl <| At.iloadn dX12_lets_6 rfl <| At.icmp_ne_f (tgt := 14) dX12_lets_7 (by decide) c1 <| ?_
      refine At.iconst dX12_lets_10 (by decide) <| At.goto (tgt := 15) dX12_lets_11 (by decide) <| ?_
      obtain rfl := Option.some.inj h
      exact At.zret (b := true) rfl (Nat.zero_le _) (Nat.zero_le _) ⟨rfl, rfl⟩ dX12_lets_15
    · refine At.iloadn dX12_lets_5 rfl <| At.iloadn dX12_lets_6 rfl <| At.icmp_ne_t (tgt := 14) dX12_lets_7 (by decide) c1 <| ?_
      refine At.iconst dX12_lets_14 (by decide) <| ?_
      obtain rfl := Option.some.inj h
      exact At.zret (b := false) rfl (Nat.zero_le _) (Nat.zero_le _) ⟨rfl, rfl⟩ dX12_lets_15
def fX12_yearBy (p1 : Int) (p2 : Int) (p3 : Int) (p4 : Int) (S : SS) : Option (Int × SS) :=
  rdA S 131 3303 4 fun v1 =>
  Option.bind (
    if v1 = 1 then (
      Option.bind (fX12_reckons 0 p1 p2 p3 p4 S) fun q4 =>
      some (q4.1, q4.2)
    ) else (
      if p4 = 1 then (
        rdA S 131 3303 (w32 (26 + p2)) fun v5 =>
        some (w32 (-v5), S)
      ) else (
        rdA S 131 3303 (w32 (26 + p2)) fun v7 =>
        some (v7, S)
      )
    )
    : Option (Int × SS)) fun q3 =>
  some (w32 (p3 + q3.1), q3.2)
set_option maxRecDepth 100000 in
set_option maxHeartbeats 4000000 in
theorem rX12_yearBy {G : GG} {p1 : Int} {p2 : Int} {p3 : Int} {p4 : Int} {S : SS} {rr : (Int × SS)} (h : fX12_yearBy p1 p2 p3 p4 S = some rr) : RD G mX12_yearBy 3 [vr 130, vi p1, vi p2, vi p3, vi p4] S (some (vi rr.1)) rr.2 := by
  unfold fX12_yearBy at h
  refine Runs.of pl_X12 (Nat.le_of_ble_eq_true rfl) ?_
  show At G mX12_yearBy 3 0 [(0, vr 130), (1, vi p1), (2, vi p2), (3, vi p3), (4, vi p4)] [] (mm S) 0 0 (EQ (some (vi rr.1)) rr.2)
  refine At.aloadn dX12_yearBy_0 rfl <| At.getR fl_X12_13 sh_130 (le149 sh_130) rf_130_1 dX12_yearBy_1 <| At.iconst dX12_yearBy_4 (by decide) <| ?_
  obtain ⟨v1, hv1, g2, h⟩ := rdA_e h
  obtain ⟨q3, hj51, h⟩ := bnd_e h
  have K51 : At G mX12_yearBy 3 51 [(3, vi p3)] [vi q3.1] (mm q3.2) 0 0 (EQ (some (vi rr.1)) rr.2) := by
    refine At.istore (ls' := [(5, vi q3.1), (3, vi p3)]) dX12_yearBy_51 (by decide) rfl <| At.iloadn dX12_yearBy_53 rfl <| At.iload dX12_yearBy_54 rfl <| At.iadd dX12_yearBy_56 <| ?_
    obtain rfl := Option.some.inj h
    exact At.iret rfl (Nat.zero_le _) (Nat.zero_le _) ⟨rfl, rfl⟩ dX12_yearBy_57
  clear h; have h := hj51; clear hj51
  rcases ite_e h with ⟨c10, h⟩ | ⟨c10, h⟩
  · refine At.iald sh_131 (le149 sh_131) g2.1 g2.2 dX12_yearBy_5 <| At.nm hv1 <| At.iconst dX12_yearBy_6 (by decide) <| At.icmp_ne_f (tgt := 23) dX12_yearBy_7 (by decide) c10 <| ?_
    refine At.aloadn dX12_yearBy_10 rfl <| At.iconst dX12_yearBy_11 (by decide) <| At.iloadn dX12_yearBy_12 rfl <| At.iloadn dX12_yearBy_13 rfl <| At.iloadn dX12_yearBy_14 rfl <| At.iload dX12_yearBy_15 rfl <| ?_
    obtain ⟨q4, hq4, h⟩ := bnd_e h
    refine At.cV1 (av := [vi 0, vi p1, vi p2, vi p3, vi p4]) (rest := []) mv_X12_reckons lk_X12_217 dX12_yearBy_17 rfl rfl sh_130 (Nat.le_of_ble_eq_true rfl) (by decide) ⟨rfl, rfl⟩ (rX12_reckons hq4) <| At.goto (tgt := 51) dX12_yearBy_20 (by decide) <| ?_
    obtain rfl := Option.some.inj h
    exact At.sub [3] rfl K51
  · refine At.iald sh_131 (le149 sh_131) g2.1 g2.2 dX12_yearBy_5 <| At.nm hv1 <| At.iconst dX12_yearBy_6 (by decide) <| At.icmp_ne_t (tgt := 23) dX12_yearBy_7 (by decide) c10 <| ?_
    rcases ite_e h with ⟨c9, h⟩ | ⟨c9, h⟩
    · refine At.iload dX12_yearBy_23 rfl <| At.iconst dX12_yearBy_25 (by decide) <| At.icmp_ne_f (tgt := 42) dX12_yearBy_26 (by decide) c9 <| ?_
      refine At.aloadn dX12_yearBy_29 rfl <| At.getR fl_X12_13 sh_130 (le149 sh_130) rf_130_1 dX12_yearBy_30 <| At.bipush dX12_yearBy_33 (by decide) <| At.iloadn dX12_yearBy_35 rfl <| At.iadd dX12_yearBy_36 <| ?_
      obtain ⟨v5, hv5, g6, h⟩ := rdA_e h
      refine At.iald sh_131 (le149 sh_131) g6.1 g6.2 dX12_yearBy_37 <| At.nm hv5 <| At.ineg dX12_yearBy_38 <| At.goto (tgt := 51) dX12_yearBy_39 (by decide) <| ?_
      obtain rfl := Option.some.inj h
      exact At.sub [3] rfl K51
    · refine At.iload dX12_yearBy_23 rfl <| At.iconst dX12_yearBy_25 (by decide) <| At.icmp_ne_t (tgt := 42) dX12_yearBy_26 (by decide) c9 <| ?_
      refine At.aloadn dX12_yearBy_42 rfl <| At.getR fl_X12_13 sh_130 (le149 sh_130) rf_130_1 dX12_yearBy_43 <| At.bipush dX12_yearBy_46 (by decide) <| At.iloadn dX12_yearBy_48 rfl <| At.iadd dX12_yearBy_49 <| ?_
      obtain ⟨v7, hv7, g8, h⟩ := rdA_e h
      refine At.iald sh_131 (le149 sh_131) g8.1 g8.2 dX12_yearBy_50 <| At.nm hv7 <| ?_
      obtain rfl := Option.some.inj h
      exact At.sub [3] rfl K51
def fX12_whyBy (p1 : Int) (p2 : Int) (p3 : Int) (p4 : Int) (S : SS) : Option (Int × SS) :=
  lt (w32 (Int.tdiv p2 20)) fun x1 =>
  rdA S 131 3303 (w32 (10 + p3)) fun v2 =>
  if x1 = v2 then (
    rdA S 131 3303 (w32 (18 + p3)) fun v4 =>
    Option.bind (
      if x1 = v4 then (
        some 1
      ) else (
        some 0
      )
      : Option (Int)) fun q6 =>
    Option.bind (fX12_lets p4 q6) fun q8 =>
    if q8 = true then (
      rdA S 131 3303 5 fun v9 =>
      if v9 = 1 then (
        Option.bind (fX12_reckons 1 p1 p3 (Int.tmod p2 20) q6 S) fun q11 =>
        if q11.1 = 0 then (
          some (3, q11.2)
        ) else (
          Option.bind (fX12_yearBy p1 p3 (Int.tmod p2 20) q6 q11.2) fun q12 =>
          Option.bind (fX12_isYear q12.1) fun q13 =>
          if q13 = true then (
            some (0, q12.2)
          ) else (
            some (4, q12.2)
          )
        )
      ) else (
        Option.bind (fX12_yearBy p1 p3 (Int.tmod p2 20) q6 S) fun q16 =>
        Option.bind (fX12_isYear q16.1) fun q17 =>
        if q17 = true then (
          some (0, q16.2)
        ) else (
          some (4, q16.2)
        )
      )
    ) else (
      some (2, S)
    )
  ) else (
    rdA S 131 3303 (w32 (18 + p3)) fun v21 =>
    if x1 = v21 then (
      rdA S 131 3303 (w32 (18 + p3)) fun v23 =>
      Option.bind (
        if x1 = v23 then (
          some 1
        ) else (
          some 0
        )
        : Option (Int)) fun q25 =>
      Option.bind (fX12_lets p4 q25) fun q27 =>
      if q27 = true then (
        rdA S 131 3303 5 fun v28 =>
        if v28 = 1 then (
          Option.bind (fX12_reckons 1 p1 p3 (Int.tmod p2 20) q25 S) fun q30 =>
          if q30.1 = 0 then (
            some (3, q30.2)
          ) else (
            Option.bind (fX12_yearBy p1 p3 (Int.tmod p2 20) q25 q30.2) fun q31 =>
            Option.bind (fX12_isYear q31.1) fun q32 =>
            if q32 = true then (
              some (0, q31.2)
            ) else (
              some (4, q31.2)
            )
          )
        ) else (
          Option.bind (fX12_yearBy p1 p3 (Int.tmod p2 20) q25 S) fun q35 =>
          Option.bind (fX12_isYear q35.1) fun q36 =>
          if q36 = true then (
            some (0, q35.2)
          ) else (
            some (4, q35.2)
          )
        )
      ) else (
        some (2, S)
      )
    ) else (
      some (2, S)
    )
  )
set_option maxRecDepth 100000 in
set_option maxHeartbeats 4000000 in
theorem rX12_whyBy {G : GG} {p1 : Int} {p2 : Int} {p3 : Int} {p4 : Int} {S : SS} {rr : (Int × SS)} (h : fX12_whyBy p1 p2 p3 p4 S = some rr) : RD G mX12_whyBy 4 [vr 130, vi p1, vi p2, vi p3, vi p4] S (some (vi rr.1)) rr.2 := by
  unfold fX12_whyBy at h
  refine Runs.of pl_X12 (Nat.le_of_ble_eq_true rfl) ?_
  show At G mX12_whyBy 4 0 [(0, vr 130), (1, vi p1), (2, vi p2), (3, vi p3), (4, vi p4)] [] (mm S) 0 0 (EQ (some (vi rr.1)) rr.2)
  refine At.iloadn dX12_whyBy_0 rfl <| At.bipush dX12_whyBy_1 (by decide) <| At.idiv dX12_whyBy_3 (by decide) <| ?_
  obtain ⟨x1, hx1, h⟩ := lt_e h
  refine At.nm hx1 <| At.istore (ls' := [(5, vi x1), (0, vr 130), (1, vi p1), (2, vi p2), (3, vi p3), (4, vi p4)]) dX12_whyBy_4 (by decide) rfl <| At.iload dX12_whyBy_6 rfl <| At.aloadn dX12_whyBy_8 rfl <| At.getR fl_X12_13 sh_130 (le149 sh_130) rf_130_1 dX12_whyBy_9 <| At.bipush dX12_whyBy_12 (by decide) <| At.iloadn dX12_whyBy_14 rfl <| At.iadd dX12_whyBy_15 <| ?_
  obtain ⟨v2, hv2, g3, h⟩ := rdA_e h
  rcases ite_e h with ⟨c41, h⟩ | ⟨c41, h⟩
  · refine At.iald sh_131 (le149 sh_131) g3.1 g3.2 dX12_whyBy_16 <| At.nm hv2 <| At.icmp_eq_t (tgt := 36) dX12_whyBy_17 (by decide) c41 <| ?_
    refine At.iload dX12_whyBy_36 rfl <| At.aloadn dX12_whyBy_38 rfl <| At.getR fl_X12_13 sh_130 (le149 sh_130) rf_130_1 dX12_whyBy_39 <| At.bipush dX12_whyBy_42 (by decide) <| At.iloadn dX12_whyBy_44 rfl <| At.iadd dX12_whyBy_45 <| ?_
    obtain ⟨v4, hv4, g5, h⟩ := rdA_e h
    obtain ⟨q6, hj55, h⟩ := bnd_e h
    have K55 : At G mX12_whyBy 4 55 [(0, vr 130), (1, vi p1), (2, vi p2), (3, vi p3), (4, vi p4)] [vi q6] (mm S) 0 0 (EQ (some (vi rr.1)) rr.2) := by
      refine At.istore (ls' := [(6, vi q6), (0, vr 130), (1, vi p1), (2, vi p2), (3, vi p3), (4, vi p4)]) dX12_whyBy_55 (by decide) rfl <| At.iload dX12_whyBy_57 rfl <| At.iload dX12_whyBy_59 rfl <| ?_
      obtain ⟨q8, hq8, h⟩ := bnd_e h
      rcases ite_e h with ⟨c20, h⟩ | ⟨c20, h⟩
      · refine At.cS1 (av := [vi p4, vi q6]) (rest := []) ms_X12_lets lk_X12_221 dX12_whyBy_61 rfl rfl (Nat.le_of_ble_eq_true rfl) (by decide) ⟨rfl, rfl⟩ (rX12_lets hq8) <| At.bifne_t (tgt := 69) dX12_whyBy_64 (by decide) c20 <| ?_
        refine At.aloadn dX12_whyBy_69 rfl <| At.getR fl_X12_13 sh_130 (le149 sh_130) rf_130_1 dX12_whyBy_70 <| At.iconst dX12_whyBy_73 (by decide) <| ?_
        obtain ⟨v9, hv9, g10, h⟩ := rdA_e h
        rcases ite_e h with ⟨c19, h⟩ | ⟨c19, h⟩
        · refine At.iald sh_131 (le149 sh_131) g10.1 g10.2 dX12_whyBy_74 <| At.nm hv9 <| At.iconst dX12_whyBy_75 (by decide) <| At.icmp_ne_f (tgt := 97) dX12_whyBy_76 (by decide) c19 <| ?_
          refine At.aloadn dX12_whyBy_79 rfl <| At.iconst dX12_whyBy_80 (by decide) <| At.iloadn dX12_whyBy_81 rfl <| At.iloadn dX12_whyBy_82 rfl <| At.iloadn dX12_whyBy_83 rfl <| At.bipush dX12_whyBy_84 (by decide) <| At.irem dX12_whyBy_86 (by decide) <| At.iload dX12_whyBy_87 rfl <| ?_
          obtain ⟨q11, hq11, h⟩ := bnd_e h
          rcases ite_e h with ⟨c15, h⟩ | ⟨c15, h⟩
          · refine At.cV1 (av := [vi 1, vi p1, vi p3, vi (Int.tmod p2 20), vi q6]) (rest := []) mv_X12_reckons lk_X12_217 dX12_whyBy_89 rfl rfl sh_130 (Nat.le_of_ble_eq_true rfl) (by decide) ⟨rfl, rfl⟩ (rX12_reckons hq11) <| At.if_ne_f (tgt := 97) dX12_whyBy_92 (by decide) c15 <| ?_
            refine At.iconst dX12_whyBy_95 (by decide) <| ?_
            obtain rfl := Option.some.inj h
            exact At.iret rfl (Nat.zero_le _) (Nat.zero_le _) ⟨rfl, rfl⟩ dX12_whyBy_96
          · refine At.cV1 (av := [vi 1, vi p1, vi p3, vi (Int.tmod p2 20), vi q6]) (rest := []) mv_X12_reckons lk_X12_217 dX12_whyBy_89 rfl rfl sh_130 (Nat.le_of_ble_eq_true rfl) (by decide) ⟨rfl, rfl⟩ (rX12_reckons hq11) <| At.if_ne_t (tgt := 97) dX12_whyBy_92 (by decide) c15 <| ?_
            refine At.aloadn dX12_whyBy_97 rfl <| At.iloadn dX12_whyBy_98 rfl <| At.iloadn dX12_whyBy_99 rfl <| At.iloadn dX12_whyBy_100 rfl <| At.bipush dX12_whyBy_101 (by decide) <| At.irem dX12_whyBy_103 (by decide) <| At.iload dX12_whyBy_104 rfl <| ?_
            obtain ⟨q12, hq12, h⟩ := bnd_e h
            refine At.cV1 (av := [vi p1, vi p3, vi (Int.tmod p2 20), vi q6]) (rest := []) mv_X12_yearBy lk_X12_225 dX12_whyBy_106 rfl rfl sh_130 (Nat.le_of_ble_eq_true rfl) (by decide) ⟨rfl, rfl⟩ (rX12_yearBy hq12) <| At.i2l dX12_whyBy_109 <| ?_
            obtain ⟨q13, hq13, h⟩ := bnd_e h
            rcases ite_e h with ⟨c14, h⟩ | ⟨c14, h⟩
            · refine At.cS1 (av := [vl q12.1]) (rest := []) ms_X12_isYear lk_X12_229 dX12_whyBy_110 rfl rfl (Nat.le_of_ble_eq_true rfl) (by decide) ⟨rfl, rfl⟩ (rX12_isYear hq13) <| At.bifeq_f (tgt := 120) dX12_whyBy_113 (by decide) c14 <| ?_
              refine At.iconst dX12_whyBy_116 (by decide) <| At.goto (tgt := 121) dX12_whyBy_117 (by decide) <| ?_
              obtain rfl := Option.some.inj h
              exact At.iret rfl (Nat.zero_le _) (Nat.zero_le _) ⟨rfl, rfl⟩ dX12_whyBy_121
            · refine At.cS1 (av := [vl q12.1]) (rest := []) ms_X12_isYear lk_X12_229 dX12_whyBy_110 rfl rfl (Nat.le_of_ble_eq_true rfl) (by decide) ⟨rfl, rfl⟩ (rX12_isYear hq13) <| At.bifeq_t (tgt := 120) dX12_whyBy_113 (by decide) c14 <| ?_
              refine At.iconst dX12_whyBy_120 (by decide) <| ?_
              obtain rfl := Option.some.inj h
              exact At.iret rfl (Nat.zero_le _) (Nat.zero_le _) ⟨rfl, rfl⟩ dX12_whyBy_121
        · refine At.iald sh_131 (le149 sh_131) g10.1 g10.2 dX12_whyBy_74 <| At.nm hv9 <| At.iconst dX12_whyBy_75 (by decide) <| At.icmp_ne_t (tgt := 97) dX12_whyBy_76 (by decide) c19 <| ?_
          refine At.aloadn dX12_whyBy_97 rfl <| At.iloadn dX12_whyBy_98 rfl <| At.iloadn dX12_whyBy_99 rfl <| At.iloadn dX12_whyBy_100 rfl <| At.bipush dX12_whyBy_101 (by decide) <| At.irem dX12_whyBy_103 (by decide) <| At.iload dX12_whyBy_104 rfl <| ?_
          obtain ⟨q16, hq16, h⟩ := bnd_e h
          refine At.cV1 (av := [vi p1, vi p3, vi (Int.tmod p2 20), vi q6]) (rest := []) mv_X12_yearBy lk_X12_225 dX12_whyBy_106 rfl rfl sh_130 (Nat.le_of_ble_eq_true rfl) (by decide) ⟨rfl, rfl⟩ (rX12_yearBy hq16) <| At.i2l dX12_whyBy_109 <| ?_
          obtain ⟨q17, hq17, h⟩ := bnd_e h
          rcases ite_e h with ⟨c18, h⟩ | ⟨c18, h⟩
          · refine At.cS1 (av := [vl q16.1]) (rest := []) ms_X12_isYear lk_X12_229 dX12_whyBy_110 rfl rfl (Nat.le_of_ble_eq_true rfl) (by decide) ⟨rfl, rfl⟩ (rX12_isYear hq17) <| At.bifeq_f (tgt := 120) dX12_whyBy_113 (by decide) c18 <| ?_
            refine At.iconst dX12_whyBy_116 (by decide) <| At.goto (tgt := 121) dX12_whyBy_117 (by decide) <| ?_
            obtain rfl := Option.some.inj h
            exact At.iret rfl (Nat.zero_le _) (Nat.zero_le _) ⟨rfl, rfl⟩ dX12_whyBy_121
          · refine At.cS1 (av := [vl q16.1]) (rest := []) ms_X12_isYear lk_X12_229 dX12_whyBy_110 rfl rfl (Nat.le_of_ble_eq_true rfl) (by decide) ⟨rfl, rfl⟩ (rX12_isYear hq17) <| At.bifeq_t (tgt := 120) dX12_whyBy_113 (by decide) c18 <| ?_
            refine At.iconst dX12_whyBy_120 (by decide) <| ?_
            obtain rfl := Option.some.inj h
            exact At.iret rfl (Nat.zero_le _) (Nat.zero_le _) ⟨rfl, rfl⟩ dX12_whyBy_121
      · refine At.cS1 (av := [vi p4, vi q6]) (rest := []) ms_X12_lets lk_X12_221 dX12_whyBy_61 rfl rfl (Nat.le_of_ble_eq_true rfl) (by decide) ⟨rfl, rfl⟩ (rX12_lets hq8) <| At.bifne_f (tgt := 69) dX12_whyBy_64 (by decide) c20 <| ?_
        refine At.iconst dX12_whyBy_67 (by decide) <| ?_
        obtain rfl := Option.some.inj h
        exact At.iret rfl (Nat.zero_le _) (Nat.zero_le _) ⟨rfl, rfl⟩ dX12_whyBy_68
    clear h; have h := hj55; clear hj55
    rcases ite_e h with ⟨c7, h⟩ | ⟨c7, h⟩
    · refine At.iald sh_131 (le149 sh_131) g5.1 g5.2 dX12_whyBy_46 <| At.nm hv4 <| At.icmp_ne_f (tgt := 54) dX12_whyBy_47 (by decide) c7 <| ?_
      refine At.iconst dX12_whyBy_50 (by decide) <| At.goto (tgt := 55) dX12_whyBy_51 (by decide) <| ?_
      obtain rfl := Option.some.inj h
      exact At.sub [1, 2, 3, 4, 5] rfl K55
    · refine At.iald sh_131 (le149 sh_131) g5.1 g5.2 dX12_whyBy_46 <| At.nm hv4 <| At.icmp_ne_t (tgt := 54) dX12_whyBy_47 (by decide) c7 <| ?_
      refine At.iconst dX12_whyBy_54 (by decide) <| ?_
      obtain rfl := Option.some.inj h
      exact At.sub [1, 2, 3, 4, 5] rfl K55
  · refine At.iald sh_131 (le149 sh_131) g3.1 g3.2 dX12_whyBy_16 <| At.nm hv2 <| At.icmp_eq_f (tgt := 36) dX12_whyBy_17 (by decide) c41 <| ?_
    refine At.iload dX12_whyBy_20 rfl <| At.aloadn dX12_whyBy_22 rfl <| At.getR fl_X12_13 sh_130 (le149 sh_130) rf_130_1 dX12_whyBy_23 <| At.bipush dX12_whyBy_26 (by decide) <| At.iloadn dX12_whyBy_28 rfl <| At.iadd dX12_whyBy_29 <| ?_
    obtain ⟨v21, hv21, g22, h⟩ := rdA_e h
    rcases ite_e h with ⟨c40, h⟩ | ⟨c40, h⟩
    · refine At.iald sh_131 (le149 sh_131) g22.1 g22.2 dX12_whyBy_30 <| At.nm hv21 <| At.icmp_eq_t (tgt := 36) dX12_whyBy_31 (by decide) c40 <| ?_
      refine At.iload dX12_whyBy_36 rfl <| At.aloadn dX12_whyBy_38 rfl <| At.getR fl_X12_13 sh_130 (le149 sh_130) rf_130_1 dX12_whyBy_39 <| At.bipush dX12_whyBy_42 (by decide) <| At.iloadn dX12_whyBy_44 rfl <| At.iadd dX12_whyBy_45 <| ?_
      obtain ⟨v23, hv23, g24, h⟩ := rdA_e h
      obtain ⟨q25, hj55, h⟩ := bnd_e h
      have K55 : At G mX12_whyBy 4 55 [(0, vr 130), (1, vi p1), (2, vi p2), (3, vi p3), (4, vi p4)] [vi q25] (mm S) 0 0 (EQ (some (vi rr.1)) rr.2) := by
        refine At.istore (ls' := [(6, vi q25), (0, vr 130), (1, vi p1), (2, vi p2), (3, vi p3), (4, vi p4)]) dX12_whyBy_55 (by decide) rfl <| At.iload dX12_whyBy_57 rfl <| At.iload dX12_whyBy_59 rfl <| ?_
        obtain ⟨q27, hq27, h⟩ := bnd_e h
        rcases ite_e h with ⟨c39, h⟩ | ⟨c39, h⟩
        · refine At.cS1 (av := [vi p4, vi q25]) (rest := []) ms_X12_lets lk_X12_221 dX12_whyBy_61 rfl rfl (Nat.le_of_ble_eq_true rfl) (by decide) ⟨rfl, rfl⟩ (rX12_lets hq27) <| At.bifne_t (tgt := 69) dX12_whyBy_64 (by decide) c39 <| ?_
          refine At.aloadn dX12_whyBy_69 rfl <| At.getR fl_X12_13 sh_130 (le149 sh_130) rf_130_1 dX12_whyBy_70 <| At.iconst dX12_whyBy_73 (by decide) <| ?_
          obtain ⟨v28, hv28, g29, h⟩ := rdA_e h
          rcases ite_e h with ⟨c38, h⟩ | ⟨c38, h⟩
          · refine At.iald sh_131 (le149 sh_131) g29.1 g29.2 dX12_whyBy_74 <| At.nm hv28 <| At.iconst dX12_whyBy_75 (by decide) <| At.icmp_ne_f (tgt := 97) dX12_whyBy_76 (by decide) c38 <| ?_
            refine At.aloadn dX12_whyBy_79 rfl <| At.iconst dX12_whyBy_80 (by decide) <| At.iloadn dX12_whyBy_81 rfl <| At.iloadn dX12_whyBy_82 rfl <| At.iloadn dX12_whyBy_83 rfl <| At.bipush dX12_whyBy_84 (by decide) <| At.irem dX12_whyBy_86 (by decide) <| At.iload dX12_whyBy_87 rfl <| ?_
            obtain ⟨q30, hq30, h⟩ := bnd_e h
            rcases ite_e h with ⟨c34, h⟩ | ⟨c34, h⟩
            · refine At.cV1 (av := [vi 1, vi p1, vi p3, vi (Int.tmod p2 20), vi q25]) (rest := []) mv_X12_reckons lk_X12_217 dX12_whyBy_89 rfl rfl sh_130 (Nat.le_of_ble_eq_true rfl) (by decide) ⟨rfl, rfl⟩ (rX12_reckons hq30) <| At.if_ne_f (tgt := 97) dX12_whyBy_92 (by decide) c34 <| ?_
              refine At.iconst dX12_whyBy_95 (by decide) <| ?_
              obtain rfl := Option.some.inj h
              exact At.iret rfl (Nat.zero_le _) (Nat.zero_le _) ⟨rfl, rfl⟩ dX12_whyBy_96
            · refine At.cV1 (av := [vi 1, vi p1, vi p3, vi (Int.tmod p2 20), vi q25]) (rest := []) mv_X12_reckons lk_X12_217 dX12_whyBy_89 rfl rfl sh_130 (Nat.le_of_ble_eq_true rfl) (by decide) ⟨rfl, rfl⟩ (rX12_reckons hq30) <| At.if_ne_t (tgt := 97) dX12_whyBy_92 (by decide) c34 <| ?_
              refine At.aloadn dX12_whyBy_97 rfl <| At.iloadn dX12_whyBy_98 rfl <| At.iloadn dX12_whyBy_99 rfl <| At.iloadn dX12_whyBy_100 rfl <| At.bipush dX12_whyBy_101 (by decide) <| At.irem dX12_whyBy_103 (by decide) <| At.iload dX12_whyBy_104 rfl <| ?_
              obtain ⟨q31, hq31, h⟩ := bnd_e h
              refine At.cV1 (av := [vi p1, vi p3, vi (Int.tmod p2 20), vi q25]) (rest := []) mv_X12_yearBy lk_X12_225 dX12_whyBy_106 rfl rfl sh_130 (Nat.le_of_ble_eq_true rfl) (by decide) ⟨rfl, rfl⟩ (rX12_yearBy hq31) <| At.i2l dX12_whyBy_109 <| ?_
              obtain ⟨q32, hq32, h⟩ := bnd_e h
              rcases ite_e h with ⟨c33, h⟩ | ⟨c33, h⟩
              · refine At.cS1 (av := [vl q31.1]) (rest := []) ms_X12_isYear lk_X12_229 dX12_whyBy_110 rfl rfl (Nat.le_of_ble_eq_true rfl) (by decide) ⟨rfl, rfl⟩ (rX12_isYear hq32) <| At.bifeq_f (tgt := 120) dX12_whyBy_113 (by decide) c33 <| ?_
                refine At.iconst dX12_whyBy_116 (by decide) <| At.goto (tgt := 121) dX12_whyBy_117 (by decide) <| ?_
                obtain rfl := Option.some.inj h
                exact At.iret rfl (Nat.zero_le _) (Nat.zero_le _) ⟨rfl, rfl⟩ dX12_whyBy_121
              · refine At.cS1 (av := [vl q31.1]) (rest := []) ms_X12_isYear lk_X12_229 dX12_whyBy_110 rfl rfl (Nat.le_of_ble_eq_true rfl) (by decide) ⟨rfl, rfl⟩ (rX12_isYear hq32) <| At.bifeq_t (tgt := 120) dX12_whyBy_113 (by decide) c33 <| ?_
                refine At.iconst dX12_whyBy_120 (by decide) <| ?_
                obtain rfl := Option.some.inj h
                exact At.iret rfl (Nat.zero_le _) (Nat.zero_le _) ⟨rfl, rfl⟩ dX12_whyBy_121
          · refine At.iald sh_131 (le149 sh_131) g29.1 g29.2 dX12_whyBy_74 <| At.nm hv28 <| At.iconst dX12_whyBy_75 (by decide) <| At.icmp_ne_t (tgt := 97) dX12_whyBy_76 (by decide) c38 <| ?_
            refine At.aloadn dX12_whyBy_97 rfl <| At.iloadn dX12_whyBy_98 rfl <| At.iloadn dX12_whyBy_99 rfl <| At.iloadn dX12_whyBy_100 rfl <| At.bipush dX12_whyBy_101 (by decide) <| At.irem dX12_whyBy_103 (by decide) <| At.iload dX12_whyBy_104 rfl <| ?_
            obtain ⟨q35, hq35, h⟩ := bnd_e h
            refine At.cV1 (av := [vi p1, vi p3, vi (Int.tmod p2 20), vi q25]) (rest := []) mv_X12_yearBy lk_X12_225 dX12_whyBy_106 rfl rfl sh_130 (Nat.le_of_ble_eq_true rfl) (by decide) ⟨rfl, rfl⟩ (rX12_yearBy hq35) <| At.i2l dX12_whyBy_109 <| ?_
            obtain ⟨q36, hq36, h⟩ := bnd_e h
            rcases ite_e h with ⟨c37, h⟩ | ⟨c37, h⟩
            · refine At.cS1 (av := [vl q35.1]) (rest := []) ms_X12_isYear lk_X12_229 dX12_whyBy_110 rfl rfl (Nat.le_of_ble_eq_true rfl) (by decide) ⟨rfl, rfl⟩ (rX12_isYear hq36) <| At.bifeq_f (tgt := 120) dX12_whyBy_113 (by decide) c37 <| ?_
              refine At.iconst dX12_whyBy_116 (by decide) <| At.goto (tgt := 121) dX12_whyBy_117 (by decide) <| ?_
              obtain rfl := Option.some.inj h
              exact At.iret rfl (Nat.zero_le _) (Nat.zero_le _) ⟨rfl, rfl⟩ dX12_whyBy_121
            · refine At.cS1 (av := [vl q35.1]) (rest := []) ms_X12_isYear lk_X12_229 dX12_whyBy_110 rfl rfl (Nat.le_of_ble_eq_true rfl) (by decide) ⟨rfl, rfl⟩ (rX12_isYear hq36) <| At.bifeq_t (tgt := 120) dX12_whyBy_113 (by decide) c37 <| ?_
              refine At.iconst dX12_whyBy_120 (by decide) <| ?_
              obtain rfl := Option.some.inj h
              exact At.iret rfl (Nat.zero_le _) (Nat.zero_le _) ⟨rfl, rfl⟩ dX12_whyBy_121
        · refine At.cS1 (av := [vi p4, vi q25]) (rest := []) ms_X12_lets lk_X12_221 dX12_whyBy_61 rfl rfl (Nat.le_of_ble_eq_true rfl) (by decide) ⟨rfl, rfl⟩ (rX12_lets hq27) <| At.bifne_f (tgt := 69) dX12_whyBy_64 (by decide) c39 <| ?_
          refine At.iconst dX12_whyBy_67 (by decide) <| ?_
          obtain rfl := Option.some.inj h
          exact At.iret rfl (Nat.zero_le _) (Nat.zero_le _) ⟨rfl, rfl⟩ dX12_whyBy_68
      clear h; have h := hj55; clear hj55
      rcases ite_e h with ⟨c26, h⟩ | ⟨c26, h⟩
      · refine At.iald sh_131 (le149 sh_131) g24.1 g24.2 dX12_whyBy_46 <| At.nm hv23 <| At.icmp_ne_f (tgt := 54) dX12_whyBy_47 (by decide) c26 <| ?_
        refine At.iconst dX12_whyBy_50 (by decide) <| At.goto (tgt := 55) dX12_whyBy_51 (by decide) <| ?_
        obtain rfl := Option.some.inj h
        exact At.sub [1, 2, 3, 4, 5] rfl K55
      · refine At.iald sh_131 (le149 sh_131) g24.1 g24.2 dX12_whyBy_46 <| At.nm hv23 <| At.icmp_ne_t (tgt := 54) dX12_whyBy_47 (by decide) c26 <| ?_
        refine At.iconst dX12_whyBy_54 (by decide) <| ?_
        obtain rfl := Option.some.inj h
        exact At.sub [1, 2, 3, 4, 5] rfl K55
    · refine At.iald sh_131 (le149 sh_131) g22.1 g22.2 dX12_whyBy_30 <| At.nm hv21 <| At.icmp_eq_f (tgt := 36) dX12_whyBy_31 (by decide) c40 <| ?_
      refine At.iconst dX12_whyBy_34 (by decide) <| ?_
      obtain rfl := Option.some.inj h
      exact At.iret rfl (Nat.zero_le _) (Nat.zero_le _) ⟨rfl, rfl⟩ dX12_whyBy_35
def fX12_goneTo (p1 : Int) (p2 : Int) (p3 : Int) (S : SS) : Option (Int × SS) :=
  rdA S 131 3303 (w32 (18 + p3)) fun v1 =>
  Option.bind (
    if (w32 (Int.tdiv p2 20)) = v1 then (
      some 1
    ) else (
      some 0
    )
    : Option (Int)) fun q3 =>
  Option.bind (
    if q3 = 1 then (
      rdA S 131 3303 (w32 (10 + p3)) fun v6 =>
      some v6
    ) else (
      rdA S 131 3303 (w32 (18 + p3)) fun v8 =>
      some v8
    )
    : Option (Int)) fun q5 =>
  Option.bind (fX12_yearBy p1 p3 (Int.tmod p2 20) q3 S) fun q11 =>
  some (w32 ((w32 (20 * q5)) + q11.1), q11.2)
set_option maxRecDepth 100000 in
set_option maxHeartbeats 4000000 in
theorem rX12_goneTo {G : GG} {p1 : Int} {p2 : Int} {p3 : Int} {S : SS} {rr : (Int × SS)} (h : fX12_goneTo p1 p2 p3 S = some rr) : RD G mX12_goneTo 4 [vr 130, vi p1, vi p2, vi p3] S (some (vi rr.1)) rr.2 := by
  unfold fX12_goneTo at h
  refine Runs.of pl_X12 (Nat.le_of_ble_eq_true rfl) ?_
  show At G mX12_goneTo 4 0 [(0, vr 130), (1, vi p1), (2, vi p2), (3, vi p3)] [] (mm S) 0 0 (EQ (some (vi rr.1)) rr.2)
  refine At.iloadn dX12_goneTo_0 rfl <| At.bipush dX12_goneTo_1 (by decide) <| At.idiv dX12_goneTo_3 (by decide) <| At.aloadn dX12_goneTo_4 rfl <| At.getR fl_X12_13 sh_130 (le149 sh_130) rf_130_1 dX12_goneTo_5 <| At.bipush dX12_goneTo_8 (by decide) <| At.iloadn dX12_goneTo_10 rfl <| At.iadd dX12_goneTo_11 <| ?_
  obtain ⟨v1, hv1, g2, h⟩ := rdA_e h
  obtain ⟨q3, hj21, h⟩ := bnd_e h
  have K21 : At G mX12_goneTo 4 21 [(0, vr 130), (1, vi p1), (2, vi p2), (3, vi p3)] [vi q3] (mm S) 0 0 (EQ (some (vi rr.1)) rr.2) := by
    obtain ⟨q5, hj50, h⟩ := bnd_e h
    have K50 : At G mX12_goneTo 4 50 [(0, vr 130), (1, vi p1), (2, vi p2), (3, vi p3), (4, vi q3)] [vi q5] (mm S) 0 0 (EQ (some (vi rr.1)) rr.2) := by
      refine At.istore (ls' := [(5, vi q5), (0, vr 130), (1, vi p1), (2, vi p2), (3, vi p3), (4, vi q3)]) dX12_goneTo_50 (by decide) rfl <| At.bipush dX12_goneTo_52 (by decide) <| At.iload dX12_goneTo_54 rfl <| At.imul dX12_goneTo_56 <| At.aloadn dX12_goneTo_57 rfl <| At.iloadn dX12_goneTo_58 rfl <| At.iloadn dX12_goneTo_59 rfl <| At.iloadn dX12_goneTo_60 rfl <| At.bipush dX12_goneTo_61 (by decide) <| At.irem dX12_goneTo_63 (by decide) <| At.iload dX12_goneTo_64 rfl <| ?_
      obtain ⟨q11, hq11, h⟩ := bnd_e h
      refine At.cV1 (av := [vi p1, vi p3, vi (Int.tmod p2 20), vi q3]) (rest := [vi (w32 (20 * q5))]) mv_X12_yearBy lk_X12_225 dX12_goneTo_66 rfl rfl sh_130 (Nat.le_of_ble_eq_true rfl) (by decide) ⟨rfl, rfl⟩ (rX12_yearBy hq11) <| At.iadd dX12_goneTo_69 <| ?_
      obtain rfl := Option.some.inj h
      exact At.iret rfl (Nat.zero_le _) (Nat.zero_le _) ⟨rfl, rfl⟩ dX12_goneTo_70
    clear h; have h := hj50; clear hj50
    rcases ite_e h with ⟨c10, h⟩ | ⟨c10, h⟩
    · refine At.istore (ls' := [(4, vi q3), (0, vr 130), (1, vi p1), (2, vi p2), (3, vi p3)]) dX12_goneTo_21 (by decide) rfl <| At.iload dX12_goneTo_23 rfl <| At.iconst dX12_goneTo_25 (by decide) <| At.icmp_ne_f (tgt := 41) dX12_goneTo_26 (by decide) c10 <| ?_
      refine At.aloadn dX12_goneTo_29 rfl <| At.getR fl_X12_13 sh_130 (le149 sh_130) rf_130_1 dX12_goneTo_30 <| At.bipush dX12_goneTo_33 (by decide) <| At.iloadn dX12_goneTo_35 rfl <| At.iadd dX12_goneTo_36 <| ?_
      obtain ⟨v6, hv6, g7, h⟩ := rdA_e h
      refine At.iald sh_131 (le149 sh_131) g7.1 g7.2 dX12_goneTo_37 <| At.nm hv6 <| At.goto (tgt := 50) dX12_goneTo_38 (by decide) <| ?_
      obtain rfl := Option.some.inj h
      exact At.sub [1, 2, 3, 4, 0] rfl K50
    · refine At.istore (ls' := [(4, vi q3), (0, vr 130), (1, vi p1), (2, vi p2), (3, vi p3)]) dX12_goneTo_21 (by decide) rfl <| At.iload dX12_goneTo_23 rfl <| At.iconst dX12_goneTo_25 (by decide) <| At.icmp_ne_t (tgt := 41) dX12_goneTo_26 (by decide) c10 <| ?_
      refine At.aloadn dX12_goneTo_41 rfl <| At.getR fl_X12_13 sh_130 (le149 sh_130) rf_130_1 dX12_goneTo_42 <| At.bipush dX12_goneTo_45 (by decide) <| At.iloadn dX12_goneTo_47 rfl <| At.iadd dX12_goneTo_48 <| ?_
      obtain ⟨v8, hv8, g9, h⟩ := rdA_e h
      refine At.iald sh_131 (le149 sh_131) g9.1 g9.2 dX12_goneTo_49 <| At.nm hv8 <| ?_
      obtain rfl := Option.some.inj h
      exact At.sub [1, 2, 3, 4, 0] rfl K50
  clear h; have h := hj21; clear hj21
  rcases ite_e h with ⟨c4, h⟩ | ⟨c4, h⟩
  · refine At.iald sh_131 (le149 sh_131) g2.1 g2.2 dX12_goneTo_12 <| At.nm hv1 <| At.icmp_ne_f (tgt := 20) dX12_goneTo_13 (by decide) c4 <| ?_
    refine At.iconst dX12_goneTo_16 (by decide) <| At.goto (tgt := 21) dX12_goneTo_17 (by decide) <| ?_
    obtain rfl := Option.some.inj h
    exact At.sub [0, 1, 2, 3] rfl K21
  · refine At.iald sh_131 (le149 sh_131) g2.1 g2.2 dX12_goneTo_12 <| At.nm hv1 <| At.icmp_ne_t (tgt := 20) dX12_goneTo_13 (by decide) c4 <| ?_
    refine At.iconst dX12_goneTo_20 (by decide) <| ?_
    obtain rfl := Option.some.inj h
    exact At.sub [0, 1, 2, 3] rfl K21
def fX12_whyGo (p1 : Int) (p3 : Int) (S : SS) : Option (Int × SS) :=
  Option.bind (fX12_isGoer p1 S) fun q1 =>
  if q1 = true then (
    Option.bind (fX12_isStreet p3 S) fun q2 =>
    if q2 = true then (
      Option.bind (fX12_standOf (w32 p1) S) fun q3 =>
      rdA S 131 3303 (w32 (40 + (w32 p3))) fun v4 =>
      Option.bind (fX12_whyBy (w32 p1) q3 (w32 p3) v4 S) fun q6 =>
      some (q6.1, q6.2)
    ) else (
      some (1, S)
    )
  ) else (
    some (1, S)
  )
set_option maxRecDepth 100000 in
set_option maxHeartbeats 4000000 in
theorem rX12_whyGo {G : GG} {p1 : Int} {p3 : Int} {S : SS} {rr : (Int × SS)} (h : fX12_whyGo p1 p3 S = some rr) : RD G mX12_whyGo 5 [vr 130, vl p1, vl p3] S (some (vi rr.1)) rr.2 := by
  unfold fX12_whyGo at h
  refine Runs.of pl_X12 (Nat.le_of_ble_eq_true rfl) ?_
  show At G mX12_whyGo 5 0 [(0, vr 130), (1, vl p1), (3, vl p3)] [] (mm S) 0 0 (EQ (some (vi rr.1)) rr.2)
  refine At.aloadn dX12_whyGo_0 rfl <| At.lloadn dX12_whyGo_1 rfl <| ?_
  obtain ⟨q1, hq1, h⟩ := bnd_e h
  rcases ite_e h with ⟨c8, h⟩ | ⟨c8, h⟩
  · refine At.cV1 (av := [vl p1]) (rest := []) mv_X12_isGoer lk_X12_233 dX12_whyGo_2 rfl rfl sh_130 (Nat.le_of_ble_eq_true rfl) (by decide) ⟨rfl, rfl⟩ (rX12_isGoer hq1) <| At.bifeq_f (tgt := 16) dX12_whyGo_5 (by decide) c8 <| ?_
    refine At.aloadn dX12_whyGo_8 rfl <| At.lloadn dX12_whyGo_9 rfl <| ?_
    obtain ⟨q2, hq2, h⟩ := bnd_e h
    rcases ite_e h with ⟨c7, h⟩ | ⟨c7, h⟩
    · refine At.cV1 (av := [vl p3]) (rest := []) mv_X12_isStreet lk_X12_236 dX12_whyGo_10 rfl rfl sh_130 (Nat.le_of_ble_eq_true rfl) (by decide) ⟨rfl, rfl⟩ (rX12_isStreet hq2) <| At.bifne_t (tgt := 18) dX12_whyGo_13 (by decide) c7 <| ?_
      refine At.aloadn dX12_whyGo_18 rfl <| At.lloadn dX12_whyGo_19 rfl <| At.l2i dX12_whyGo_20 <| At.aloadn dX12_whyGo_21 rfl <| At.lloadn dX12_whyGo_22 rfl <| At.l2i dX12_whyGo_23 <| ?_
      obtain ⟨q3, hq3, h⟩ := bnd_e h
      refine At.cV1 (av := [vi (w32 p1)]) (rest := [vi (w32 p1), vr 130]) mv_X12_standOf lk_X12_239 dX12_whyGo_24 rfl rfl sh_130 (Nat.le_of_ble_eq_true rfl) (by decide) ⟨rfl, rfl⟩ (rX12_standOf hq3) <| At.lloadn dX12_whyGo_27 rfl <| At.l2i dX12_whyGo_28 <| At.aloadn dX12_whyGo_29 rfl <| At.getR fl_X12_13 sh_130 (le149 sh_130) rf_130_1 dX12_whyGo_30 <| At.bipush dX12_whyGo_33 (by decide) <| At.lloadn dX12_whyGo_35 rfl <| At.l2i dX12_whyGo_36 <| At.iadd dX12_whyGo_37 <| ?_
      obtain ⟨v4, hv4, g5, h⟩ := rdA_e h
      refine At.iald sh_131 (le149 sh_131) g5.1 g5.2 dX12_whyGo_38 <| At.nm hv4 <| ?_
      obtain ⟨q6, hq6, h⟩ := bnd_e h
      refine At.cV1 (av := [vi (w32 p1), vi q3, vi (w32 p3), vi v4]) (rest := []) mv_X12_whyBy lk_X12_242 dX12_whyGo_39 rfl rfl sh_130 (Nat.le_of_ble_eq_true rfl) (by decide) ⟨rfl, rfl⟩ (rX12_whyBy hq6) <| ?_
      obtain rfl := Option.some.inj h
      exact At.iret rfl (Nat.zero_le _) (Nat.zero_le _) ⟨rfl, rfl⟩ dX12_whyGo_42
    · refine At.cV1 (av := [vl p3]) (rest := []) mv_X12_isStreet lk_X12_236 dX12_whyGo_10 rfl rfl sh_130 (Nat.le_of_ble_eq_true rfl) (by decide) ⟨rfl, rfl⟩ (rX12_isStreet hq2) <| At.bifne_f (tgt := 18) dX12_whyGo_13 (by decide) c7 <| ?_
      refine At.iconst dX12_whyGo_16 (by decide) <| ?_
      obtain rfl := Option.some.inj h
      exact At.iret rfl (Nat.zero_le _) (Nat.zero_le _) ⟨rfl, rfl⟩ dX12_whyGo_17
  · refine At.cV1 (av := [vl p1]) (rest := []) mv_X12_isGoer lk_X12_233 dX12_whyGo_2 rfl rfl sh_130 (Nat.le_of_ble_eq_true rfl) (by decide) ⟨rfl, rfl⟩ (rX12_isGoer hq1) <| At.bifeq_t (tgt := 16) dX12_whyGo_5 (by decide) c8 <| ?_
    refine At.iconst dX12_whyGo_16 (by decide) <| ?_
    obtain rfl := Option.some.inj h
    exact At.iret rfl (Nat.zero_le _) (Nat.zero_le _) ⟨rfl, rfl⟩ dX12_whyGo_17
def fX12_street (p1 : Int) (p2 : Int) (S : SS) : Option (Int × SS) :=
  lt (up S 130 0 0) fun S1 =>
  Option.bind (fX12_isStreet p1 S1) fun q2 =>
  if q2 = true then (
    if p2 = 0 then (
      rdA S1 131 3303 (w32 (10 + p1)) fun v4 =>
      some (v4, S1)
    ) else (
      if p2 = 1 then (
        rdA S1 131 3303 (w32 (18 + p1)) fun v7 =>
        some (v7, S1)
      ) else (
        if p2 = 2 then (
          rdA S1 131 3303 (w32 (40 + p1)) fun v10 =>
          some (v10, S1)
        ) else (
          if p2 = 3 then (
            rdA S1 131 3303 (w32 (26 + p1)) fun v13 =>
            some (w32 (50 + v13), S1)
          ) else (
            some ((-2), S1)
          )
        )
      )
    )
  ) else (
    some ((-2), S1)
  )
set_option maxRecDepth 100000 in
set_option maxHeartbeats 4000000 in
theorem rX12_street {G : GG} {p1 : Int} {p2 : Int} {S : SS} {rr : (Int × SS)} (h : fX12_street p1 p2 S = some rr) : RD G mX12_street 3 [vr 130, vi p1, vi p2] S (some (vi rr.1)) rr.2 := by
  unfold fX12_street at h
  refine Runs.of pl_X12 (Nat.le_of_ble_eq_true rfl) ?_
  show At G mX12_street 3 0 [(0, vr 130), (1, vi p1), (2, vi p2)] [] (mm S) 0 0 (EQ (some (vi rr.1)) rr.2)
  refine At.aloadn dX12_street_0 rfl <| At.iconst dX12_street_1 (by decide) <| ?_
  obtain ⟨S1, hS1, h⟩ := lt_e h
  refine At.putI fw_X12_1 sh_130 (le149 sh_130) dX12_street_2 <| At.nmS hS1 <| At.aloadn dX12_street_5 rfl <| At.iloadn dX12_street_6 rfl <| At.i2l dX12_street_7 <| ?_
  obtain ⟨q2, hq2, h⟩ := bnd_e h
  rcases ite_e h with ⟨c15, h⟩ | ⟨c15, h⟩
  · refine At.cV1 (av := [vl p1]) (rest := []) mv_X12_isStreet lk_X12_236 dX12_street_8 rfl rfl sh_130 (Nat.le_of_ble_eq_true rfl) (by decide) ⟨rfl, rfl⟩ (rX12_isStreet hq2) <| At.bifne_t (tgt := 17) dX12_street_11 (by decide) c15 <| ?_
    rcases ite_e h with ⟨c3, h⟩ | ⟨c3, h⟩
    · refine At.iloadn dX12_street_17 rfl <| At.tsIn (off := 30) (tgt := 48) dX12_street_18 (by omega) (by omega) (by rw [c3] <;> rfl) (by decide) <| ?_
      refine At.aloadn dX12_street_48 rfl <| At.getR fl_X12_13 sh_130 (le149 sh_130) rf_130_1 dX12_street_49 <| At.bipush dX12_street_52 (by decide) <| At.iloadn dX12_street_54 rfl <| At.iadd dX12_street_55 <| ?_
      obtain ⟨v4, hv4, g5, h⟩ := rdA_e h
      refine At.iald sh_131 (le149 sh_131) g5.1 g5.2 dX12_street_56 <| At.nm hv4 <| ?_
      obtain rfl := Option.some.inj h
      exact At.iret rfl (Nat.zero_le _) (Nat.zero_le _) ⟨rfl, rfl⟩ dX12_street_57
    · rcases ite_e h with ⟨c6, h⟩ | ⟨c6, h⟩
      · refine At.iloadn dX12_street_17 rfl <| At.tsIn (off := 40) (tgt := 58) dX12_street_18 (by omega) (by omega) (by rw [c6] <;> rfl) (by decide) <| ?_
        refine At.aloadn dX12_street_58 rfl <| At.getR fl_X12_13 sh_130 (le149 sh_130) rf_130_1 dX12_street_59 <| At.bipush dX12_street_62 (by decide) <| At.iloadn dX12_street_64 rfl <| At.iadd dX12_street_65 <| ?_
        obtain ⟨v7, hv7, g8, h⟩ := rdA_e h
        refine At.iald sh_131 (le149 sh_131) g8.1 g8.2 dX12_street_66 <| At.nm hv7 <| ?_
        obtain rfl := Option.some.inj h
        exact At.iret rfl (Nat.zero_le _) (Nat.zero_le _) ⟨rfl, rfl⟩ dX12_street_67
      · rcases ite_e h with ⟨c9, h⟩ | ⟨c9, h⟩
        · refine At.iloadn dX12_street_17 rfl <| At.tsIn (off := 50) (tgt := 68) dX12_street_18 (by omega) (by omega) (by rw [c9] <;> rfl) (by decide) <| ?_
          refine At.aloadn dX12_street_68 rfl <| At.getR fl_X12_13 sh_130 (le149 sh_130) rf_130_1 dX12_street_69 <| At.bipush dX12_street_72 (by decide) <| At.iloadn dX12_street_74 rfl <| At.iadd dX12_street_75 <| ?_
          obtain ⟨v10, hv10, g11, h⟩ := rdA_e h
          refine At.iald sh_131 (le149 sh_131) g11.1 g11.2 dX12_street_76 <| At.nm hv10 <| ?_
          obtain rfl := Option.some.inj h
          exact At.iret rfl (Nat.zero_le _) (Nat.zero_le _) ⟨rfl, rfl⟩ dX12_street_77
        · rcases ite_e h with ⟨c12, h⟩ | ⟨c12, h⟩
          · refine At.iloadn dX12_street_17 rfl <| At.tsIn (off := 60) (tgt := 78) dX12_street_18 (by omega) (by omega) (by rw [c12] <;> rfl) (by decide) <| ?_
            refine At.bipush dX12_street_78 (by decide) <| At.aloadn dX12_street_80 rfl <| At.getR fl_X12_13 sh_130 (le149 sh_130) rf_130_1 dX12_street_81 <| At.bipush dX12_street_84 (by decide) <| At.iloadn dX12_street_86 rfl <| At.iadd dX12_street_87 <| ?_
            obtain ⟨v13, hv13, g14, h⟩ := rdA_e h
            refine At.iald sh_131 (le149 sh_131) g14.1 g14.2 dX12_street_88 <| At.nm hv13 <| At.iadd dX12_street_89 <| ?_
            obtain rfl := Option.some.inj h
            exact At.iret rfl (Nat.zero_le _) (Nat.zero_le _) ⟨rfl, rfl⟩ dX12_street_90
          · have hz : (p2 < 0 ∨ 3 < p2) := by omega
            refine At.iloadn dX12_street_17 rfl <| At.tsOut (tgt := 91) dX12_street_18 hz (by decide) <| ?_
            refine At.bipush dX12_street_91 (by decide) <| ?_
            obtain rfl := Option.some.inj h
            exact At.iret rfl (Nat.zero_le _) (Nat.zero_le _) ⟨rfl, rfl⟩ dX12_street_93
  · refine At.cV1 (av := [vl p1]) (rest := []) mv_X12_isStreet lk_X12_236 dX12_street_8 rfl rfl sh_130 (Nat.le_of_ble_eq_true rfl) (by decide) ⟨rfl, rfl⟩ (rX12_isStreet hq2) <| At.bifne_f (tgt := 17) dX12_street_11 (by decide) c15 <| ?_
    refine At.bipush dX12_street_14 (by decide) <| ?_
    obtain rfl := Option.some.inj h
    exact At.iret rfl (Nat.zero_le _) (Nat.zero_le _) ⟨rfl, rfl⟩ dX12_street_16
def fX12_goer_L63 (l1 : Int) : Nat → Int → Int → SS → Option (Int × SS)
  | 0, _, _, _ => none
  | n + 1, l3, l4, S =>
    rdA S 131 3303 2 fun v1 =>
    if v1 ≤ l4 then (
      some (l3, S)
    ) else (
      Option.bind (fX12_whyGo l1 l4 S) fun q3 =>
      Option.bind (
        if q3.1 = 0 then (
          some (jshl 1 l4)
        ) else (
          some 0
        )
        : Option (Int)) fun q4 =>
      lt (jor l3 q4) fun x6 =>
      lt (w32 (l4 + 1)) fun x7 =>
      fX12_goer_L63 l1 n x6 x7 q3.2
    )
def fX12_goer (p1 : Int) (p2 : Int) (S : SS) : Option (Int × SS) :=
  lt (up S 130 0 0) fun S1 =>
  Option.bind (fX12_isGoer p1 S1) fun q2 =>
  if q2 = true then (
    Option.bind (fX12_within p2 0 2) fun q3 =>
    if q3 = true then (
      if p2 = 0 then (
        rdA S1 131 3303 (w32 (34 + p1)) fun v4 =>
        some (v4, S1)
      ) else (
        if p2 = 1 then (
          rdA S1 131 3303 (w32 (37 + p1)) fun v6 =>
          some (v6, S1)
        ) else (
          Option.bind (fX12_goer_L63 p1 FU 0 0 S1) fun q8 =>
          some (q8.1, q8.2)
        )
      )
    ) else (
      some ((-2), S1)
    )
  ) else (
    some ((-2), S1)
  )
set_option maxRecDepth 100000 in
set_option maxHeartbeats 4000000 in
theorem lX12_goer_L63 {G : GG} {Φ : Option VV → MM → Prop} {l1 : Int} : ∀ (n : Nat) (l3 : Int) (l4 : Int) (S : SS) (q : Int × SS), fX12_goer_L63 l1 n l3 l4 S = some q → At G mX12_goer 6 103 [(3, vi q.1)] [] (mm q.2) 0 0 Φ → At G mX12_goer 6 63 [(0, vr 130), (1, vi l1), (3, vi l3), (4, vi l4)] [] (mm S) 0 0 Φ := by
  intro n
  induction n with
  | zero =>
    intro _ _ _ _ h
    cases h
  | succ n ih =>
    intro l3 l4 S q h K103
    unfold fX12_goer_L63 at h
    refine At.iload dX12_goer_63 rfl <| At.aloadn dX12_goer_65 rfl <| At.getR fl_X12_13 sh_130 (le149 sh_130) rf_130_1 dX12_goer_66 <| At.iconst dX12_goer_69 (by decide) <| ?_
    obtain ⟨v1, hv1, g2, h⟩ := rdA_e h
    rcases ite_e h with ⟨c8, h⟩ | ⟨c8, h⟩
    · refine At.iald sh_131 (le149 sh_131) g2.1 g2.2 dX12_goer_70 <| At.nm hv1 <| At.icmp_ge_t (tgt := 103) dX12_goer_71 (by decide) c8 <| ?_
      obtain rfl := Option.some.inj h
      exact At.sub [2] rfl K103
    · refine At.iald sh_131 (le149 sh_131) g2.1 g2.2 dX12_goer_70 <| At.nm hv1 <| At.icmp_ge_f (tgt := 103) dX12_goer_71 (by decide) c8 <| ?_
      refine At.iloadn dX12_goer_74 rfl <| At.aloadn dX12_goer_75 rfl <| At.iloadn dX12_goer_76 rfl <| At.i2l dX12_goer_77 <| At.iload dX12_goer_78 rfl <| At.i2l dX12_goer_80 <| ?_
      obtain ⟨q3, hq3, h⟩ := bnd_e h
      obtain ⟨q4, hj95, h⟩ := bnd_e h
      have K95 : At G mX12_goer 6 95 [(0, vr 130), (1, vi l1), (4, vi l4)] [vi q4, vi l3] (mm q3.2) 0 0 Φ := by
        refine At.ior dX12_goer_95 <| ?_
        obtain ⟨x6, hx6, h⟩ := lt_e h
        refine At.nm hx6 <| At.istoren (ls' := [(3, vi x6), (0, vr 130), (1, vi l1), (4, vi l4)]) dX12_goer_96 (by decide) rfl <| ?_
        obtain ⟨x7, hx7, h⟩ := lt_e h
        refine At.iinc (ls' := [(4, vi x7), (3, vi x6), (0, vr 130), (1, vi l1)]) dX12_goer_97 rfl (by decide) (by rw [hx7]; rfl) <| At.goto (tgt := 63) dX12_goer_100 (by decide) <| ?_
        exact At.sub [2, 3, 1, 0] rfl (ih _ _ _ _ h K103)
      clear h; have h := hj95; clear hj95
      rcases ite_e h with ⟨c5, h⟩ | ⟨c5, h⟩
      · refine At.cV1 (av := [vl l1, vl l4]) (rest := [vi l3]) mv_X12_whyGo lk_X12_247 dX12_goer_81 rfl rfl sh_130 (Nat.le_of_ble_eq_true rfl) (by decide) ⟨rfl, rfl⟩ (rX12_whyGo hq3) <| At.if_ne_f (tgt := 94) dX12_goer_84 (by decide) c5 <| ?_
        refine At.iconst dX12_goer_87 (by decide) <| At.iload dX12_goer_88 rfl <| At.ishl dX12_goer_90 <| At.goto (tgt := 95) dX12_goer_91 (by decide) <| ?_
        obtain rfl := Option.some.inj h
        exact At.sub [0, 1, 3] rfl K95
      · refine At.cV1 (av := [vl l1, vl l4]) (rest := [vi l3]) mv_X12_whyGo lk_X12_247 dX12_goer_81 rfl rfl sh_130 (Nat.le_of_ble_eq_true rfl) (by decide) ⟨rfl, rfl⟩ (rX12_whyGo hq3) <| At.if_ne_t (tgt := 94) dX12_goer_84 (by decide) c5 <| ?_
        refine At.iconst dX12_goer_94 (by decide) <| ?_
        obtain rfl := Option.some.inj h
        exact At.sub [0, 1, 3] rfl K95
set_option maxRecDepth 100000 in
set_option maxHeartbeats 4000000 in
theorem rX12_goer {G : GG} {p1 : Int} {p2 : Int} {S : SS} {rr : (Int × SS)} (h : fX12_goer p1 p2 S = some rr) : RD G mX12_goer 6 [vr 130, vi p1, vi p2] S (some (vi rr.1)) rr.2 := by
  unfold fX12_goer at h
  refine Runs.of pl_X12 (Nat.le_of_ble_eq_true rfl) ?_
  show At G mX12_goer 6 0 [(0, vr 130), (1, vi p1), (2, vi p2)] [] (mm S) 0 0 (EQ (some (vi rr.1)) rr.2)
  refine At.aloadn dX12_goer_0 rfl <| At.iconst dX12_goer_1 (by decide) <| ?_
  obtain ⟨S1, hS1, h⟩ := lt_e h
  refine At.putI fw_X12_1 sh_130 (le149 sh_130) dX12_goer_2 <| At.nmS hS1 <| At.aloadn dX12_goer_5 rfl <| At.iloadn dX12_goer_6 rfl <| At.i2l dX12_goer_7 <| ?_
  obtain ⟨q2, hq2, h⟩ := bnd_e h
  rcases ite_e h with ⟨c13, h⟩ | ⟨c13, h⟩
  · refine At.cV1 (av := [vl p1]) (rest := []) mv_X12_isGoer lk_X12_233 dX12_goer_8 rfl rfl sh_130 (Nat.le_of_ble_eq_true rfl) (by decide) ⟨rfl, rfl⟩ (rX12_isGoer hq2) <| At.bifeq_f (tgt := 26) dX12_goer_11 (by decide) c13 <| ?_
    refine At.iloadn dX12_goer_14 rfl <| At.i2l dX12_goer_15 <| At.lconst0 dX12_goer_16 <| At.ldc2 dX12_goer_17 kl_X12_245 (by decide) <| ?_
    obtain ⟨q3, hq3, h⟩ := bnd_e h
    rcases ite_e h with ⟨c12, h⟩ | ⟨c12, h⟩
    · refine At.cS1 (av := [vl p2, vl 0, vl 2]) (rest := []) ms_X12_within lk_X12_142 dX12_goer_20 rfl rfl (Nat.le_of_ble_eq_true rfl) (by decide) ⟨rfl, rfl⟩ (rX12_within hq3) <| At.bifne_t (tgt := 29) dX12_goer_23 (by decide) c12 <| ?_
      rcases ite_e h with ⟨c11, h⟩ | ⟨c11, h⟩
      · refine At.iloadn dX12_goer_29 rfl <| At.if_ne_f (tgt := 43) dX12_goer_30 (by decide) c11 <| ?_
        refine At.aloadn dX12_goer_33 rfl <| At.getR fl_X12_13 sh_130 (le149 sh_130) rf_130_1 dX12_goer_34 <| At.bipush dX12_goer_37 (by decide) <| At.iloadn dX12_goer_39 rfl <| At.iadd dX12_goer_40 <| ?_
        obtain ⟨v4, hv4, g5, h⟩ := rdA_e h
        refine At.iald sh_131 (le149 sh_131) g5.1 g5.2 dX12_goer_41 <| At.nm hv4 <| ?_
        obtain rfl := Option.some.inj h
        exact At.iret rfl (Nat.zero_le _) (Nat.zero_le _) ⟨rfl, rfl⟩ dX12_goer_42
      · refine At.iloadn dX12_goer_29 rfl <| At.if_ne_t (tgt := 43) dX12_goer_30 (by decide) c11 <| ?_
        rcases ite_e h with ⟨c10, h⟩ | ⟨c10, h⟩
        · refine At.iloadn dX12_goer_43 rfl <| At.iconst dX12_goer_44 (by decide) <| At.icmp_ne_f (tgt := 58) dX12_goer_45 (by decide) c10 <| ?_
          refine At.aloadn dX12_goer_48 rfl <| At.getR fl_X12_13 sh_130 (le149 sh_130) rf_130_1 dX12_goer_49 <| At.bipush dX12_goer_52 (by decide) <| At.iloadn dX12_goer_54 rfl <| At.iadd dX12_goer_55 <| ?_
          obtain ⟨v6, hv6, g7, h⟩ := rdA_e h
          refine At.iald sh_131 (le149 sh_131) g7.1 g7.2 dX12_goer_56 <| At.nm hv6 <| ?_
          obtain rfl := Option.some.inj h
          exact At.iret rfl (Nat.zero_le _) (Nat.zero_le _) ⟨rfl, rfl⟩ dX12_goer_57
        · refine At.iloadn dX12_goer_43 rfl <| At.iconst dX12_goer_44 (by decide) <| At.icmp_ne_t (tgt := 58) dX12_goer_45 (by decide) c10 <| ?_
          refine At.iconst dX12_goer_58 (by decide) <| At.istoren (ls' := [(3, vi 0), (0, vr 130), (1, vi p1), (2, vi p2)]) dX12_goer_59 (by decide) rfl <| At.iconst dX12_goer_60 (by decide) <| At.istore (ls' := [(4, vi 0), (3, vi 0), (0, vr 130), (1, vi p1), (2, vi p2)]) dX12_goer_61 (by decide) rfl <| ?_
          obtain ⟨q8, ho9, h⟩ := bnd_e h
          refine At.sub [2, 3, 1, 0] rfl (lX12_goer_L63 FU _ _ _ q8 ho9 ?_)
          refine At.iloadn dX12_goer_103 rfl <| ?_
          obtain rfl := Option.some.inj h
          exact At.iret rfl (Nat.zero_le _) (Nat.zero_le _) ⟨rfl, rfl⟩ dX12_goer_104
    · refine At.cS1 (av := [vl p2, vl 0, vl 2]) (rest := []) ms_X12_within lk_X12_142 dX12_goer_20 rfl rfl (Nat.le_of_ble_eq_true rfl) (by decide) ⟨rfl, rfl⟩ (rX12_within hq3) <| At.bifne_f (tgt := 29) dX12_goer_23 (by decide) c12 <| ?_
      refine At.bipush dX12_goer_26 (by decide) <| ?_
      obtain rfl := Option.some.inj h
      exact At.iret rfl (Nat.zero_le _) (Nat.zero_le _) ⟨rfl, rfl⟩ dX12_goer_28
  · refine At.cV1 (av := [vl p1]) (rest := []) mv_X12_isGoer lk_X12_233 dX12_goer_8 rfl rfl sh_130 (Nat.le_of_ble_eq_true rfl) (by decide) ⟨rfl, rfl⟩ (rX12_isGoer hq2) <| At.bifeq_t (tgt := 26) dX12_goer_11 (by decide) c13 <| ?_
    refine At.bipush dX12_goer_26 (by decide) <| ?_
    obtain rfl := Option.some.inj h
    exact At.iret rfl (Nat.zero_le _) (Nat.zero_le _) ⟨rfl, rfl⟩ dX12_goer_28
def fX12_why (p1 : Int) (p2 : Int) (S : SS) : Option (Int × SS) :=
  lt (up S 130 0 0) fun S1 =>
  Option.bind (fX12_whyGo p1 p2 S1) fun q2 =>
  some (q2.1, q2.2)
set_option maxRecDepth 100000 in
set_option maxHeartbeats 4000000 in
theorem rX12_why {G : GG} {p1 : Int} {p2 : Int} {S : SS} {rr : (Int × SS)} (h : fX12_why p1 p2 S = some rr) : RD G mX12_why 6 [vr 130, vi p1, vi p2] S (some (vi rr.1)) rr.2 := by
  unfold fX12_why at h
  refine Runs.of pl_X12 (Nat.le_of_ble_eq_true rfl) ?_
  show At G mX12_why 6 0 [(0, vr 130), (1, vi p1), (2, vi p2)] [] (mm S) 0 0 (EQ (some (vi rr.1)) rr.2)
  refine At.aloadn dX12_why_0 rfl <| At.iconst dX12_why_1 (by decide) <| ?_
  obtain ⟨S1, hS1, h⟩ := lt_e h
  refine At.putI fw_X12_1 sh_130 (le149 sh_130) dX12_why_2 <| At.nmS hS1 <| At.aloadn dX12_why_5 rfl <| At.iloadn dX12_why_6 rfl <| At.i2l dX12_why_7 <| At.iloadn dX12_why_8 rfl <| At.i2l dX12_why_9 <| ?_
  obtain ⟨q2, hq2, h⟩ := bnd_e h
  refine At.cV1 (av := [vl p1, vl p2]) (rest := []) mv_X12_whyGo lk_X12_247 dX12_why_10 rfl rfl sh_130 (Nat.le_of_ble_eq_true rfl) (by decide) ⟨rfl, rfl⟩ (rX12_whyGo hq2) <| ?_
  obtain rfl := Option.some.inj h
  exact At.iret rfl (Nat.zero_le _) (Nat.zero_le _) ⟨rfl, rfl⟩ dX12_why_13
def fX12_by (p1 : Int) (p2 : Int) (p3 : Int) (S : SS) : Option (Int × SS) :=
  lt (up S 130 0 0) fun S1 =>
  Option.bind (fX12_within p3 0 1) fun q2 =>
  if q2 = true then (
    Option.bind (fX12_whyGo p1 p2 S1) fun q3 =>
    if q3.1 = 0 then (
      Option.bind (fX12_standOf p1 q3.2) fun q4 =>
      Option.bind (fX12_goneTo p1 q4 p2 q3.2) fun q5 =>
      if p3 = 0 then (
        some (w32 (Int.tdiv q5.1 20), q5.2)
      ) else (
        some (Int.tmod q5.1 20, q5.2)
      )
    ) else (
      some ((-5), q3.2)
    )
  ) else (
    some ((-2), S1)
  )
set_option maxRecDepth 100000 in
set_option maxHeartbeats 4000000 in
theorem rX12_by {G : GG} {p1 : Int} {p2 : Int} {p3 : Int} {S : SS} {rr : (Int × SS)} (h : fX12_by p1 p2 p3 S = some rr) : RD G mX12_by 6 [vr 130, vi p1, vi p2, vi p3] S (some (vi rr.1)) rr.2 := by
  unfold fX12_by at h
  refine Runs.of pl_X12 (Nat.le_of_ble_eq_true rfl) ?_
  show At G mX12_by 6 0 [(0, vr 130), (1, vi p1), (2, vi p2), (3, vi p3)] [] (mm S) 0 0 (EQ (some (vi rr.1)) rr.2)
  refine At.aloadn dX12_by_0 rfl <| At.iconst dX12_by_1 (by decide) <| ?_
  obtain ⟨S1, hS1, h⟩ := lt_e h
  refine At.putI fw_X12_1 sh_130 (le149 sh_130) dX12_by_2 <| At.nmS hS1 <| At.iloadn dX12_by_5 rfl <| At.i2l dX12_by_6 <| At.lconst0 dX12_by_7 <| At.lconst1 dX12_by_8 <| ?_
  obtain ⟨q2, hq2, h⟩ := bnd_e h
  rcases ite_e h with ⟨c8, h⟩ | ⟨c8, h⟩
  · refine At.cS1 (av := [vl p3, vl 0, vl 1]) (rest := []) ms_X12_within lk_X12_142 dX12_by_9 rfl rfl (Nat.le_of_ble_eq_true rfl) (by decide) ⟨rfl, rfl⟩ (rX12_within hq2) <| At.bifne_t (tgt := 18) dX12_by_12 (by decide) c8 <| ?_
    refine At.aloadn dX12_by_18 rfl <| At.iloadn dX12_by_19 rfl <| At.i2l dX12_by_20 <| At.iloadn dX12_by_21 rfl <| At.i2l dX12_by_22 <| ?_
    obtain ⟨q3, hq3, h⟩ := bnd_e h
    rcases ite_e h with ⟨c7, h⟩ | ⟨c7, h⟩
    · refine At.cV1 (av := [vl p1, vl p2]) (rest := []) mv_X12_whyGo lk_X12_247 dX12_by_23 rfl rfl sh_130 (Nat.le_of_ble_eq_true rfl) (by decide) ⟨rfl, rfl⟩ (rX12_whyGo hq3) <| At.if_eq_t (tgt := 32) dX12_by_26 (by decide) c7 <| ?_
      refine At.aloadn dX12_by_32 rfl <| At.iloadn dX12_by_33 rfl <| At.aloadn dX12_by_34 rfl <| At.iloadn dX12_by_35 rfl <| ?_
      obtain ⟨q4, hq4, h⟩ := bnd_e h
      refine At.cV1 (av := [vi p1]) (rest := [vi p1, vr 130]) mv_X12_standOf lk_X12_239 dX12_by_36 rfl rfl sh_130 (Nat.le_of_ble_eq_true rfl) (by decide) ⟨rfl, rfl⟩ (rX12_standOf hq4) <| At.iloadn dX12_by_39 rfl <| ?_
      obtain ⟨q5, hq5, h⟩ := bnd_e h
      rcases ite_e h with ⟨c6, h⟩ | ⟨c6, h⟩
      · refine At.cV1 (av := [vi p1, vi q4, vi p2]) (rest := []) mv_X12_goneTo lk_X12_251 dX12_by_40 rfl rfl sh_130 (Nat.le_of_ble_eq_true rfl) (by decide) ⟨rfl, rfl⟩ (rX12_goneTo hq5) <| At.istore (ls' := [(4, vi q5.1), (0, vr 130), (1, vi p1), (2, vi p2), (3, vi p3)]) dX12_by_43 (by decide) rfl <| At.iloadn dX12_by_45 rfl <| At.if_ne_f (tgt := 57) dX12_by_46 (by decide) c6 <| ?_
        refine At.iload dX12_by_49 rfl <| At.bipush dX12_by_51 (by decide) <| At.idiv dX12_by_53 (by decide) <| At.goto (tgt := 62) dX12_by_54 (by decide) <| ?_
        obtain rfl := Option.some.inj h
        exact At.iret rfl (Nat.zero_le _) (Nat.zero_le _) ⟨rfl, rfl⟩ dX12_by_62
      · refine At.cV1 (av := [vi p1, vi q4, vi p2]) (rest := []) mv_X12_goneTo lk_X12_251 dX12_by_40 rfl rfl sh_130 (Nat.le_of_ble_eq_true rfl) (by decide) ⟨rfl, rfl⟩ (rX12_goneTo hq5) <| At.istore (ls' := [(4, vi q5.1), (0, vr 130), (1, vi p1), (2, vi p2), (3, vi p3)]) dX12_by_43 (by decide) rfl <| At.iloadn dX12_by_45 rfl <| At.if_ne_t (tgt := 57) dX12_by_46 (by decide) c6 <| ?_
        refine At.iload dX12_by_57 rfl <| At.bipush dX12_by_59 (by decide) <| At.irem dX12_by_61 (by decide) <| ?_
        obtain rfl := Option.some.inj h
        exact At.iret rfl (Nat.zero_le _) (Nat.zero_le _) ⟨rfl, rfl⟩ dX12_by_62
    · refine At.cV1 (av := [vl p1, vl p2]) (rest := []) mv_X12_whyGo lk_X12_247 dX12_by_23 rfl rfl sh_130 (Nat.le_of_ble_eq_true rfl) (by decide) ⟨rfl, rfl⟩ (rX12_whyGo hq3) <| At.if_eq_f (tgt := 32) dX12_by_26 (by decide) c7 <| ?_
      refine At.bipush dX12_by_29 (by decide) <| ?_
      obtain rfl := Option.some.inj h
      exact At.iret rfl (Nat.zero_le _) (Nat.zero_le _) ⟨rfl, rfl⟩ dX12_by_31
  · refine At.cS1 (av := [vl p3, vl 0, vl 1]) (rest := []) ms_X12_within lk_X12_142 dX12_by_9 rfl rfl (Nat.le_of_ble_eq_true rfl) (by decide) ⟨rfl, rfl⟩ (rX12_within hq2) <| At.bifne_f (tgt := 18) dX12_by_12 (by decide) c8 <| ?_
    refine At.bipush dX12_by_15 (by decide) <| ?_
    obtain rfl := Option.some.inj h
    exact At.iret rfl (Nat.zero_le _) (Nat.zero_le _) ⟨rfl, rfl⟩ dX12_by_17
def fX12_keeps_L2 : Nat → Int → SS → Option (SS)
  | 0, _, _ => none
  | n + 1, l1, S =>
    if 15 ≤ l1 then (
      some S
    ) else (
      rdA S 131 3303 (w32 (34 + l1)) fun v1 =>
      wrA S 137 15 l1 v1 fun S3 =>
      lt (w32 (l1 + 1)) fun x5 =>
      fX12_keeps_L2 n x5 S3
    )
def fX12_keeps (S : SS) : Option SS :=
  Option.bind (fX12_keeps_L2 FU 0 S) fun q1 =>
  some q1
set_option maxRecDepth 100000 in
set_option maxHeartbeats 4000000 in
theorem lX12_keeps_L2 {G : GG} {Φ : Option VV → MM → Prop} : ∀ (n : Nat) (l1 : Int) (S : SS) (q : SS), fX12_keeps_L2 n l1 S = some q → At G mX12_keeps 1 29 [] [] (mm q) 0 0 Φ → At G mX12_keeps 1 2 [(0, vr 130), (1, vi l1)] [] (mm S) 0 0 Φ := by
  intro n
  induction n with
  | zero =>
    intro _ _ _ h
    cases h
  | succ n ih =>
    intro l1 S q h K29
    unfold fX12_keeps_L2 at h
    rcases ite_e h with ⟨c6, h⟩ | ⟨c6, h⟩
    · refine At.iloadn dX12_keeps_2 rfl <| At.bipush dX12_keeps_3 (by decide) <| At.icmp_ge_t (tgt := 29) dX12_keeps_5 (by decide) c6 <| ?_
      obtain rfl := Option.some.inj h
      exact At.sub [] rfl K29
    · refine At.iloadn dX12_keeps_2 rfl <| At.bipush dX12_keeps_3 (by decide) <| At.icmp_ge_f (tgt := 29) dX12_keeps_5 (by decide) c6 <| ?_
      refine At.aloadn dX12_keeps_8 rfl <| At.getR fl_X12_36 sh_130 (le149 sh_130) rf_130_18 dX12_keeps_9 <| At.iloadn dX12_keeps_12 rfl <| At.aloadn dX12_keeps_13 rfl <| At.getR fl_X12_13 sh_130 (le149 sh_130) rf_130_1 dX12_keeps_14 <| At.bipush dX12_keeps_17 (by decide) <| At.iloadn dX12_keeps_19 rfl <| At.iadd dX12_keeps_20 <| ?_
      obtain ⟨v1, hv1, g2, h⟩ := rdA_e h
      refine At.iald sh_131 (le149 sh_131) g2.1 g2.2 dX12_keeps_21 <| At.nm hv1 <| ?_
      obtain ⟨S3, hS3, g4, h⟩ := wrA_e h
      refine At.iast sh_137 (le149 sh_137) g4.1 g4.2 dX12_keeps_22 <| At.nmS hS3 <| ?_
      obtain ⟨x5, hx5, h⟩ := lt_e h
      refine At.iinc (ls' := [(1, vi x5), (0, vr 130)]) dX12_keeps_23 rfl (by decide) (by rw [hx5]; rfl) <| At.goto (tgt := 2) dX12_keeps_26 (by decide) <| ?_
      exact At.sub [1, 0] rfl (ih _ _ _ h K29)
set_option maxRecDepth 100000 in
set_option maxHeartbeats 4000000 in
theorem rX12_keeps {G : GG} {S : SS} {rr : SS} (h : fX12_keeps  S = some rr) : RD G mX12_keeps 1 [vr 130] S none rr := by
  unfold fX12_keeps at h
  refine Runs.of pl_X12 (Nat.le_of_ble_eq_true rfl) ?_
  show At G mX12_keeps 1 0 [(0, vr 130)] [] (mm S) 0 0 (EQ none rr)
  refine At.iconst dX12_keeps_0 (by decide) <| At.istoren (ls' := [(1, vi 0), (0, vr 130)]) dX12_keeps_1 (by decide) rfl <| ?_
  obtain ⟨q1, ho2, h⟩ := bnd_e h
  refine At.sub [1, 0] rfl (lX12_keeps_L2 FU _ _ q1 ho2 ?_)
  obtain rfl := Option.some.inj h
  exact At.vret rfl (Nat.zero_le _) (Nat.zero_le _) ⟨rfl, rfl⟩ dX12_keeps_29
def fX12_isAgain_L2 : Nat → Int → SS → Option (SS)
  | 0, _, _ => none
  | n + 1, l1, S =>
    if 15 ≤ l1 then (
      some S
    ) else (
      rdA S 137 15 l1 fun v1 =>
      wrA S 131 3303 (w32 (34 + l1)) v1 fun S3 =>
      lt (w32 (l1 + 1)) fun x5 =>
      fX12_isAgain_L2 n x5 S3
    )
def fX12_isAgain (S : SS) : Option SS :=
  Option.bind (fX12_isAgain_L2 FU 0 S) fun q1 =>
  some q1
set_option maxRecDepth 100000 in
set_option maxHeartbeats 4000000 in
theorem lX12_isAgain_L2 {G : GG} {Φ : Option VV → MM → Prop} : ∀ (n : Nat) (l1 : Int) (S : SS) (q : SS), fX12_isAgain_L2 n l1 S = some q → At G mX12_isAgain 1 29 [] [] (mm q) 0 0 Φ → At G mX12_isAgain 1 2 [(0, vr 130), (1, vi l1)] [] (mm S) 0 0 Φ := by
  intro n
  induction n with
  | zero =>
    intro _ _ _ h
    cases h
  | succ n ih =>
    intro l1 S q h K29
    unfold fX12_isAgain_L2 at h
    rcases ite_e h with ⟨c6, h⟩ | ⟨c6, h⟩
    · refine At.iloadn dX12_isAgain_2 rfl <| At.bipush dX12_isAgain_3 (by decide) <| At.icmp_ge_t (tgt := 29) dX12_isAgain_5 (by decide) c6 <| ?_
      obtain rfl := Option.some.inj h
      exact At.sub [] rfl K29
    · refine At.iloadn dX12_isAgain_2 rfl <| At.bipush dX12_isAgain_3 (by decide) <| At.icmp_ge_f (tgt := 29) dX12_isAgain_5 (by decide) c6 <| ?_
      refine At.aloadn dX12_isAgain_8 rfl <| At.getR fl_X12_13 sh_130 (le149 sh_130) rf_130_1 dX12_isAgain_9 <| At.bipush dX12_isAgain_12 (by decide) <| At.iloadn dX12_isAgain_14 rfl <| At.iadd dX12_isAgain_15 <| At.aloadn dX12_isAgain_16 rfl <| At.getR fl_X12_36 sh_130 (le149 sh_130) rf_130_18 dX12_isAgain_17 <| At.iloadn dX12_isAgain_20 rfl <| ?_
      obtain ⟨v1, hv1, g2, h⟩ := rdA_e h
      refine At.iald sh_137 (le149 sh_137) g2.1 g2.2 dX12_isAgain_21 <| At.nm hv1 <| ?_
      obtain ⟨S3, hS3, g4, h⟩ := wrA_e h
      refine At.iast sh_131 (le149 sh_131) g4.1 g4.2 dX12_isAgain_22 <| At.nmS hS3 <| ?_
      obtain ⟨x5, hx5, h⟩ := lt_e h
      refine At.iinc (ls' := [(1, vi x5), (0, vr 130)]) dX12_isAgain_23 rfl (by decide) (by rw [hx5]; rfl) <| At.goto (tgt := 2) dX12_isAgain_26 (by decide) <| ?_
      exact At.sub [1, 0] rfl (ih _ _ _ h K29)
set_option maxRecDepth 100000 in
set_option maxHeartbeats 4000000 in
theorem rX12_isAgain {G : GG} {S : SS} {rr : SS} (h : fX12_isAgain  S = some rr) : RD G mX12_isAgain 1 [vr 130] S none rr := by
  unfold fX12_isAgain at h
  refine Runs.of pl_X12 (Nat.le_of_ble_eq_true rfl) ?_
  show At G mX12_isAgain 1 0 [(0, vr 130)] [] (mm S) 0 0 (EQ none rr)
  refine At.iconst dX12_isAgain_0 (by decide) <| At.istoren (ls' := [(1, vi 0), (0, vr 130)]) dX12_isAgain_1 (by decide) rfl <| ?_
  obtain ⟨q1, ho2, h⟩ := bnd_e h
  refine At.sub [1, 0] rfl (lX12_isAgain_L2 FU _ _ q1 ho2 ?_)
  obtain rfl := Option.some.inj h
  exact At.vret rfl (Nat.zero_le _) (Nat.zero_le _) ⟨rfl, rfl⟩ dX12_isAgain_29
def fX12_notes_L14 : Nat → Int → SS → Option (SS)
  | 0, _, _ => none
  | n + 1, l1, S =>
    if 135 ≤ l1 then (
      some S
    ) else (
      rdA S 131 3303 (w32 (65 + l1)) fun v1 =>
      wrA S 131 3303 (w32 (50 + l1)) v1 fun S3 =>
      lt (w32 (l1 + 1)) fun x5 =>
      fX12_notes_L14 n x5 S3
    )
def fX12_notes_L58 : Nat → Int → SS → Option (SS)
  | 0, _, _ => none
  | n + 1, l1, S =>
    if 15 ≤ l1 then (
      some S
    ) else (
      rdA S 131 3303 49 fun v1 =>
      rdA S 137 15 l1 fun v3 =>
      wrA S 131 3303 (w32 ((w32 (50 + (w32 (15 * v1)))) + l1)) v3 fun S5 =>
      lt (w32 (l1 + 1)) fun x7 =>
      fX12_notes_L58 n x7 S5
    )
def fX12_notes (S : SS) : Option SS :=
  rdA S 131 3303 49 fun v1 =>
  Option.bind (
    if v1 = 10 then (
      Option.bind (fX12_notes_L14 FU 0 S) fun q4 =>
      rdA q4 131 3303 49 fun v6 =>
      wrA q4 131 3303 49 (w32 (v6 - 1)) fun S8 =>
      some S8
    ) else (
      some S
    )
    : Option (SS)) fun q3 =>
  Option.bind (fX12_notes_L58 FU 0 q3) fun q11 =>
  rdA q11 131 3303 49 fun v13 =>
  wrA q11 131 3303 49 (w32 (v13 + 1)) fun S15 =>
  some S15
set_option maxRecDepth 100000 in
set_option maxHeartbeats 4000000 in
theorem lX12_notes_L14 {G : GG} {Φ : Option VV → MM → Prop} : ∀ (n : Nat) (l1 : Int) (S : SS) (q : SS), fX12_notes_L14 n l1 S = some q → At G mX12_notes 1 45 [(0, vr 130)] [] (mm q) 0 0 Φ → At G mX12_notes 1 14 [(0, vr 130), (1, vi l1)] [] (mm S) 0 0 Φ := by
  intro n
  induction n with
  | zero =>
    intro _ _ _ h
    cases h
  | succ n ih =>
    intro l1 S q h K45
    unfold fX12_notes_L14 at h
    rcases ite_e h with ⟨c6, h⟩ | ⟨c6, h⟩
    · refine At.iloadn dX12_notes_14 rfl <| At.sipush dX12_notes_15 (by decide) <| At.icmp_ge_t (tgt := 45) dX12_notes_18 (by decide) c6 <| ?_
      obtain rfl := Option.some.inj h
      exact At.sub [0] rfl K45
    · refine At.iloadn dX12_notes_14 rfl <| At.sipush dX12_notes_15 (by decide) <| At.icmp_ge_f (tgt := 45) dX12_notes_18 (by decide) c6 <| ?_
      refine At.aloadn dX12_notes_21 rfl <| At.getR fl_X12_13 sh_130 (le149 sh_130) rf_130_1 dX12_notes_22 <| At.bipush dX12_notes_25 (by decide) <| At.iloadn dX12_notes_27 rfl <| At.iadd dX12_notes_28 <| At.aloadn dX12_notes_29 rfl <| At.getR fl_X12_13 sh_130 (le149 sh_130) rf_130_1 dX12_notes_30 <| At.bipush dX12_notes_33 (by decide) <| At.iloadn dX12_notes_35 rfl <| At.iadd dX12_notes_36 <| ?_
      obtain ⟨v1, hv1, g2, h⟩ := rdA_e h
      refine At.iald sh_131 (le149 sh_131) g2.1 g2.2 dX12_notes_37 <| At.nm hv1 <| ?_
      obtain ⟨S3, hS3, g4, h⟩ := wrA_e h
      refine At.iast sh_131 (le149 sh_131) g4.1 g4.2 dX12_notes_38 <| At.nmS hS3 <| ?_
      obtain ⟨x5, hx5, h⟩ := lt_e h
      refine At.iinc (ls' := [(1, vi x5), (0, vr 130)]) dX12_notes_39 rfl (by decide) (by rw [hx5]; rfl) <| At.goto (tgt := 14) dX12_notes_42 (by decide) <| ?_
      exact At.sub [1, 0] rfl (ih _ _ _ h K45)
set_option maxRecDepth 100000 in
set_option maxHeartbeats 4000000 in
theorem lX12_notes_L58 {G : GG} {Φ : Option VV → MM → Prop} : ∀ (n : Nat) (l1 : Int) (S : SS) (q : SS), fX12_notes_L58 n l1 S = some q → At G mX12_notes 1 96 [(0, vr 130)] [] (mm q) 0 0 Φ → At G mX12_notes 1 58 [(0, vr 130), (1, vi l1)] [] (mm S) 0 0 Φ := by
  intro n
  induction n with
  | zero =>
    intro _ _ _ h
    cases h
  | succ n ih =>
    intro l1 S q h K96
    unfold fX12_notes_L58 at h
    rcases ite_e h with ⟨c8, h⟩ | ⟨c8, h⟩
    · refine At.iloadn dX12_notes_58 rfl <| At.bipush dX12_notes_59 (by decide) <| At.icmp_ge_t (tgt := 96) dX12_notes_61 (by decide) c8 <| ?_
      obtain rfl := Option.some.inj h
      exact At.sub [0] rfl K96
    · refine At.iloadn dX12_notes_58 rfl <| At.bipush dX12_notes_59 (by decide) <| At.icmp_ge_f (tgt := 96) dX12_notes_61 (by decide) c8 <| ?_
      refine At.aloadn dX12_notes_64 rfl <| At.getR fl_X12_13 sh_130 (le149 sh_130) rf_130_1 dX12_notes_65 <| At.bipush dX12_notes_68 (by decide) <| At.bipush dX12_notes_70 (by decide) <| At.aloadn dX12_notes_72 rfl <| At.getR fl_X12_13 sh_130 (le149 sh_130) rf_130_1 dX12_notes_73 <| At.bipush dX12_notes_76 (by decide) <| ?_
      obtain ⟨v1, hv1, g2, h⟩ := rdA_e h
      refine At.iald sh_131 (le149 sh_131) g2.1 g2.2 dX12_notes_78 <| At.nm hv1 <| At.imul dX12_notes_79 <| At.iadd dX12_notes_80 <| At.iloadn dX12_notes_81 rfl <| At.iadd dX12_notes_82 <| At.aloadn dX12_notes_83 rfl <| At.getR fl_X12_36 sh_130 (le149 sh_130) rf_130_18 dX12_notes_84 <| At.iloadn dX12_notes_87 rfl <| ?_
      obtain ⟨v3, hv3, g4, h⟩ := rdA_e h
      refine At.iald sh_137 (le149 sh_137) g4.1 g4.2 dX12_notes_88 <| At.nm hv3 <| ?_
      obtain ⟨S5, hS5, g6, h⟩ := wrA_e h
      refine At.iast sh_131 (le149 sh_131) g6.1 g6.2 dX12_notes_89 <| At.nmS hS5 <| ?_
      obtain ⟨x7, hx7, h⟩ := lt_e h
      refine At.iinc (ls' := [(1, vi x7), (0, vr 130)]) dX12_notes_90 rfl (by decide) (by rw [hx7]; rfl) <| At.goto (tgt := 58) dX12_notes_93 (by decide) <| ?_
      exact At.sub [1, 0] rfl (ih _ _ _ h K96)
set_option maxRecDepth 100000 in
set_option maxHeartbeats 4000000 in
theorem rX12_notes {G : GG} {S : SS} {rr : SS} (h : fX12_notes  S = some rr) : RD G mX12_notes 1 [vr 130] S none rr := by
  unfold fX12_notes at h
  refine Runs.of pl_X12 (Nat.le_of_ble_eq_true rfl) ?_
  show At G mX12_notes 1 0 [(0, vr 130)] [] (mm S) 0 0 (EQ none rr)
  refine At.aloadn dX12_notes_0 rfl <| At.getR fl_X12_13 sh_130 (le149 sh_130) rf_130_1 dX12_notes_1 <| At.bipush dX12_notes_4 (by decide) <| ?_
  obtain ⟨v1, hv1, g2, h⟩ := rdA_e h
  obtain ⟨q3, hj56, h⟩ := bnd_e h
  have K56 : At G mX12_notes 1 56 [(0, vr 130)] [] (mm q3) 0 0 (EQ none rr) := by
    refine At.iconst dX12_notes_56 (by decide) <| At.istoren (ls' := [(1, vi 0), (0, vr 130)]) dX12_notes_57 (by decide) rfl <| ?_
    obtain ⟨q11, ho12, h⟩ := bnd_e h
    refine At.sub [1, 0] rfl (lX12_notes_L58 FU _ _ q11 ho12 ?_)
    refine At.aloadn dX12_notes_96 rfl <| At.getR fl_X12_13 sh_130 (le149 sh_130) rf_130_1 dX12_notes_97 <| At.bipush dX12_notes_100 (by decide) <| At.dup2 rfl rfl dX12_notes_102 <| ?_
    obtain ⟨v13, hv13, g14, h⟩ := rdA_e h
    refine At.iald sh_131 (le149 sh_131) g14.1 g14.2 dX12_notes_103 <| At.nm hv13 <| At.iconst dX12_notes_104 (by decide) <| At.iadd dX12_notes_105 <| ?_
    obtain ⟨S15, hS15, g16, h⟩ := wrA_e h
    refine At.iast sh_131 (le149 sh_131) g16.1 g16.2 dX12_notes_106 <| At.nmS hS15 <| ?_
    obtain rfl := Option.some.inj h
    exact At.vret rfl (Nat.zero_le _) (Nat.zero_le _) ⟨rfl, rfl⟩ dX12_notes_107
  clear h; have h := hj56; clear hj56
  rcases ite_e h with ⟨c10, h⟩ | ⟨c10, h⟩
  · refine At.iald sh_131 (le149 sh_131) g2.1 g2.2 dX12_notes_6 <| At.nm hv1 <| At.bipush dX12_notes_7 (by decide) <| At.icmp_ne_f (tgt := 56) dX12_notes_9 (by decide) c10 <| ?_
    refine At.iconst dX12_notes_12 (by decide) <| At.istoren (ls' := [(1, vi 0), (0, vr 130)]) dX12_notes_13 (by decide) rfl <| ?_
    obtain ⟨q4, ho5, h⟩ := bnd_e h
    refine At.sub [1, 0] rfl (lX12_notes_L14 FU _ _ q4 ho5 ?_)
    refine At.aloadn dX12_notes_45 rfl <| At.getR fl_X12_13 sh_130 (le149 sh_130) rf_130_1 dX12_notes_46 <| At.bipush dX12_notes_49 (by decide) <| At.dup2 rfl rfl dX12_notes_51 <| ?_
    obtain ⟨v6, hv6, g7, h⟩ := rdA_e h
    refine At.iald sh_131 (le149 sh_131) g7.1 g7.2 dX12_notes_52 <| At.nm hv6 <| At.iconst dX12_notes_53 (by decide) <| At.isub dX12_notes_54 <| ?_
    obtain ⟨S8, hS8, g9, h⟩ := wrA_e h
    refine At.iast sh_131 (le149 sh_131) g9.1 g9.2 dX12_notes_55 <| At.nmS hS8 <| ?_
    obtain rfl := Option.some.inj h
    exact At.sub [0] rfl K56
  · refine At.iald sh_131 (le149 sh_131) g2.1 g2.2 dX12_notes_6 <| At.nm hv1 <| At.bipush dX12_notes_7 (by decide) <| At.icmp_ne_t (tgt := 56) dX12_notes_9 (by decide) c10 <| ?_
    obtain rfl := Option.some.inj h
    exact At.sub [0] rfl K56
def fX12_isAt (p1 : Int) (p2 : Int) (S : SS) : Option SS :=
  wrA S 131 3303 (w32 (34 + p1)) (w32 (Int.tdiv p2 20)) fun S1 =>
  wrA S1 131 3303 (w32 (37 + p1)) (Int.tmod p2 20) fun S3 =>
  some S3
set_option maxRecDepth 100000 in
set_option maxHeartbeats 4000000 in
theorem rX12_isAt {G : GG} {p1 : Int} {p2 : Int} {S : SS} {rr : SS} (h : fX12_isAt p1 p2 S = some rr) : RD G mX12_isAt 1 [vr 130, vi p1, vi p2] S none rr := by
  unfold fX12_isAt at h
  refine Runs.of pl_X12 (Nat.le_of_ble_eq_true rfl) ?_
  show At G mX12_isAt 1 0 [(0, vr 130), (1, vi p1), (2, vi p2)] [] (mm S) 0 0 (EQ none rr)
  refine At.aloadn dX12_isAt_0 rfl <| At.getR fl_X12_13 sh_130 (le149 sh_130) rf_130_1 dX12_isAt_1 <| At.bipush dX12_isAt_4 (by decide) <| At.iloadn dX12_isAt_6 rfl <| At.iadd dX12_isAt_7 <| At.iloadn dX12_isAt_8 rfl <| At.bipush dX12_isAt_9 (by decide) <| At.idiv dX12_isAt_11 (by decide) <| ?_
  obtain ⟨S1, hS1, g2, h⟩ := wrA_e h
  refine At.iast sh_131 (le149 sh_131) g2.1 g2.2 dX12_isAt_12 <| At.nmS hS1 <| At.aloadn dX12_isAt_13 rfl <| At.getR fl_X12_13 sh_130 (le149 sh_130) rf_130_1 dX12_isAt_14 <| At.bipush dX12_isAt_17 (by decide) <| At.iloadn dX12_isAt_19 rfl <| At.iadd dX12_isAt_20 <| At.iloadn dX12_isAt_21 rfl <| At.bipush dX12_isAt_22 (by decide) <| At.irem dX12_isAt_24 (by decide) <| ?_
  obtain ⟨S3, hS3, g4, h⟩ := wrA_e h
  refine At.iast sh_131 (le149 sh_131) g4.1 g4.2 dX12_isAt_25 <| At.nmS hS3 <| ?_
  obtain rfl := Option.some.inj h
  exact At.vret rfl (Nat.zero_le _) (Nat.zero_le _) ⟨rfl, rfl⟩ dX12_isAt_26
def fX12_go (p1 : Int) (p2 : Int) (S : SS) : Option (Int × SS) :=
  lt (up S 130 0 0) fun S1 =>
  Option.bind (fX12_whyGo p1 p2 S1) fun q2 =>
  if q2.1 = 0 then (
    Option.bind (fX12_keeps  q2.2) fun q3 =>
    Option.bind (fX12_standOf p1 q3) fun q4 =>
    Option.bind (fX12_goneTo p1 q4 p2 q3) fun q5 =>
    Option.bind (fX12_isAt p1 q5.1 q5.2) fun q6 =>
    Option.bind (fX12_notes  q6) fun q7 =>
    rdA q7 131 3303 (w32 (37 + p1)) fun v8 =>
    some (v8, q7)
  ) else (
    some (w32 (((-10)) - q2.1), q2.2)
  )
set_option maxRecDepth 100000 in
set_option maxHeartbeats 4000000 in
theorem rX12_go {G : GG} {p1 : Int} {p2 : Int} {S : SS} {rr : (Int × SS)} (h : fX12_go p1 p2 S = some rr) : RD G mX12_go 6 [vr 130, vi p1, vi p2] S (some (vi rr.1)) rr.2 := by
  unfold fX12_go at h
  refine Runs.of pl_X12 (Nat.le_of_ble_eq_true rfl) ?_
  show At G mX12_go 6 0 [(0, vr 130), (1, vi p1), (2, vi p2)] [] (mm S) 0 0 (EQ (some (vi rr.1)) rr.2)
  refine At.aloadn dX12_go_0 rfl <| At.iconst dX12_go_1 (by decide) <| ?_
  obtain ⟨S1, hS1, h⟩ := lt_e h
  refine At.putI fw_X12_1 sh_130 (le149 sh_130) dX12_go_2 <| At.nmS hS1 <| At.aloadn dX12_go_5 rfl <| At.iloadn dX12_go_6 rfl <| At.i2l dX12_go_7 <| At.iloadn dX12_go_8 rfl <| At.i2l dX12_go_9 <| ?_
  obtain ⟨q2, hq2, h⟩ := bnd_e h
  rcases ite_e h with ⟨c10, h⟩ | ⟨c10, h⟩
  · refine At.cV1 (av := [vl p1, vl p2]) (rest := []) mv_X12_whyGo lk_X12_247 dX12_go_10 rfl rfl sh_130 (Nat.le_of_ble_eq_true rfl) (by decide) ⟨rfl, rfl⟩ (rX12_whyGo hq2) <| At.istoren (ls' := [(3, vi q2.1), (0, vr 130), (1, vi p1), (2, vi p2)]) dX12_go_13 (by decide) rfl <| At.iloadn dX12_go_14 rfl <| At.if_eq_t (tgt := 23) dX12_go_15 (by decide) c10 <| ?_
    refine At.aloadn dX12_go_23 rfl <| ?_
    obtain ⟨q3, hq3, h⟩ := bnd_e h
    refine At.cV0 (av := []) (rest := []) mv_X12_keeps lk_X12_254 dX12_go_24 rfl rfl sh_130 (Nat.le_of_ble_eq_true rfl) (by decide) ⟨rfl, rfl⟩ (rX12_keeps hq3) <| At.aloadn dX12_go_27 rfl <| At.iloadn dX12_go_28 rfl <| At.aloadn dX12_go_29 rfl <| At.iloadn dX12_go_30 rfl <| At.aloadn dX12_go_31 rfl <| At.iloadn dX12_go_32 rfl <| ?_
    obtain ⟨q4, hq4, h⟩ := bnd_e h
    refine At.cV1 (av := [vi p1]) (rest := [vi p1, vr 130, vi p1, vr 130]) mv_X12_standOf lk_X12_239 dX12_go_33 rfl rfl sh_130 (Nat.le_of_ble_eq_true rfl) (by decide) ⟨rfl, rfl⟩ (rX12_standOf hq4) <| At.iloadn dX12_go_36 rfl <| ?_
    obtain ⟨q5, hq5, h⟩ := bnd_e h
    refine At.cV1 (av := [vi p1, vi q4, vi p2]) (rest := [vi p1, vr 130]) mv_X12_goneTo lk_X12_251 dX12_go_37 rfl rfl sh_130 (Nat.le_of_ble_eq_true rfl) (by decide) ⟨rfl, rfl⟩ (rX12_goneTo hq5) <| ?_
    obtain ⟨q6, hq6, h⟩ := bnd_e h
    refine At.cV0 (av := [vi p1, vi q5.1]) (rest := []) mv_X12_isAt lk_X12_257 dX12_go_40 rfl rfl sh_130 (Nat.le_of_ble_eq_true rfl) (by decide) ⟨rfl, rfl⟩ (rX12_isAt hq6) <| At.aloadn dX12_go_43 rfl <| ?_
    obtain ⟨q7, hq7, h⟩ := bnd_e h
    refine At.cV0 (av := []) (rest := []) mv_X12_notes lk_X12_261 dX12_go_44 rfl rfl sh_130 (Nat.le_of_ble_eq_true rfl) (by decide) ⟨rfl, rfl⟩ (rX12_notes hq7) <| At.aloadn dX12_go_47 rfl <| At.getR fl_X12_13 sh_130 (le149 sh_130) rf_130_1 dX12_go_48 <| At.bipush dX12_go_51 (by decide) <| At.iloadn dX12_go_53 rfl <| At.iadd dX12_go_54 <| ?_
    obtain ⟨v8, hv8, g9, h⟩ := rdA_e h
    refine At.iald sh_131 (le149 sh_131) g9.1 g9.2 dX12_go_55 <| At.nm hv8 <| ?_
    obtain rfl := Option.some.inj h
    exact At.iret rfl (Nat.zero_le _) (Nat.zero_le _) ⟨rfl, rfl⟩ dX12_go_56
  · refine At.cV1 (av := [vl p1, vl p2]) (rest := []) mv_X12_whyGo lk_X12_247 dX12_go_10 rfl rfl sh_130 (Nat.le_of_ble_eq_true rfl) (by decide) ⟨rfl, rfl⟩ (rX12_whyGo hq2) <| At.istoren (ls' := [(3, vi q2.1), (0, vr 130), (1, vi p1), (2, vi p2)]) dX12_go_13 (by decide) rfl <| At.iloadn dX12_go_14 rfl <| At.if_eq_f (tgt := 23) dX12_go_15 (by decide) c10 <| ?_
    refine At.bipush dX12_go_18 (by decide) <| At.iloadn dX12_go_20 rfl <| At.isub dX12_go_21 <| ?_
    obtain rfl := Option.some.inj h
    exact At.iret rfl (Nat.zero_le _) (Nat.zero_le _) ⟨rfl, rfl⟩ dX12_go_22
def fX12_sign (p1 : Int) (p2 : Int) (S : SS) : Option (Int × SS) :=
  lt (up S 130 0 0) fun S1 =>
  Option.bind (fX12_isStreet p1 S1) fun q2 =>
  if q2 = true then (
    Option.bind (fX12_within p2 0 3) fun q3 =>
    if q3 = true then (
      Option.bind (fX12_keeps  S1) fun q4 =>
      wrA q4 131 3303 (w32 (40 + p1)) p2 fun S5 =>
      Option.bind (fX12_notes  S5) fun q7 =>
      rdA q7 137 15 (w32 (6 + p1)) fun v8 =>
      some (v8, q7)
    ) else (
      some ((-11), S1)
    )
  ) else (
    some ((-11), S1)
  )
set_option maxRecDepth 100000 in
set_option maxHeartbeats 4000000 in
theorem rX12_sign {G : GG} {p1 : Int} {p2 : Int} {S : SS} {rr : (Int × SS)} (h : fX12_sign p1 p2 S = some rr) : RD G mX12_sign 3 [vr 130, vi p1, vi p2] S (some (vi rr.1)) rr.2 := by
  unfold fX12_sign at h
  refine Runs.of pl_X12 (Nat.le_of_ble_eq_true rfl) ?_
  show At G mX12_sign 3 0 [(0, vr 130), (1, vi p1), (2, vi p2)] [] (mm S) 0 0 (EQ (some (vi rr.1)) rr.2)
  refine At.aloadn dX12_sign_0 rfl <| At.iconst dX12_sign_1 (by decide) <| ?_
  obtain ⟨S1, hS1, h⟩ := lt_e h
  refine At.putI fw_X12_1 sh_130 (le149 sh_130) dX12_sign_2 <| At.nmS hS1 <| At.aloadn dX12_sign_5 rfl <| At.iloadn dX12_sign_6 rfl <| At.i2l dX12_sign_7 <| ?_
  obtain ⟨q2, hq2, h⟩ := bnd_e h
  rcases ite_e h with ⟨c11, h⟩ | ⟨c11, h⟩
  · refine At.cV1 (av := [vl p1]) (rest := []) mv_X12_isStreet lk_X12_236 dX12_sign_8 rfl rfl sh_130 (Nat.le_of_ble_eq_true rfl) (by decide) ⟨rfl, rfl⟩ (rX12_isStreet hq2) <| At.bifeq_f (tgt := 26) dX12_sign_11 (by decide) c11 <| ?_
    refine At.iloadn dX12_sign_14 rfl <| At.i2l dX12_sign_15 <| At.lconst0 dX12_sign_16 <| At.ldc2 dX12_sign_17 kl_X12_264 (by decide) <| ?_
    obtain ⟨q3, hq3, h⟩ := bnd_e h
    rcases ite_e h with ⟨c10, h⟩ | ⟨c10, h⟩
    · refine At.cS1 (av := [vl p2, vl 0, vl 3]) (rest := []) ms_X12_within lk_X12_142 dX12_sign_20 rfl rfl (Nat.le_of_ble_eq_true rfl) (by decide) ⟨rfl, rfl⟩ (rX12_within hq3) <| At.bifne_t (tgt := 29) dX12_sign_23 (by decide) c10 <| ?_
      refine At.aloadn dX12_sign_29 rfl <| ?_
      obtain ⟨q4, hq4, h⟩ := bnd_e h
      refine At.cV0 (av := []) (rest := []) mv_X12_keeps lk_X12_254 dX12_sign_30 rfl rfl sh_130 (Nat.le_of_ble_eq_true rfl) (by decide) ⟨rfl, rfl⟩ (rX12_keeps hq4) <| At.aloadn dX12_sign_33 rfl <| At.getR fl_X12_13 sh_130 (le149 sh_130) rf_130_1 dX12_sign_34 <| At.bipush dX12_sign_37 (by decide) <| At.iloadn dX12_sign_39 rfl <| At.iadd dX12_sign_40 <| At.iloadn dX12_sign_41 rfl <| ?_
      obtain ⟨S5, hS5, g6, h⟩ := wrA_e h
      refine At.iast sh_131 (le149 sh_131) g6.1 g6.2 dX12_sign_42 <| At.nmS hS5 <| At.aloadn dX12_sign_43 rfl <| ?_
      obtain ⟨q7, hq7, h⟩ := bnd_e h
      refine At.cV0 (av := []) (rest := []) mv_X12_notes lk_X12_261 dX12_sign_44 rfl rfl sh_130 (Nat.le_of_ble_eq_true rfl) (by decide) ⟨rfl, rfl⟩ (rX12_notes hq7) <| At.aloadn dX12_sign_47 rfl <| At.getR fl_X12_36 sh_130 (le149 sh_130) rf_130_18 dX12_sign_48 <| At.bipush dX12_sign_51 (by decide) <| At.iloadn dX12_sign_53 rfl <| At.iadd dX12_sign_54 <| ?_
      obtain ⟨v8, hv8, g9, h⟩ := rdA_e h
      refine At.iald sh_137 (le149 sh_137) g9.1 g9.2 dX12_sign_55 <| At.nm hv8 <| ?_
      obtain rfl := Option.some.inj h
      exact At.iret rfl (Nat.zero_le _) (Nat.zero_le _) ⟨rfl, rfl⟩ dX12_sign_56
    · refine At.cS1 (av := [vl p2, vl 0, vl 3]) (rest := []) ms_X12_within lk_X12_142 dX12_sign_20 rfl rfl (Nat.le_of_ble_eq_true rfl) (by decide) ⟨rfl, rfl⟩ (rX12_within hq3) <| At.bifne_f (tgt := 29) dX12_sign_23 (by decide) c10 <| ?_
      refine At.bipush dX12_sign_26 (by decide) <| ?_
      obtain rfl := Option.some.inj h
      exact At.iret rfl (Nat.zero_le _) (Nat.zero_le _) ⟨rfl, rfl⟩ dX12_sign_28
  · refine At.cV1 (av := [vl p1]) (rest := []) mv_X12_isStreet lk_X12_236 dX12_sign_8 rfl rfl sh_130 (Nat.le_of_ble_eq_true rfl) (by decide) ⟨rfl, rfl⟩ (rX12_isStreet hq2) <| At.bifeq_t (tgt := 26) dX12_sign_11 (by decide) c11 <| ?_
    refine At.bipush dX12_sign_26 (by decide) <| ?_
    obtain rfl := Option.some.inj h
    exact At.iret rfl (Nat.zero_le _) (Nat.zero_le _) ⟨rfl, rfl⟩ dX12_sign_28
def fX12_bollards (p1 : Int) (S : SS) : Option (Int × SS) :=
  lt (up S 130 0 0) fun S1 =>
  Option.bind (fX12_within p1 0 9) fun q2 =>
  if q2 = true then (
    Option.bind (fX12_keeps  S1) fun q3 =>
    wrA q3 131 3303 48 p1 fun S4 =>
    Option.bind (fX12_notes  S4) fun q6 =>
    rdA q6 137 15 14 fun v7 =>
    some (v7, q6)
  ) else (
    some ((-11), S1)
  )
set_option maxRecDepth 100000 in
set_option maxHeartbeats 4000000 in
theorem rX12_bollards {G : GG} {p1 : Int} {S : SS} {rr : (Int × SS)} (h : fX12_bollards p1 S = some rr) : RD G mX12_bollards 2 [vr 130, vi p1] S (some (vi rr.1)) rr.2 := by
  unfold fX12_bollards at h
  refine Runs.of pl_X12 (Nat.le_of_ble_eq_true rfl) ?_
  show At G mX12_bollards 2 0 [(0, vr 130), (1, vi p1)] [] (mm S) 0 0 (EQ (some (vi rr.1)) rr.2)
  refine At.aloadn dX12_bollards_0 rfl <| At.iconst dX12_bollards_1 (by decide) <| ?_
  obtain ⟨S1, hS1, h⟩ := lt_e h
  refine At.putI fw_X12_1 sh_130 (le149 sh_130) dX12_bollards_2 <| At.nmS hS1 <| At.iloadn dX12_bollards_5 rfl <| At.i2l dX12_bollards_6 <| At.lconst0 dX12_bollards_7 <| At.ldc2 dX12_bollards_8 kl_X12_266 (by decide) <| ?_
  obtain ⟨q2, hq2, h⟩ := bnd_e h
  rcases ite_e h with ⟨c9, h⟩ | ⟨c9, h⟩
  · refine At.cS1 (av := [vl p1, vl 0, vl 9]) (rest := []) ms_X12_within lk_X12_142 dX12_bollards_11 rfl rfl (Nat.le_of_ble_eq_true rfl) (by decide) ⟨rfl, rfl⟩ (rX12_within hq2) <| At.bifne_t (tgt := 20) dX12_bollards_14 (by decide) c9 <| ?_
    refine At.aloadn dX12_bollards_20 rfl <| ?_
    obtain ⟨q3, hq3, h⟩ := bnd_e h
    refine At.cV0 (av := []) (rest := []) mv_X12_keeps lk_X12_254 dX12_bollards_21 rfl rfl sh_130 (Nat.le_of_ble_eq_true rfl) (by decide) ⟨rfl, rfl⟩ (rX12_keeps hq3) <| At.aloadn dX12_bollards_24 rfl <| At.getR fl_X12_13 sh_130 (le149 sh_130) rf_130_1 dX12_bollards_25 <| At.bipush dX12_bollards_28 (by decide) <| At.iloadn dX12_bollards_30 rfl <| ?_
    obtain ⟨S4, hS4, g5, h⟩ := wrA_e h
    refine At.iast sh_131 (le149 sh_131) g5.1 g5.2 dX12_bollards_31 <| At.nmS hS4 <| At.aloadn dX12_bollards_32 rfl <| ?_
    obtain ⟨q6, hq6, h⟩ := bnd_e h
    refine At.cV0 (av := []) (rest := []) mv_X12_notes lk_X12_261 dX12_bollards_33 rfl rfl sh_130 (Nat.le_of_ble_eq_true rfl) (by decide) ⟨rfl, rfl⟩ (rX12_notes hq6) <| At.aloadn dX12_bollards_36 rfl <| At.getR fl_X12_36 sh_130 (le149 sh_130) rf_130_18 dX12_bollards_37 <| At.bipush dX12_bollards_40 (by decide) <| ?_
    obtain ⟨v7, hv7, g8, h⟩ := rdA_e h
    refine At.iald sh_137 (le149 sh_137) g8.1 g8.2 dX12_bollards_42 <| At.nm hv7 <| ?_
    obtain rfl := Option.some.inj h
    exact At.iret rfl (Nat.zero_le _) (Nat.zero_le _) ⟨rfl, rfl⟩ dX12_bollards_43
  · refine At.cS1 (av := [vl p1, vl 0, vl 9]) (rest := []) ms_X12_within lk_X12_142 dX12_bollards_11 rfl rfl (Nat.le_of_ble_eq_true rfl) (by decide) ⟨rfl, rfl⟩ (rX12_within hq2) <| At.bifne_f (tgt := 20) dX12_bollards_14 (by decide) c9 <| ?_
    refine At.bipush dX12_bollards_17 (by decide) <| ?_
    obtain rfl := Option.some.inj h
    exact At.iret rfl (Nat.zero_le _) (Nat.zero_le _) ⟨rfl, rfl⟩ dX12_bollards_19
def fX12_put (p1 : Int) (p2 : Int) (p3 : Int) (S : SS) : Option (Int × SS) :=
  lt (up S 130 0 0) fun S1 =>
  Option.bind (fX12_isGoer p1 S1) fun q2 =>
  if q2 = true then (
    Option.bind (fX12_isCorner p2 S1) fun q3 =>
    if q3 = true then (
      Option.bind (fX12_isYear p3) fun q4 =>
      if q4 = true then (
        Option.bind (fX12_keeps  S1) fun q5 =>
        wrA q5 131 3303 (w32 (34 + p1)) p2 fun S6 =>
        wrA S6 131 3303 (w32 (37 + p1)) p3 fun S8 =>
        Option.bind (fX12_notes  S8) fun q10 =>
        rdA q10 137 15 p1 fun v11 =>
        rdA q10 137 15 (w32 (3 + p1)) fun v13 =>
        some (w32 ((w32 (100 * v11)) + v13), q10)
      ) else (
        some ((-11), S1)
      )
    ) else (
      some ((-11), S1)
    )
  ) else (
    some ((-11), S1)
  )
set_option maxRecDepth 100000 in
set_option maxHeartbeats 4000000 in
theorem rX12_put {G : GG} {p1 : Int} {p2 : Int} {p3 : Int} {S : SS} {rr : (Int × SS)} (h : fX12_put p1 p2 p3 S = some rr) : RD G mX12_put 3 [vr 130, vi p1, vi p2, vi p3] S (some (vi rr.1)) rr.2 := by
  unfold fX12_put at h
  refine Runs.of pl_X12 (Nat.le_of_ble_eq_true rfl) ?_
  show At G mX12_put 3 0 [(0, vr 130), (1, vi p1), (2, vi p2), (3, vi p3)] [] (mm S) 0 0 (EQ (some (vi rr.1)) rr.2)
  refine At.aloadn dX12_put_0 rfl <| At.iconst dX12_put_1 (by decide) <| ?_
  obtain ⟨S1, hS1, h⟩ := lt_e h
  refine At.putI fw_X12_1 sh_130 (le149 sh_130) dX12_put_2 <| At.nmS hS1 <| At.aloadn dX12_put_5 rfl <| At.iloadn dX12_put_6 rfl <| At.i2l dX12_put_7 <| ?_
  obtain ⟨q2, hq2, h⟩ := bnd_e h
  rcases ite_e h with ⟨c17, h⟩ | ⟨c17, h⟩
  · refine At.cV1 (av := [vl p1]) (rest := []) mv_X12_isGoer lk_X12_233 dX12_put_8 rfl rfl sh_130 (Nat.le_of_ble_eq_true rfl) (by decide) ⟨rfl, rfl⟩ (rX12_isGoer hq2) <| At.bifeq_f (tgt := 31) dX12_put_11 (by decide) c17 <| ?_
    refine At.aloadn dX12_put_14 rfl <| At.iloadn dX12_put_15 rfl <| At.i2l dX12_put_16 <| ?_
    obtain ⟨q3, hq3, h⟩ := bnd_e h
    rcases ite_e h with ⟨c16, h⟩ | ⟨c16, h⟩
    · refine At.cV1 (av := [vl p2]) (rest := []) mv_X12_isCorner lk_X12_268 dX12_put_17 rfl rfl sh_130 (Nat.le_of_ble_eq_true rfl) (by decide) ⟨rfl, rfl⟩ (rX12_isCorner hq3) <| At.bifeq_f (tgt := 31) dX12_put_20 (by decide) c16 <| ?_
      refine At.iloadn dX12_put_23 rfl <| At.i2l dX12_put_24 <| ?_
      obtain ⟨q4, hq4, h⟩ := bnd_e h
      rcases ite_e h with ⟨c15, h⟩ | ⟨c15, h⟩
      · refine At.cS1 (av := [vl p3]) (rest := []) ms_X12_isYear lk_X12_229 dX12_put_25 rfl rfl (Nat.le_of_ble_eq_true rfl) (by decide) ⟨rfl, rfl⟩ (rX12_isYear hq4) <| At.bifne_t (tgt := 34) dX12_put_28 (by decide) c15 <| ?_
        refine At.aloadn dX12_put_34 rfl <| ?_
        obtain ⟨q5, hq5, h⟩ := bnd_e h
        refine At.cV0 (av := []) (rest := []) mv_X12_keeps lk_X12_254 dX12_put_35 rfl rfl sh_130 (Nat.le_of_ble_eq_true rfl) (by decide) ⟨rfl, rfl⟩ (rX12_keeps hq5) <| At.aloadn dX12_put_38 rfl <| At.getR fl_X12_13 sh_130 (le149 sh_130) rf_130_1 dX12_put_39 <| At.bipush dX12_put_42 (by decide) <| At.iloadn dX12_put_44 rfl <| At.iadd dX12_put_45 <| At.iloadn dX12_put_46 rfl <| ?_
        obtain ⟨S6, hS6, g7, h⟩ := wrA_e h
        refine At.iast sh_131 (le149 sh_131) g7.1 g7.2 dX12_put_47 <| At.nmS hS6 <| At.aloadn dX12_put_48 rfl <| At.getR fl_X12_13 sh_130 (le149 sh_130) rf_130_1 dX12_put_49 <| At.bipush dX12_put_52 (by decide) <| At.iloadn dX12_put_54 rfl <| At.iadd dX12_put_55 <| At.iloadn dX12_put_56 rfl <| ?_
        obtain ⟨S8, hS8, g9, h⟩ := wrA_e h
        refine At.iast sh_131 (le149 sh_131) g9.1 g9.2 dX12_put_57 <| At.nmS hS8 <| At.aloadn dX12_put_58 rfl <| ?_
        obtain ⟨q10, hq10, h⟩ := bnd_e h
        refine At.cV0 (av := []) (rest := []) mv_X12_notes lk_X12_261 dX12_put_59 rfl rfl sh_130 (Nat.le_of_ble_eq_true rfl) (by decide) ⟨rfl, rfl⟩ (rX12_notes hq10) <| At.bipush dX12_put_62 (by decide) <| At.aloadn dX12_put_64 rfl <| At.getR fl_X12_36 sh_130 (le149 sh_130) rf_130_18 dX12_put_65 <| At.iloadn dX12_put_68 rfl <| ?_
        obtain ⟨v11, hv11, g12, h⟩ := rdA_e h
        refine At.iald sh_137 (le149 sh_137) g12.1 g12.2 dX12_put_69 <| At.nm hv11 <| At.imul dX12_put_70 <| At.aloadn dX12_put_71 rfl <| At.getR fl_X12_36 sh_130 (le149 sh_130) rf_130_18 dX12_put_72 <| At.iconst dX12_put_75 (by decide) <| At.iloadn dX12_put_76 rfl <| At.iadd dX12_put_77 <| ?_
        obtain ⟨v13, hv13, g14, h⟩ := rdA_e h
        refine At.iald sh_137 (le149 sh_137) g14.1 g14.2 dX12_put_78 <| At.nm hv13 <| At.iadd dX12_put_79 <| ?_
        obtain rfl := Option.some.inj h
        exact At.iret rfl (Nat.zero_le _) (Nat.zero_le _) ⟨rfl, rfl⟩ dX12_put_80
      · refine At.cS1 (av := [vl p3]) (rest := []) ms_X12_isYear lk_X12_229 dX12_put_25 rfl rfl (Nat.le_of_ble_eq_true rfl) (by decide) ⟨rfl, rfl⟩ (rX12_isYear hq4) <| At.bifne_f (tgt := 34) dX12_put_28 (by decide) c15 <| ?_
        refine At.bipush dX12_put_31 (by decide) <| ?_
        obtain rfl := Option.some.inj h
        exact At.iret rfl (Nat.zero_le _) (Nat.zero_le _) ⟨rfl, rfl⟩ dX12_put_33
    · refine At.cV1 (av := [vl p2]) (rest := []) mv_X12_isCorner lk_X12_268 dX12_put_17 rfl rfl sh_130 (Nat.le_of_ble_eq_true rfl) (by decide) ⟨rfl, rfl⟩ (rX12_isCorner hq3) <| At.bifeq_t (tgt := 31) dX12_put_20 (by decide) c16 <| ?_
      refine At.bipush dX12_put_31 (by decide) <| ?_
      obtain rfl := Option.some.inj h
      exact At.iret rfl (Nat.zero_le _) (Nat.zero_le _) ⟨rfl, rfl⟩ dX12_put_33
  · refine At.cV1 (av := [vl p1]) (rest := []) mv_X12_isGoer lk_X12_233 dX12_put_8 rfl rfl sh_130 (Nat.le_of_ble_eq_true rfl) (by decide) ⟨rfl, rfl⟩ (rX12_isGoer hq2) <| At.bifeq_t (tgt := 31) dX12_put_11 (by decide) c17 <| ?_
    refine At.bipush dX12_put_31 (by decide) <| ?_
    obtain rfl := Option.some.inj h
    exact At.iret rfl (Nat.zero_le _) (Nat.zero_le _) ⟨rfl, rfl⟩ dX12_put_33
def fX12_undo_L44 : Nat → Int → SS → Option (SS)
  | 0, _, _ => none
  | n + 1, l2, S =>
    if 15 ≤ l2 then (
      some S
    ) else (
      rdA S 131 3303 49 fun v1 =>
      rdA S 131 3303 (w32 ((w32 (50 + (w32 (15 * v1)))) + l2)) fun v3 =>
      wrA S 131 3303 (w32 (34 + l2)) v3 fun S5 =>
      lt (w32 (l2 + 1)) fun x7 =>
      fX12_undo_L44 n x7 S5
    )
def fX12_undo (p1 : Int) (S : SS) : Option (Int × SS) :=
  lt (up S 130 0 0) fun S1 =>
  Option.bind (fX12_within p1 1 10) fun q2 =>
  if q2 = true then (
    rdA S1 131 3303 49 fun v3 =>
    if p1 ≤ v3 then (
      rdA S1 131 3303 49 fun v5 =>
      wrA S1 131 3303 49 (w32 (v5 - p1)) fun S7 =>
      Option.bind (fX12_undo_L44 FU 0 S7) fun q9 =>
      rdA q9 131 3303 49 fun v11 =>
      some (v11, q9)
    ) else (
      some ((-3), S1)
    )
  ) else (
    some ((-3), S1)
  )
set_option maxRecDepth 100000 in
set_option maxHeartbeats 4000000 in
theorem lX12_undo_L44 {G : GG} {Φ : Option VV → MM → Prop} : ∀ (n : Nat) (l2 : Int) (S : SS) (q : SS), fX12_undo_L44 n l2 S = some q → At G mX12_undo 2 85 [(0, vr 130)] [] (mm q) 0 0 Φ → At G mX12_undo 2 44 [(0, vr 130), (2, vi l2)] [] (mm S) 0 0 Φ := by
  intro n
  induction n with
  | zero =>
    intro _ _ _ h
    cases h
  | succ n ih =>
    intro l2 S q h K85
    unfold fX12_undo_L44 at h
    rcases ite_e h with ⟨c8, h⟩ | ⟨c8, h⟩
    · refine At.iloadn dX12_undo_44 rfl <| At.bipush dX12_undo_45 (by decide) <| At.icmp_ge_t (tgt := 85) dX12_undo_47 (by decide) c8 <| ?_
      obtain rfl := Option.some.inj h
      exact At.sub [0] rfl K85
    · refine At.iloadn dX12_undo_44 rfl <| At.bipush dX12_undo_45 (by decide) <| At.icmp_ge_f (tgt := 85) dX12_undo_47 (by decide) c8 <| ?_
      refine At.aloadn dX12_undo_50 rfl <| At.getR fl_X12_13 sh_130 (le149 sh_130) rf_130_1 dX12_undo_51 <| At.bipush dX12_undo_54 (by decide) <| At.iloadn dX12_undo_56 rfl <| At.iadd dX12_undo_57 <| At.aloadn dX12_undo_58 rfl <| At.getR fl_X12_13 sh_130 (le149 sh_130) rf_130_1 dX12_undo_59 <| At.bipush dX12_undo_62 (by decide) <| At.bipush dX12_undo_64 (by decide) <| At.aloadn dX12_undo_66 rfl <| At.getR fl_X12_13 sh_130 (le149 sh_130) rf_130_1 dX12_undo_67 <| At.bipush dX12_undo_70 (by decide) <| ?_
      obtain ⟨v1, hv1, g2, h⟩ := rdA_e h
      refine At.iald sh_131 (le149 sh_131) g2.1 g2.2 dX12_undo_72 <| At.nm hv1 <| At.imul dX12_undo_73 <| At.iadd dX12_undo_74 <| At.iloadn dX12_undo_75 rfl <| At.iadd dX12_undo_76 <| ?_
      obtain ⟨v3, hv3, g4, h⟩ := rdA_e h
      refine At.iald sh_131 (le149 sh_131) g4.1 g4.2 dX12_undo_77 <| At.nm hv3 <| ?_
      obtain ⟨S5, hS5, g6, h⟩ := wrA_e h
      refine At.iast sh_131 (le149 sh_131) g6.1 g6.2 dX12_undo_78 <| At.nmS hS5 <| ?_
      obtain ⟨x7, hx7, h⟩ := lt_e h
      refine At.iinc (ls' := [(2, vi x7), (0, vr 130)]) dX12_undo_79 rfl (by decide) (by rw [hx7]; rfl) <| At.goto (tgt := 44) dX12_undo_82 (by decide) <| ?_
      exact At.sub [1, 0] rfl (ih _ _ _ h K85)
set_option maxRecDepth 100000 in
set_option maxHeartbeats 4000000 in
theorem rX12_undo {G : GG} {p1 : Int} {S : SS} {rr : (Int × SS)} (h : fX12_undo p1 S = some rr) : RD G mX12_undo 2 [vr 130, vi p1] S (some (vi rr.1)) rr.2 := by
  unfold fX12_undo at h
  refine Runs.of pl_X12 (Nat.le_of_ble_eq_true rfl) ?_
  show At G mX12_undo 2 0 [(0, vr 130), (1, vi p1)] [] (mm S) 0 0 (EQ (some (vi rr.1)) rr.2)
  refine At.aloadn dX12_undo_0 rfl <| At.iconst dX12_undo_1 (by decide) <| ?_
  obtain ⟨S1, hS1, h⟩ := lt_e h
  refine At.putI fw_X12_1 sh_130 (le149 sh_130) dX12_undo_2 <| At.nmS hS1 <| At.iloadn dX12_undo_5 rfl <| At.i2l dX12_undo_6 <| At.lconst1 dX12_undo_7 <| At.ldc2 dX12_undo_8 kl_X12_271 (by decide) <| ?_
  obtain ⟨q2, hq2, h⟩ := bnd_e h
  rcases ite_e h with ⟨c14, h⟩ | ⟨c14, h⟩
  · refine At.cS1 (av := [vl p1, vl 1, vl 10]) (rest := []) ms_X12_within lk_X12_142 dX12_undo_11 rfl rfl (Nat.le_of_ble_eq_true rfl) (by decide) ⟨rfl, rfl⟩ (rX12_within hq2) <| At.bifeq_f (tgt := 28) dX12_undo_14 (by decide) c14 <| ?_
    refine At.iloadn dX12_undo_17 rfl <| At.aloadn dX12_undo_18 rfl <| At.getR fl_X12_13 sh_130 (le149 sh_130) rf_130_1 dX12_undo_19 <| At.bipush dX12_undo_22 (by decide) <| ?_
    obtain ⟨v3, hv3, g4, h⟩ := rdA_e h
    rcases ite_e h with ⟨c13, h⟩ | ⟨c13, h⟩
    · refine At.iald sh_131 (le149 sh_131) g4.1 g4.2 dX12_undo_24 <| At.nm hv3 <| At.icmp_le_t (tgt := 31) dX12_undo_25 (by decide) c13 <| ?_
      refine At.aloadn dX12_undo_31 rfl <| At.getR fl_X12_13 sh_130 (le149 sh_130) rf_130_1 dX12_undo_32 <| At.bipush dX12_undo_35 (by decide) <| At.dup2 rfl rfl dX12_undo_37 <| ?_
      obtain ⟨v5, hv5, g6, h⟩ := rdA_e h
      refine At.iald sh_131 (le149 sh_131) g6.1 g6.2 dX12_undo_38 <| At.nm hv5 <| At.iloadn dX12_undo_39 rfl <| At.isub dX12_undo_40 <| ?_
      obtain ⟨S7, hS7, g8, h⟩ := wrA_e h
      refine At.iast sh_131 (le149 sh_131) g8.1 g8.2 dX12_undo_41 <| At.nmS hS7 <| At.iconst dX12_undo_42 (by decide) <| At.istoren (ls' := [(2, vi 0), (0, vr 130), (1, vi p1)]) dX12_undo_43 (by decide) rfl <| ?_
      obtain ⟨q9, ho10, h⟩ := bnd_e h
      refine At.sub [1, 0] rfl (lX12_undo_L44 FU _ _ q9 ho10 ?_)
      refine At.aloadn dX12_undo_85 rfl <| At.getR fl_X12_13 sh_130 (le149 sh_130) rf_130_1 dX12_undo_86 <| At.bipush dX12_undo_89 (by decide) <| ?_
      obtain ⟨v11, hv11, g12, h⟩ := rdA_e h
      refine At.iald sh_131 (le149 sh_131) g12.1 g12.2 dX12_undo_91 <| At.nm hv11 <| ?_
      obtain rfl := Option.some.inj h
      exact At.iret rfl (Nat.zero_le _) (Nat.zero_le _) ⟨rfl, rfl⟩ dX12_undo_92
    · refine At.iald sh_131 (le149 sh_131) g4.1 g4.2 dX12_undo_24 <| At.nm hv3 <| At.icmp_le_f (tgt := 31) dX12_undo_25 (by decide) c13 <| ?_
      refine At.bipush dX12_undo_28 (by decide) <| ?_
      obtain rfl := Option.some.inj h
      exact At.iret rfl (Nat.zero_le _) (Nat.zero_le _) ⟨rfl, rfl⟩ dX12_undo_30
  · refine At.cS1 (av := [vl p1, vl 1, vl 10]) (rest := []) ms_X12_within lk_X12_142 dX12_undo_11 rfl rfl (Nat.le_of_ble_eq_true rfl) (by decide) ⟨rfl, rfl⟩ (rX12_within hq2) <| At.bifeq_t (tgt := 28) dX12_undo_14 (by decide) c14 <| ?_
    refine At.bipush dX12_undo_28 (by decide) <| ?_
    obtain rfl := Option.some.inj h
    exact At.iret rfl (Nat.zero_le _) (Nat.zero_le _) ⟨rfl, rfl⟩ dX12_undo_30
def fX12_whyNot (p1 : Int) (S : SS) : Option (Int × SS) :=
  Option.bind (fX12_within p1 0 99) fun q1 =>
  if q1 = true then (
    Option.bind (fX12_whyGo (w64 (Int.tdiv p1 10)) (Int.tmod p1 10) S) fun q2 =>
    some (q2.1, q2.2)
  ) else (
    Option.bind (fX12_within p1 100 199) fun q3 =>
    if q3 = true then (
      Option.bind (fX12_isStreet (w64 (Int.tdiv (w64 (p1 - 100)) 10)) S) fun q4 =>
      if q4 = true then (
        if 0 < (lc (Int.tmod p1 10) 3) then (
          some (1, S)
        ) else (
          some (0, S)
        )
      ) else (
        some (1, S)
      )
    ) else (
      Option.bind (fX12_within p1 200 209) fun q7 =>
      if q7 = true then (
        some (0, S)
      ) else (
        Option.bind (fX12_within p1 1000 3999) fun q8 =>
        if q8 = true then (
          Option.bind (fX12_isGoer (w64 (Int.tdiv (w64 (p1 - 1000)) 1000)) S) fun q9 =>
          if q9 = true then (
            Option.bind (fX12_isCorner (w64 (Int.tdiv (Int.tmod p1 1000) 100)) S) fun q10 =>
            if q10 = true then (
              Option.bind (fX12_isYear (Int.tmod p1 100)) fun q11 =>
              if q11 = true then (
                some (0, S)
              ) else (
                some (1, S)
              )
            ) else (
              some (1, S)
            )
          ) else (
            some (1, S)
          )
        ) else (
          some (1, S)
        )
      )
    )
  )
set_option maxRecDepth 100000 in
set_option maxHeartbeats 4000000 in
theorem rX12_whyNot {G : GG} {p1 : Int} {S : SS} {rr : (Int × SS)} (h : fX12_whyNot p1 S = some rr) : RD G mX12_whyNot 6 [vr 130, vl p1] S (some (vi rr.1)) rr.2 := by
  unfold fX12_whyNot at h
  refine Runs.of pl_X12 (Nat.le_of_ble_eq_true rfl) ?_
  show At G mX12_whyNot 6 0 [(0, vr 130), (1, vl p1)] [] (mm S) 0 0 (EQ (some (vi rr.1)) rr.2)
  refine At.lloadn dX12_whyNot_0 rfl <| At.lconst0 dX12_whyNot_1 <| At.ldc2 dX12_whyNot_2 kl_X12_273 (by decide) <| ?_
  obtain ⟨q1, hq1, h⟩ := bnd_e h
  rcases ite_e h with ⟨c18, h⟩ | ⟨c18, h⟩
  · refine At.cS1 (av := [vl p1, vl 0, vl 99]) (rest := []) ms_X12_within lk_X12_142 dX12_whyNot_5 rfl rfl (Nat.le_of_ble_eq_true rfl) (by decide) ⟨rfl, rfl⟩ (rX12_within hq1) <| At.bifeq_f (tgt := 26) dX12_whyNot_8 (by decide) c18 <| ?_
    refine At.aloadn dX12_whyNot_11 rfl <| At.lloadn dX12_whyNot_12 rfl <| At.ldc2 dX12_whyNot_13 kl_X12_271 (by decide) <| At.ldiv dX12_whyNot_16 (by decide) <| At.lloadn dX12_whyNot_17 rfl <| At.ldc2 dX12_whyNot_18 kl_X12_271 (by decide) <| At.lrem dX12_whyNot_21 (by decide) <| ?_
    obtain ⟨q2, hq2, h⟩ := bnd_e h
    refine At.cV1 (av := [vl (w64 (Int.tdiv p1 10)), vl (Int.tmod p1 10)]) (rest := []) mv_X12_whyGo lk_X12_247 dX12_whyNot_22 rfl rfl sh_130 (Nat.le_of_ble_eq_true rfl) (by decide) ⟨rfl, rfl⟩ (rX12_whyGo hq2) <| ?_
    obtain rfl := Option.some.inj h
    exact At.iret rfl (Nat.zero_le _) (Nat.zero_le _) ⟨rfl, rfl⟩ dX12_whyNot_25
  · refine At.cS1 (av := [vl p1, vl 0, vl 99]) (rest := []) ms_X12_within lk_X12_142 dX12_whyNot_5 rfl rfl (Nat.le_of_ble_eq_true rfl) (by decide) ⟨rfl, rfl⟩ (rX12_within hq1) <| At.bifeq_t (tgt := 26) dX12_whyNot_8 (by decide) c18 <| ?_
    refine At.lloadn dX12_whyNot_26 rfl <| At.ldc2 dX12_whyNot_27 kl_X12_275 (by decide) <| At.ldc2 dX12_whyNot_30 kl_X12_277 (by decide) <| ?_
    obtain ⟨q3, hq3, h⟩ := bnd_e h
    rcases ite_e h with ⟨c17, h⟩ | ⟨c17, h⟩
    · refine At.cS1 (av := [vl p1, vl 100, vl 199]) (rest := []) ms_X12_within lk_X12_142 dX12_whyNot_33 rfl rfl (Nat.le_of_ble_eq_true rfl) (by decide) ⟨rfl, rfl⟩ (rX12_within hq3) <| At.bifeq_f (tgt := 73) dX12_whyNot_36 (by decide) c17 <| ?_
      refine At.aloadn dX12_whyNot_39 rfl <| At.lloadn dX12_whyNot_40 rfl <| At.ldc2 dX12_whyNot_41 kl_X12_275 (by decide) <| At.lsub dX12_whyNot_44 <| At.ldc2 dX12_whyNot_45 kl_X12_271 (by decide) <| At.ldiv dX12_whyNot_48 (by decide) <| ?_
      obtain ⟨q4, hq4, h⟩ := bnd_e h
      rcases ite_e h with ⟨c6, h⟩ | ⟨c6, h⟩
      · refine At.cV1 (av := [vl (w64 (Int.tdiv (w64 (p1 - 100)) 10))]) (rest := []) mv_X12_isStreet lk_X12_236 dX12_whyNot_49 rfl rfl sh_130 (Nat.le_of_ble_eq_true rfl) (by decide) ⟨rfl, rfl⟩ (rX12_isStreet hq4) <| At.bifeq_f (tgt := 71) dX12_whyNot_52 (by decide) c6 <| ?_
        rcases ite_e h with ⟨c5, h⟩ | ⟨c5, h⟩
        · refine At.lloadn dX12_whyNot_55 rfl <| At.ldc2 dX12_whyNot_56 kl_X12_271 (by decide) <| At.lrem dX12_whyNot_59 (by decide) <| At.ldc2 dX12_whyNot_60 kl_X12_264 (by decide) <| At.lcmp dX12_whyNot_63 <| At.if_gt_t (tgt := 71) dX12_whyNot_64 (by decide) c5 <| ?_
          refine At.iconst dX12_whyNot_71 (by decide) <| ?_
          obtain rfl := Option.some.inj h
          exact At.iret rfl (Nat.zero_le _) (Nat.zero_le _) ⟨rfl, rfl⟩ dX12_whyNot_72
        · refine At.lloadn dX12_whyNot_55 rfl <| At.ldc2 dX12_whyNot_56 kl_X12_271 (by decide) <| At.lrem dX12_whyNot_59 (by decide) <| At.ldc2 dX12_whyNot_60 kl_X12_264 (by decide) <| At.lcmp dX12_whyNot_63 <| At.if_gt_f (tgt := 71) dX12_whyNot_64 (by decide) c5 <| ?_
          refine At.iconst dX12_whyNot_67 (by decide) <| At.goto (tgt := 72) dX12_whyNot_68 (by decide) <| ?_
          obtain rfl := Option.some.inj h
          exact At.iret rfl (Nat.zero_le _) (Nat.zero_le _) ⟨rfl, rfl⟩ dX12_whyNot_72
      · refine At.cV1 (av := [vl (w64 (Int.tdiv (w64 (p1 - 100)) 10))]) (rest := []) mv_X12_isStreet lk_X12_236 dX12_whyNot_49 rfl rfl sh_130 (Nat.le_of_ble_eq_true rfl) (by decide) ⟨rfl, rfl⟩ (rX12_isStreet hq4) <| At.bifeq_t (tgt := 71) dX12_whyNot_52 (by decide) c6 <| ?_
        refine At.iconst dX12_whyNot_71 (by decide) <| ?_
        obtain rfl := Option.some.inj h
        exact At.iret rfl (Nat.zero_le _) (Nat.zero_le _) ⟨rfl, rfl⟩ dX12_whyNot_72
    · refine At.cS1 (av := [vl p1, vl 100, vl 199]) (rest := []) ms_X12_within lk_X12_142 dX12_whyNot_33 rfl rfl (Nat.le_of_ble_eq_true rfl) (by decide) ⟨rfl, rfl⟩ (rX12_within hq3) <| At.bifeq_t (tgt := 73) dX12_whyNot_36 (by decide) c17 <| ?_
      refine At.lloadn dX12_whyNot_73 rfl <| At.ldc2 dX12_whyNot_74 kl_X12_279 (by decide) <| At.ldc2 dX12_whyNot_77 kl_X12_281 (by decide) <| ?_
      obtain ⟨q7, hq7, h⟩ := bnd_e h
      rcases ite_e h with ⟨c16, h⟩ | ⟨c16, h⟩
      · refine At.cS1 (av := [vl p1, vl 200, vl 209]) (rest := []) ms_X12_within lk_X12_142 dX12_whyNot_80 rfl rfl (Nat.le_of_ble_eq_true rfl) (by decide) ⟨rfl, rfl⟩ (rX12_within hq7) <| At.bifeq_f (tgt := 88) dX12_whyNot_83 (by decide) c16 <| ?_
        refine At.iconst dX12_whyNot_86 (by decide) <| ?_
        obtain rfl := Option.some.inj h
        exact At.iret rfl (Nat.zero_le _) (Nat.zero_le _) ⟨rfl, rfl⟩ dX12_whyNot_87
      · refine At.cS1 (av := [vl p1, vl 200, vl 209]) (rest := []) ms_X12_within lk_X12_142 dX12_whyNot_80 rfl rfl (Nat.le_of_ble_eq_true rfl) (by decide) ⟨rfl, rfl⟩ (rX12_within hq7) <| At.bifeq_t (tgt := 88) dX12_whyNot_83 (by decide) c16 <| ?_
        refine At.lloadn dX12_whyNot_88 rfl <| At.ldc2 dX12_whyNot_89 kl_X12_283 (by decide) <| At.ldc2 dX12_whyNot_92 kl_X12_285 (by decide) <| ?_
        obtain ⟨q8, hq8, h⟩ := bnd_e h
        rcases ite_e h with ⟨c15, h⟩ | ⟨c15, h⟩
        · refine At.cS1 (av := [vl p1, vl 1000, vl 3999]) (rest := []) ms_X12_within lk_X12_142 dX12_whyNot_95 rfl rfl (Nat.le_of_ble_eq_true rfl) (by decide) ⟨rfl, rfl⟩ (rX12_within hq8) <| At.bifeq_f (tgt := 148) dX12_whyNot_98 (by decide) c15 <| ?_
          refine At.aloadn dX12_whyNot_101 rfl <| At.lloadn dX12_whyNot_102 rfl <| At.ldc2 dX12_whyNot_103 kl_X12_283 (by decide) <| At.lsub dX12_whyNot_106 <| At.ldc2 dX12_whyNot_107 kl_X12_283 (by decide) <| At.ldiv dX12_whyNot_110 (by decide) <| ?_
          obtain ⟨q9, hq9, h⟩ := bnd_e h
          rcases ite_e h with ⟨c14, h⟩ | ⟨c14, h⟩
          · refine At.cV1 (av := [vl (w64 (Int.tdiv (w64 (p1 - 1000)) 1000))]) (rest := []) mv_X12_isGoer lk_X12_233 dX12_whyNot_111 rfl rfl sh_130 (Nat.le_of_ble_eq_true rfl) (by decide) ⟨rfl, rfl⟩ (rX12_isGoer hq9) <| At.bifeq_f (tgt := 148) dX12_whyNot_114 (by decide) c14 <| ?_
            refine At.aloadn dX12_whyNot_117 rfl <| At.lloadn dX12_whyNot_118 rfl <| At.ldc2 dX12_whyNot_119 kl_X12_283 (by decide) <| At.lrem dX12_whyNot_122 (by decide) <| At.ldc2 dX12_whyNot_123 kl_X12_275 (by decide) <| At.ldiv dX12_whyNot_126 (by decide) <| ?_
            obtain ⟨q10, hq10, h⟩ := bnd_e h
            rcases ite_e h with ⟨c13, h⟩ | ⟨c13, h⟩
            · refine At.cV1 (av := [vl (w64 (Int.tdiv (Int.tmod p1 1000) 100))]) (rest := []) mv_X12_isCorner lk_X12_268 dX12_whyNot_127 rfl rfl sh_130 (Nat.le_of_ble_eq_true rfl) (by decide) ⟨rfl, rfl⟩ (rX12_isCorner hq10) <| At.bifeq_f (tgt := 148) dX12_whyNot_130 (by decide) c13 <| ?_
              refine At.lloadn dX12_whyNot_133 rfl <| At.ldc2 dX12_whyNot_134 kl_X12_275 (by decide) <| At.lrem dX12_whyNot_137 (by decide) <| ?_
              obtain ⟨q11, hq11, h⟩ := bnd_e h
              rcases ite_e h with ⟨c12, h⟩ | ⟨c12, h⟩
              · refine At.cS1 (av := [vl (Int.tmod p1 100)]) (rest := []) ms_X12_isYear lk_X12_229 dX12_whyNot_138 rfl rfl (Nat.le_of_ble_eq_true rfl) (by decide) ⟨rfl, rfl⟩ (rX12_isYear hq11) <| At.bifeq_f (tgt := 148) dX12_whyNot_141 (by decide) c12 <| ?_
                refine At.iconst dX12_whyNot_144 (by decide) <| At.goto (tgt := 149) dX12_whyNot_145 (by decide) <| ?_
                obtain rfl := Option.some.inj h
                exact At.iret rfl (Nat.zero_le _) (Nat.zero_le _) ⟨rfl, rfl⟩ dX12_whyNot_149
              · refine At.cS1 (av := [vl (Int.tmod p1 100)]) (rest := []) ms_X12_isYear lk_X12_229 dX12_whyNot_138 rfl rfl (Nat.le_of_ble_eq_true rfl) (by decide) ⟨rfl, rfl⟩ (rX12_isYear hq11) <| At.bifeq_t (tgt := 148) dX12_whyNot_141 (by decide) c12 <| ?_
                refine At.iconst dX12_whyNot_148 (by decide) <| ?_
                obtain rfl := Option.some.inj h
                exact At.iret rfl (Nat.zero_le _) (Nat.zero_le _) ⟨rfl, rfl⟩ dX12_whyNot_149
            · refine At.cV1 (av := [vl (w64 (Int.tdiv (Int.tmod p1 1000) 100))]) (rest := []) mv_X12_isCorner lk_X12_268 dX12_whyNot_127 rfl rfl sh_130 (Nat.le_of_ble_eq_true rfl) (by decide) ⟨rfl, rfl⟩ (rX12_isCorner hq10) <| At.bifeq_t (tgt := 148) dX12_whyNot_130 (by decide) c13 <| ?_
              refine At.iconst dX12_whyNot_148 (by decide) <| ?_
              obtain rfl := Option.some.inj h
              exact At.iret rfl (Nat.zero_le _) (Nat.zero_le _) ⟨rfl, rfl⟩ dX12_whyNot_149
          · refine At.cV1 (av := [vl (w64 (Int.tdiv (w64 (p1 - 1000)) 1000))]) (rest := []) mv_X12_isGoer lk_X12_233 dX12_whyNot_111 rfl rfl sh_130 (Nat.le_of_ble_eq_true rfl) (by decide) ⟨rfl, rfl⟩ (rX12_isGoer hq9) <| At.bifeq_t (tgt := 148) dX12_whyNot_114 (by decide) c14 <| ?_
            refine At.iconst dX12_whyNot_148 (by decide) <| ?_
            obtain rfl := Option.some.inj h
            exact At.iret rfl (Nat.zero_le _) (Nat.zero_le _) ⟨rfl, rfl⟩ dX12_whyNot_149
        · refine At.cS1 (av := [vl p1, vl 1000, vl 3999]) (rest := []) ms_X12_within lk_X12_142 dX12_whyNot_95 rfl rfl (Nat.le_of_ble_eq_true rfl) (by decide) ⟨rfl, rfl⟩ (rX12_within hq8) <| At.bifeq_t (tgt := 148) dX12_whyNot_98 (by decide) c15 <| ?_
          refine At.iconst dX12_whyNot_148 (by decide) <| ?_
          obtain rfl := Option.some.inj h
          exact At.iret rfl (Nat.zero_le _) (Nat.zero_le _) ⟨rfl, rfl⟩ dX12_whyNot_149
def fX12_does (p1 : Int) (S : SS) : Option SS :=
  if 100 ≤ p1 then (
    if 200 ≤ p1 then (
      if 210 ≤ p1 then (
        Option.bind (fX12_isAt (w32 (Int.tdiv (w32 (p1 - 1000)) 1000)) (w32 ((w32 (20 * (w32 (Int.tdiv (Int.tmod p1 1000) 100)))) + (Int.tmod p1 100))) S) fun q1 =>
        some q1
      ) else (
        wrA S 131 3303 48 (w32 (p1 - 200)) fun S2 =>
        some S2
      )
    ) else (
      wrA S 131 3303 (w32 (40 + (w32 (Int.tdiv (w32 (p1 - 100)) 10)))) (Int.tmod p1 10) fun S5 =>
      some S5
    )
  ) else (
    Option.bind (fX12_standOf (w32 (Int.tdiv p1 10)) S) fun q8 =>
    Option.bind (fX12_goneTo (w32 (Int.tdiv p1 10)) q8 (Int.tmod p1 10) S) fun q9 =>
    Option.bind (fX12_isAt (w32 (Int.tdiv p1 10)) q9.1 q9.2) fun q10 =>
    some q10
  )
set_option maxRecDepth 100000 in
set_option maxHeartbeats 4000000 in
theorem rX12_does {G : GG} {p1 : Int} {S : SS} {rr : SS} (h : fX12_does p1 S = some rr) : RD G mX12_does 5 [vr 130, vi p1] S none rr := by
  unfold fX12_does at h
  refine Runs.of pl_X12 (Nat.le_of_ble_eq_true rfl) ?_
  show At G mX12_does 5 0 [(0, vr 130), (1, vi p1)] [] (mm S) 0 0 (EQ none rr)
  rcases ite_e h with ⟨c11, h⟩ | ⟨c11, h⟩
  · refine At.iloadn dX12_does_0 rfl <| At.bipush dX12_does_1 (by decide) <| At.icmp_ge_t (tgt := 37) dX12_does_3 (by decide) c11 <| ?_
    rcases ite_e h with ⟨c7, h⟩ | ⟨c7, h⟩
    · refine At.iloadn dX12_does_37 rfl <| At.sipush dX12_does_38 (by decide) <| At.icmp_ge_t (tgt := 66) dX12_does_41 (by decide) c7 <| ?_
      rcases ite_e h with ⟨c4, h⟩ | ⟨c4, h⟩
      · refine At.iloadn dX12_does_66 rfl <| At.sipush dX12_does_67 (by decide) <| At.icmp_ge_t (tgt := 88) dX12_does_70 (by decide) c4 <| ?_
        refine At.aloadn dX12_does_88 rfl <| At.iloadn dX12_does_89 rfl <| At.sipush dX12_does_90 (by decide) <| At.isub dX12_does_93 <| At.sipush dX12_does_94 (by decide) <| At.idiv dX12_does_97 (by decide) <| At.bipush dX12_does_98 (by decide) <| At.iloadn dX12_does_100 rfl <| At.sipush dX12_does_101 (by decide) <| At.irem dX12_does_104 (by decide) <| At.bipush dX12_does_105 (by decide) <| At.idiv dX12_does_107 (by decide) <| At.imul dX12_does_108 <| At.iloadn dX12_does_109 rfl <| At.bipush dX12_does_110 (by decide) <| At.irem dX12_does_112 (by decide) <| At.iadd dX12_does_113 <| ?_
        obtain ⟨q1, hq1, h⟩ := bnd_e h
        refine At.cV0 (av := [vi (w32 (Int.tdiv (w32 (p1 - 1000)) 1000)), vi (w32 ((w32 (20 * (w32 (Int.tdiv (Int.tmod p1 1000) 100)))) + (Int.tmod p1 100)))]) (rest := []) mv_X12_isAt lk_X12_257 dX12_does_114 rfl rfl sh_130 (Nat.le_of_ble_eq_true rfl) (by decide) ⟨rfl, rfl⟩ (rX12_isAt hq1) <| ?_
        obtain rfl := Option.some.inj h
        exact At.vret rfl (Nat.zero_le _) (Nat.zero_le _) ⟨rfl, rfl⟩ dX12_does_117
      · refine At.iloadn dX12_does_66 rfl <| At.sipush dX12_does_67 (by decide) <| At.icmp_ge_f (tgt := 88) dX12_does_70 (by decide) c4 <| ?_
        refine At.aloadn dX12_does_73 rfl <| At.getR fl_X12_13 sh_130 (le149 sh_130) rf_130_1 dX12_does_74 <| At.bipush dX12_does_77 (by decide) <| At.iloadn dX12_does_79 rfl <| At.sipush dX12_does_80 (by decide) <| At.isub dX12_does_83 <| ?_
        obtain ⟨S2, hS2, g3, h⟩ := wrA_e h
        refine At.iast sh_131 (le149 sh_131) g3.1 g3.2 dX12_does_84 <| At.nmS hS2 <| At.goto (tgt := 117) dX12_does_85 (by decide) <| ?_
        obtain rfl := Option.some.inj h
        exact At.vret rfl (Nat.zero_le _) (Nat.zero_le _) ⟨rfl, rfl⟩ dX12_does_117
    · refine At.iloadn dX12_does_37 rfl <| At.sipush dX12_does_38 (by decide) <| At.icmp_ge_f (tgt := 66) dX12_does_41 (by decide) c7 <| ?_
      refine At.aloadn dX12_does_44 rfl <| At.getR fl_X12_13 sh_130 (le149 sh_130) rf_130_1 dX12_does_45 <| At.bipush dX12_does_48 (by decide) <| At.iloadn dX12_does_50 rfl <| At.bipush dX12_does_51 (by decide) <| At.isub dX12_does_53 <| At.bipush dX12_does_54 (by decide) <| At.idiv dX12_does_56 (by decide) <| At.iadd dX12_does_57 <| At.iloadn dX12_does_58 rfl <| At.bipush dX12_does_59 (by decide) <| At.irem dX12_does_61 (by decide) <| ?_
      obtain ⟨S5, hS5, g6, h⟩ := wrA_e h
      refine At.iast sh_131 (le149 sh_131) g6.1 g6.2 dX12_does_62 <| At.nmS hS5 <| At.goto (tgt := 117) dX12_does_63 (by decide) <| ?_
      obtain rfl := Option.some.inj h
      exact At.vret rfl (Nat.zero_le _) (Nat.zero_le _) ⟨rfl, rfl⟩ dX12_does_117
  · refine At.iloadn dX12_does_0 rfl <| At.bipush dX12_does_1 (by decide) <| At.icmp_ge_f (tgt := 37) dX12_does_3 (by decide) c11 <| ?_
    refine At.aloadn dX12_does_6 rfl <| At.iloadn dX12_does_7 rfl <| At.bipush dX12_does_8 (by decide) <| At.idiv dX12_does_10 (by decide) <| At.aloadn dX12_does_11 rfl <| At.iloadn dX12_does_12 rfl <| At.bipush dX12_does_13 (by decide) <| At.idiv dX12_does_15 (by decide) <| At.aloadn dX12_does_16 rfl <| At.iloadn dX12_does_17 rfl <| At.bipush dX12_does_18 (by decide) <| At.idiv dX12_does_20 (by decide) <| ?_
    obtain ⟨q8, hq8, h⟩ := bnd_e h
    refine At.cV1 (av := [vi (w32 (Int.tdiv p1 10))]) (rest := [vi (w32 (Int.tdiv p1 10)), vr 130, vi (w32 (Int.tdiv p1 10)), vr 130]) mv_X12_standOf lk_X12_239 dX12_does_21 rfl rfl sh_130 (Nat.le_of_ble_eq_true rfl) (by decide) ⟨rfl, rfl⟩ (rX12_standOf hq8) <| At.iloadn dX12_does_24 rfl <| At.bipush dX12_does_25 (by decide) <| At.irem dX12_does_27 (by decide) <| ?_
    obtain ⟨q9, hq9, h⟩ := bnd_e h
    refine At.cV1 (av := [vi (w32 (Int.tdiv p1 10)), vi q8, vi (Int.tmod p1 10)]) (rest := [vi (w32 (Int.tdiv p1 10)), vr 130]) mv_X12_goneTo lk_X12_251 dX12_does_28 rfl rfl sh_130 (Nat.le_of_ble_eq_true rfl) (by decide) ⟨rfl, rfl⟩ (rX12_goneTo hq9) <| ?_
    obtain ⟨q10, hq10, h⟩ := bnd_e h
    refine At.cV0 (av := [vi (w32 (Int.tdiv p1 10)), vi q9.1]) (rest := []) mv_X12_isAt lk_X12_257 dX12_does_31 rfl rfl sh_130 (Nat.le_of_ble_eq_true rfl) (by decide) ⟨rfl, rfl⟩ (rX12_isAt hq10) <| At.goto (tgt := 117) dX12_does_34 (by decide) <| ?_
    obtain rfl := Option.some.inj h
    exact At.vret rfl (Nat.zero_le _) (Nat.zero_le _) ⟨rfl, rfl⟩ dX12_does_117
def fX12_tells_L7 (l1 : Int) : Nat → Int → SS → Option (Nat × Int × SS)
  | 0, _, _ => none
  | n + 1, l2, S =>
    rdA S 148 4 l1 fun v1 =>
    if v1 ≤ l2 then (
      some (1, 0, S)
    ) else (
      rdA S 149 160 (w32 ((w32 (40 * l1)) + l2)) fun v3 =>
      Option.bind (fX12_whyNot v3 S) fun q5 =>
      lt (up q5.2 130 19 q5.1) fun S6 =>
      if (S6 130 19) = 0 then (
        rdA S6 149 160 (w32 ((w32 (40 * l1)) + l2)) fun v7 =>
        Option.bind (fX12_does (w32 v7) S6) fun q9 =>
        lt (w32 (l2 + 1)) fun x10 =>
        fX12_tells_L7 l1 n x10 q9
      ) else (
        some (0, l2, S6)
      )
    )
def fX12_tells (p1 : Int) (S : SS) : Option (Int × SS) :=
  lt (up S 130 19 0) fun S1 =>
  Option.bind (fX12_tells_L7 p1 FU 0 S1) fun q2 =>
  if q2.1 = 0 then (
    some (q2.2.1, q2.2.2)
  ) else (
    rdA q2.2.2 148 4 p1 fun v4 =>
    some (v4, q2.2.2)
  )
set_option maxRecDepth 100000 in
set_option maxHeartbeats 4000000 in
theorem lX12_tells_L7 {G : GG} {Φ : Option VV → MM → Prop} {l1 : Int} : ∀ (n : Nat) (l2 : Int) (S : SS) (q : Nat × Int × SS), fX12_tells_L7 l1 n l2 S = some q → (q.1 = 0 → At G mX12_tells 7 43 [(2, vi q.2.1)] [] (mm q.2.2) 0 0 Φ) → (q.1 = 1 → At G mX12_tells 7 67 [(0, vr 130), (1, vi l1)] [] (mm q.2.2) 0 0 Φ) → At G mX12_tells 7 7 [(0, vr 130), (1, vi l1), (2, vi l2)] [] (mm S) 0 0 Φ := by
  intro n
  induction n with
  | zero =>
    intro _ _ _ h
    cases h
  | succ n ih =>
    intro l2 S q h K43 K67
    unfold fX12_tells_L7 at h
    refine At.iloadn dX12_tells_7 rfl <| At.aloadn dX12_tells_8 rfl <| At.getR fl_X12_70 sh_130 (le149 sh_130) rf_130_31 dX12_tells_9 <| At.iloadn dX12_tells_12 rfl <| ?_
    obtain ⟨v1, hv1, g2, h⟩ := rdA_e h
    rcases ite_e h with ⟨c12, h⟩ | ⟨c12, h⟩
    · refine At.iald sh_148 (le149 sh_148) g2.1 g2.2 dX12_tells_13 <| At.nm hv1 <| At.icmp_ge_t (tgt := 67) dX12_tells_14 (by decide) c12 <| ?_
      obtain rfl := Option.some.inj h
      exact At.sub [0, 1] rfl (K67 rfl)
    · refine At.iald sh_148 (le149 sh_148) g2.1 g2.2 dX12_tells_13 <| At.nm hv1 <| At.icmp_ge_f (tgt := 67) dX12_tells_14 (by decide) c12 <| ?_
      refine At.aloadn dX12_tells_17 rfl <| At.aloadn dX12_tells_18 rfl <| At.aloadn dX12_tells_19 rfl <| At.getR fl_X12_73 sh_130 (le149 sh_130) rf_130_32 dX12_tells_20 <| At.bipush dX12_tells_23 (by decide) <| At.iloadn dX12_tells_25 rfl <| At.imul dX12_tells_26 <| At.iloadn dX12_tells_27 rfl <| At.iadd dX12_tells_28 <| ?_
      obtain ⟨v3, hv3, g4, h⟩ := rdA_e h
      refine At.lald sh_149 (le149 sh_149) g4.1 g4.2 dX12_tells_29 <| At.nml hv3 <| ?_
      obtain ⟨q5, hq5, h⟩ := bnd_e h
      refine At.cV1 (av := [vl v3]) (rest := [vr 130]) mv_X12_whyNot lk_X12_290 dX12_tells_30 rfl rfl sh_130 (Nat.le_of_ble_eq_true rfl) (by decide) ⟨rfl, rfl⟩ (rX12_whyNot hq5) <| ?_
      obtain ⟨S6, hS6, h⟩ := lt_e h
      rcases ite_e h with ⟨c11, h⟩ | ⟨c11, h⟩
      · refine At.putI fw_X12_287 sh_130 (le149 sh_130) dX12_tells_33 <| At.nmS hS6 <| At.aloadn dX12_tells_36 rfl <| At.getI fl_X12_287 sh_130 (le149 sh_130) dX12_tells_37 <| At.if_eq_t (tgt := 45) dX12_tells_40 (by decide) c11 <| ?_
        refine At.aloadn dX12_tells_45 rfl <| At.aloadn dX12_tells_46 rfl <| At.getR fl_X12_73 sh_130 (le149 sh_130) rf_130_32 dX12_tells_47 <| At.bipush dX12_tells_50 (by decide) <| At.iloadn dX12_tells_52 rfl <| At.imul dX12_tells_53 <| At.iloadn dX12_tells_54 rfl <| At.iadd dX12_tells_55 <| ?_
        obtain ⟨v7, hv7, g8, h⟩ := rdA_e h
        refine At.lald sh_149 (le149 sh_149) g8.1 g8.2 dX12_tells_56 <| At.nml hv7 <| At.l2i dX12_tells_57 <| ?_
        obtain ⟨q9, hq9, h⟩ := bnd_e h
        refine At.cV0 (av := [vi (w32 v7)]) (rest := []) mv_X12_does lk_X12_294 dX12_tells_58 rfl rfl sh_130 (Nat.le_of_ble_eq_true rfl) (by decide) ⟨rfl, rfl⟩ (rX12_does hq9) <| ?_
        obtain ⟨x10, hx10, h⟩ := lt_e h
        refine At.iinc (ls' := [(2, vi x10), (0, vr 130), (1, vi l1)]) dX12_tells_61 rfl (by decide) (by rw [hx10]; rfl) <| At.goto (tgt := 7) dX12_tells_64 (by decide) <| ?_
        exact At.sub [1, 2, 0] rfl (ih _ _ _ h K43 K67)
      · refine At.putI fw_X12_287 sh_130 (le149 sh_130) dX12_tells_33 <| At.nmS hS6 <| At.aloadn dX12_tells_36 rfl <| At.getI fl_X12_287 sh_130 (le149 sh_130) dX12_tells_37 <| At.if_eq_f (tgt := 45) dX12_tells_40 (by decide) c11 <| ?_
        obtain rfl := Option.some.inj h
        exact At.sub [2] rfl (K43 rfl)
set_option maxRecDepth 100000 in
set_option maxHeartbeats 4000000 in
theorem rX12_tells {G : GG} {p1 : Int} {S : SS} {rr : (Int × SS)} (h : fX12_tells p1 S = some rr) : RD G mX12_tells 7 [vr 130, vi p1] S (some (vi rr.1)) rr.2 := by
  unfold fX12_tells at h
  refine Runs.of pl_X12 (Nat.le_of_ble_eq_true rfl) ?_
  show At G mX12_tells 7 0 [(0, vr 130), (1, vi p1)] [] (mm S) 0 0 (EQ (some (vi rr.1)) rr.2)
  refine At.aloadn dX12_tells_0 rfl <| At.iconst dX12_tells_1 (by decide) <| ?_
  obtain ⟨S1, hS1, h⟩ := lt_e h
  refine At.putI fw_X12_287 sh_130 (le149 sh_130) dX12_tells_2 <| At.nmS hS1 <| At.iconst dX12_tells_5 (by decide) <| At.istoren (ls' := [(2, vi 0), (0, vr 130), (1, vi p1)]) dX12_tells_6 (by decide) rfl <| ?_
  obtain ⟨q2, ho3, h⟩ := bnd_e h
  refine At.sub [1, 2, 0] rfl (lX12_tells_L7 FU _ _ q2 ho3 (fun hq => ?_) (fun hq => ?_))
  · rw [if_pos hq] at h
    refine At.iloadn dX12_tells_43 rfl <| ?_
    obtain rfl := Option.some.inj h
    exact At.iret rfl (Nat.zero_le _) (Nat.zero_le _) ⟨rfl, rfl⟩ dX12_tells_44
  · rw [if_neg (by omega)] at h
    refine At.aloadn dX12_tells_67 rfl <| At.getR fl_X12_70 sh_130 (le149 sh_130) rf_130_31 dX12_tells_68 <| At.iloadn dX12_tells_71 rfl <| ?_
    obtain ⟨v4, hv4, g5, h⟩ := rdA_e h
    refine At.iald sh_148 (le149 sh_148) g5.1 g5.2 dX12_tells_72 <| At.nm hv4 <| ?_
    obtain rfl := Option.some.inj h
    exact At.iret rfl (Nat.zero_le _) (Nat.zero_le _) ⟨rfl, rfl⟩ dX12_tells_73
def fX12_noTray (p1 : Int) (S : SS) : Option Int :=
  Option.bind (fX12_within p1 0 3) fun q1 =>
  if q1 = true then (
    rdA S 147 4 p1 fun v2 =>
    if v2 = ((-1)) then (
      some ((-6))
    ) else (
      some 0
    )
  ) else (
    some ((-2))
  )
set_option maxRecDepth 100000 in
set_option maxHeartbeats 4000000 in
theorem rX12_noTray {G : GG} {p1 : Int} {S : SS} {rr : Int} (h : fX12_noTray p1 S = some rr) : RD G mX12_noTray 2 [vr 130, vi p1] S (some (vi rr)) S := by
  unfold fX12_noTray at h
  refine Runs.of pl_X12 (Nat.le_of_ble_eq_true rfl) ?_
  show At G mX12_noTray 2 0 [(0, vr 130), (1, vi p1)] [] (mm S) 0 0 (EQ (some (vi rr)) S)
  refine At.iloadn dX12_noTray_0 rfl <| At.i2l dX12_noTray_1 <| At.lconst0 dX12_noTray_2 <| At.ldc2 dX12_noTray_3 kl_X12_264 (by decide) <| ?_
  obtain ⟨q1, hq1, h⟩ := bnd_e h
  rcases ite_e h with ⟨c5, h⟩ | ⟨c5, h⟩
  · refine At.cS1 (av := [vl p1, vl 0, vl 3]) (rest := []) ms_X12_within lk_X12_142 dX12_noTray_6 rfl rfl (Nat.le_of_ble_eq_true rfl) (by decide) ⟨rfl, rfl⟩ (rX12_within hq1) <| At.bifne_t (tgt := 17) dX12_noTray_9 (by decide) c5 <| ?_
    refine At.aloadn dX12_noTray_17 rfl <| At.getR fl_X12_67 sh_130 (le149 sh_130) rf_130_30 dX12_noTray_18 <| At.iloadn dX12_noTray_21 rfl <| ?_
    obtain ⟨v2, hv2, g3, h⟩ := rdA_e h
    rcases ite_e h with ⟨c4, h⟩ | ⟨c4, h⟩
    · refine At.iald sh_147 (le149 sh_147) g3.1 g3.2 dX12_noTray_22 <| At.nm hv2 <| At.iconst dX12_noTray_23 (by decide) <| At.icmp_ne_f (tgt := 32) dX12_noTray_24 (by decide) c4 <| ?_
      refine At.bipush dX12_noTray_27 (by decide) <| At.goto (tgt := 33) dX12_noTray_29 (by decide) <| ?_
      obtain rfl := Option.some.inj h
      exact At.iret rfl (Nat.zero_le _) (Nat.zero_le _) ⟨rfl, rfl⟩ dX12_noTray_33
    · refine At.iald sh_147 (le149 sh_147) g3.1 g3.2 dX12_noTray_22 <| At.nm hv2 <| At.iconst dX12_noTray_23 (by decide) <| At.icmp_ne_t (tgt := 32) dX12_noTray_24 (by decide) c4 <| ?_
      refine At.iconst dX12_noTray_32 (by decide) <| ?_
      obtain rfl := Option.some.inj h
      exact At.iret rfl (Nat.zero_le _) (Nat.zero_le _) ⟨rfl, rfl⟩ dX12_noTray_33
  · refine At.cS1 (av := [vl p1, vl 0, vl 3]) (rest := []) ms_X12_within lk_X12_142 dX12_noTray_6 rfl rfl (Nat.le_of_ble_eq_true rfl) (by decide) ⟨rfl, rfl⟩ (rX12_within hq1) <| At.bifne_f (tgt := 17) dX12_noTray_9 (by decide) c5 <| ?_
    refine At.bipush dX12_noTray_12 (by decide) <| At.goto (tgt := 33) dX12_noTray_14 (by decide) <| ?_
    obtain rfl := Option.some.inj h
    exact At.iret rfl (Nat.zero_le _) (Nat.zero_le _) ⟨rfl, rfl⟩ dX12_noTray_33
def fX12_yearsAll_L4 (S : SS) : Nat → Int → Int → Option (Int)
  | 0, _, _ => none
  | n + 1, l1, l2 =>
    rdA S 131 3303 3 fun v1 =>
    if v1 ≤ l2 then (
      some l1
    ) else (
      rdA S 131 3303 (w32 (37 + l2)) fun v3 =>
      lt (w32 (l1 + v3)) fun x5 =>
      lt (w32 (l2 + 1)) fun x6 =>
      fX12_yearsAll_L4 S n x5 x6
    )
def fX12_yearsAll (S : SS) : Option Int :=
  Option.bind (fX12_yearsAll_L4 S FU 0 0) fun q1 =>
  some q1
set_option maxRecDepth 100000 in
set_option maxHeartbeats 4000000 in
theorem lX12_yearsAll_L4 {G : GG} {Φ : Option VV → MM → Prop} {S : SS} : ∀ (n : Nat) (l1 : Int) (l2 : Int) (q : Int), fX12_yearsAll_L4 S n l1 l2 = some q → At G mX12_yearsAll 1 32 [(1, vi q)] [] (mm S) 0 0 Φ → At G mX12_yearsAll 1 4 [(0, vr 130), (1, vi l1), (2, vi l2)] [] (mm S) 0 0 Φ := by
  intro n
  induction n with
  | zero =>
    intro _ _ _ h
    cases h
  | succ n ih =>
    intro l1 l2 q h K32
    unfold fX12_yearsAll_L4 at h
    refine At.iloadn dX12_yearsAll_4 rfl <| At.aloadn dX12_yearsAll_5 rfl <| At.getR fl_X12_13 sh_130 (le149 sh_130) rf_130_1 dX12_yearsAll_6 <| At.iconst dX12_yearsAll_9 (by decide) <| ?_
    obtain ⟨v1, hv1, g2, h⟩ := rdA_e h
    rcases ite_e h with ⟨c7, h⟩ | ⟨c7, h⟩
    · refine At.iald sh_131 (le149 sh_131) g2.1 g2.2 dX12_yearsAll_10 <| At.nm hv1 <| At.icmp_ge_t (tgt := 32) dX12_yearsAll_11 (by decide) c7 <| ?_
      obtain rfl := Option.some.inj h
      exact At.sub [1] rfl K32
    · refine At.iald sh_131 (le149 sh_131) g2.1 g2.2 dX12_yearsAll_10 <| At.nm hv1 <| At.icmp_ge_f (tgt := 32) dX12_yearsAll_11 (by decide) c7 <| ?_
      refine At.iloadn dX12_yearsAll_14 rfl <| At.aloadn dX12_yearsAll_15 rfl <| At.getR fl_X12_13 sh_130 (le149 sh_130) rf_130_1 dX12_yearsAll_16 <| At.bipush dX12_yearsAll_19 (by decide) <| At.iloadn dX12_yearsAll_21 rfl <| At.iadd dX12_yearsAll_22 <| ?_
      obtain ⟨v3, hv3, g4, h⟩ := rdA_e h
      refine At.iald sh_131 (le149 sh_131) g4.1 g4.2 dX12_yearsAll_23 <| At.nm hv3 <| At.iadd dX12_yearsAll_24 <| ?_
      obtain ⟨x5, hx5, h⟩ := lt_e h
      refine At.nm hx5 <| At.istoren (ls' := [(1, vi x5), (0, vr 130), (2, vi l2)]) dX12_yearsAll_25 (by decide) rfl <| ?_
      obtain ⟨x6, hx6, h⟩ := lt_e h
      refine At.iinc (ls' := [(2, vi x6), (1, vi x5), (0, vr 130)]) dX12_yearsAll_26 rfl (by decide) (by rw [hx6]; rfl) <| At.goto (tgt := 4) dX12_yearsAll_29 (by decide) <| ?_
      exact At.sub [2, 1, 0] rfl (ih _ _ _ h K32)
set_option maxRecDepth 100000 in
set_option maxHeartbeats 4000000 in
theorem rX12_yearsAll {G : GG} {S : SS} {rr : Int} (h : fX12_yearsAll  S = some rr) : RD G mX12_yearsAll 1 [vr 130] S (some (vi rr)) S := by
  unfold fX12_yearsAll at h
  refine Runs.of pl_X12 (Nat.le_of_ble_eq_true rfl) ?_
  show At G mX12_yearsAll 1 0 [(0, vr 130)] [] (mm S) 0 0 (EQ (some (vi rr)) S)
  refine At.iconst dX12_yearsAll_0 (by decide) <| At.istoren (ls' := [(1, vi 0), (0, vr 130)]) dX12_yearsAll_1 (by decide) rfl <| At.iconst dX12_yearsAll_2 (by decide) <| At.istoren (ls' := [(2, vi 0), (1, vi 0), (0, vr 130)]) dX12_yearsAll_3 (by decide) rfl <| ?_
  obtain ⟨q1, ho2, h⟩ := bnd_e h
  refine At.sub [2, 1, 0] rfl (lX12_yearsAll_L4 FU _ _ q1 ho2 ?_)
  refine At.iloadn dX12_yearsAll_32 rfl <| ?_
  obtain rfl := Option.some.inj h
  exact At.iret rfl (Nat.zero_le _) (Nat.zero_le _) ⟨rfl, rfl⟩ dX12_yearsAll_33
def fX12_cornersAll_L4 (S : SS) : Nat → Int → Int → Option (Int)
  | 0, _, _ => none
  | n + 1, l1, l2 =>
    rdA S 131 3303 3 fun v1 =>
    if v1 ≤ l2 then (
      some l1
    ) else (
      rdA S 131 3303 (w32 (34 + l2)) fun v3 =>
      lt (jor l1 (jshl 1 v3)) fun x5 =>
      lt (w32 (l2 + 1)) fun x6 =>
      fX12_cornersAll_L4 S n x5 x6
    )
def fX12_cornersAll (S : SS) : Option Int :=
  Option.bind (fX12_cornersAll_L4 S FU 0 0) fun q1 =>
  some q1
set_option maxRecDepth 100000 in
set_option maxHeartbeats 4000000 in
theorem lX12_cornersAll_L4 {G : GG} {Φ : Option VV → MM → Prop} {S : SS} : ∀ (n : Nat) (l1 : Int) (l2 : Int) (q : Int), fX12_cornersAll_L4 S n l1 l2 = some q → At G mX12_cornersAll 1 34 [(1, vi q)] [] (mm S) 0 0 Φ → At G mX12_cornersAll 1 4 [(0, vr 130), (1, vi l1), (2, vi l2)] [] (mm S) 0 0 Φ := by
  intro n
  induction n with
  | zero =>
    intro _ _ _ h
    cases h
  | succ n ih =>
    intro l1 l2 q h K34
    unfold fX12_cornersAll_L4 at h
    refine At.iloadn dX12_cornersAll_4 rfl <| At.aloadn dX12_cornersAll_5 rfl <| At.getR fl_X12_13 sh_130 (le149 sh_130) rf_130_1 dX12_cornersAll_6 <| At.iconst dX12_cornersAll_9 (by decide) <| ?_
    obtain ⟨v1, hv1, g2, h⟩ := rdA_e h
    rcases ite_e h with ⟨c7, h⟩ | ⟨c7, h⟩
    · refine At.iald sh_131 (le149 sh_131) g2.1 g2.2 dX12_cornersAll_10 <| At.nm hv1 <| At.icmp_ge_t (tgt := 34) dX12_cornersAll_11 (by decide) c7 <| ?_
      obtain rfl := Option.some.inj h
      exact At.sub [1] rfl K34
    · refine At.iald sh_131 (le149 sh_131) g2.1 g2.2 dX12_cornersAll_10 <| At.nm hv1 <| At.icmp_ge_f (tgt := 34) dX12_cornersAll_11 (by decide) c7 <| ?_
      refine At.iloadn dX12_cornersAll_14 rfl <| At.iconst dX12_cornersAll_15 (by decide) <| At.aloadn dX12_cornersAll_16 rfl <| At.getR fl_X12_13 sh_130 (le149 sh_130) rf_130_1 dX12_cornersAll_17 <| At.bipush dX12_cornersAll_20 (by decide) <| At.iloadn dX12_cornersAll_22 rfl <| At.iadd dX12_cornersAll_23 <| ?_
      obtain ⟨v3, hv3, g4, h⟩ := rdA_e h
      refine At.iald sh_131 (le149 sh_131) g4.1 g4.2 dX12_cornersAll_24 <| At.nm hv3 <| At.ishl dX12_cornersAll_25 <| At.ior dX12_cornersAll_26 <| ?_
      obtain ⟨x5, hx5, h⟩ := lt_e h
      refine At.nm hx5 <| At.istoren (ls' := [(1, vi x5), (0, vr 130), (2, vi l2)]) dX12_cornersAll_27 (by decide) rfl <| ?_
      obtain ⟨x6, hx6, h⟩ := lt_e h
      refine At.iinc (ls' := [(2, vi x6), (1, vi x5), (0, vr 130)]) dX12_cornersAll_28 rfl (by decide) (by rw [hx6]; rfl) <| At.goto (tgt := 4) dX12_cornersAll_31 (by decide) <| ?_
      exact At.sub [2, 1, 0] rfl (ih _ _ _ h K34)
set_option maxRecDepth 100000 in
set_option maxHeartbeats 4000000 in
theorem rX12_cornersAll {G : GG} {S : SS} {rr : Int} (h : fX12_cornersAll  S = some rr) : RD G mX12_cornersAll 1 [vr 130] S (some (vi rr)) S := by
  unfold fX12_cornersAll at h
  refine Runs.of pl_X12 (Nat.le_of_ble_eq_true rfl) ?_
  show At G mX12_cornersAll 1 0 [(0, vr 130)] [] (mm S) 0 0 (EQ (some (vi rr)) S)
  refine At.iconst dX12_cornersAll_0 (by decide) <| At.istoren (ls' := [(1, vi 0), (0, vr 130)]) dX12_cornersAll_1 (by decide) rfl <| At.iconst dX12_cornersAll_2 (by decide) <| At.istoren (ls' := [(2, vi 0), (1, vi 0), (0, vr 130)]) dX12_cornersAll_3 (by decide) rfl <| ?_
  obtain ⟨q1, ho2, h⟩ := bnd_e h
  refine At.sub [2, 1, 0] rfl (lX12_cornersAll_L4 FU _ _ q1 ho2 ?_)
  refine At.iloadn dX12_cornersAll_34 rfl <| ?_
  obtain rfl := Option.some.inj h
  exact At.iret rfl (Nat.zero_le _) (Nat.zero_le _) ⟨rfl, rfl⟩ dX12_cornersAll_35
def fX12_judge (p1 : Int) (p2 : Int) (S : SS) : Option (Int × SS) :=
  lt (up S 130 0 0) fun S1 =>
  Option.bind (fX12_within p2 0 3) fun q2 =>
  if q2 = true then (
    Option.bind (fX12_noTray p1 S1) fun q3 =>
    if q3 = 0 then (
      Option.bind (fX12_keeps  S1) fun q4 =>
      Option.bind (fX12_tells p1 q4) fun q5 =>
      Option.bind (fX12_yearsAll  q5.2) fun q6 =>
      Option.bind (fX12_cornersAll  q5.2) fun q7 =>
      Option.bind (fX12_isAgain  q5.2) fun q8 =>
      if p2 = 0 then (
        if (q8 130 19) = 0 then (
          some ((-1), q8)
        ) else (
          some (q5.1, q8)
        )
      ) else (
        if p2 = 1 then (
          some (q8 130 19, q8)
        ) else (
          if p2 = 2 then (
            some (q6, q8)
          ) else (
            some (q7, q8)
          )
        )
      )
    ) else (
      some (q3, S1)
    )
  ) else (
    some ((-2), S1)
  )
set_option maxRecDepth 100000 in
set_option maxHeartbeats 4000000 in
theorem rX12_judge {G : GG} {p1 : Int} {p2 : Int} {S : SS} {rr : (Int × SS)} (h : fX12_judge p1 p2 S = some rr) : RD G mX12_judge 8 [vr 130, vi p1, vi p2] S (some (vi rr.1)) rr.2 := by
  unfold fX12_judge at h
  refine Runs.of pl_X12 (Nat.le_of_ble_eq_true rfl) ?_
  show At G mX12_judge 8 0 [(0, vr 130), (1, vi p1), (2, vi p2)] [] (mm S) 0 0 (EQ (some (vi rr.1)) rr.2)
  refine At.aloadn dX12_judge_0 rfl <| At.iconst dX12_judge_1 (by decide) <| ?_
  obtain ⟨S1, hS1, h⟩ := lt_e h
  refine At.putI fw_X12_1 sh_130 (le149 sh_130) dX12_judge_2 <| At.nmS hS1 <| At.iloadn dX12_judge_5 rfl <| At.i2l dX12_judge_6 <| At.lconst0 dX12_judge_7 <| At.ldc2 dX12_judge_8 kl_X12_264 (by decide) <| ?_
  obtain ⟨q2, hq2, h⟩ := bnd_e h
  rcases ite_e h with ⟨c14, h⟩ | ⟨c14, h⟩
  · refine At.cS1 (av := [vl p2, vl 0, vl 3]) (rest := []) ms_X12_within lk_X12_142 dX12_judge_11 rfl rfl (Nat.le_of_ble_eq_true rfl) (by decide) ⟨rfl, rfl⟩ (rX12_within hq2) <| At.bifne_t (tgt := 20) dX12_judge_14 (by decide) c14 <| ?_
    refine At.aloadn dX12_judge_20 rfl <| At.iloadn dX12_judge_21 rfl <| ?_
    obtain ⟨q3, hq3, h⟩ := bnd_e h
    rcases ite_e h with ⟨c13, h⟩ | ⟨c13, h⟩
    · refine At.cV1 (av := [vi p1]) (rest := []) mv_X12_noTray lk_X12_297 dX12_judge_22 rfl rfl sh_130 (Nat.le_of_ble_eq_true rfl) (by decide) ⟨rfl, rfl⟩ (rX12_noTray hq3) <| At.istoren (ls' := [(3, vi q3), (0, vr 130), (1, vi p1), (2, vi p2)]) dX12_judge_25 (by decide) rfl <| At.iloadn dX12_judge_26 rfl <| At.if_eq_t (tgt := 32) dX12_judge_27 (by decide) c13 <| ?_
      refine At.aloadn dX12_judge_32 rfl <| ?_
      obtain ⟨q4, hq4, h⟩ := bnd_e h
      refine At.cV0 (av := []) (rest := []) mv_X12_keeps lk_X12_254 dX12_judge_33 rfl rfl sh_130 (Nat.le_of_ble_eq_true rfl) (by decide) ⟨rfl, rfl⟩ (rX12_keeps hq4) <| At.aloadn dX12_judge_36 rfl <| At.iloadn dX12_judge_37 rfl <| ?_
      obtain ⟨q5, hq5, h⟩ := bnd_e h
      refine At.cV1 (av := [vi p1]) (rest := []) mv_X12_tells lk_X12_300 dX12_judge_38 rfl rfl sh_130 (Nat.le_of_ble_eq_true rfl) (by decide) ⟨rfl, rfl⟩ (rX12_tells hq5) <| At.istore (ls' := [(4, vi q5.1), (3, vi q3), (0, vr 130), (1, vi p1), (2, vi p2)]) dX12_judge_41 (by decide) rfl <| At.aloadn dX12_judge_43 rfl <| ?_
      obtain ⟨q6, hq6, h⟩ := bnd_e h
      refine At.cV1 (av := []) (rest := []) mv_X12_yearsAll lk_X12_303 dX12_judge_44 rfl rfl sh_130 (Nat.le_of_ble_eq_true rfl) (by decide) ⟨rfl, rfl⟩ (rX12_yearsAll hq6) <| At.istore (ls' := [(5, vi q6), (4, vi q5.1), (3, vi q3), (0, vr 130), (1, vi p1), (2, vi p2)]) dX12_judge_47 (by decide) rfl <| At.aloadn dX12_judge_49 rfl <| ?_
      obtain ⟨q7, hq7, h⟩ := bnd_e h
      refine At.cV1 (av := []) (rest := []) mv_X12_cornersAll lk_X12_306 dX12_judge_50 rfl rfl sh_130 (Nat.le_of_ble_eq_true rfl) (by decide) ⟨rfl, rfl⟩ (rX12_cornersAll hq7) <| At.istore (ls' := [(6, vi q7), (5, vi q6), (4, vi q5.1), (3, vi q3), (0, vr 130), (1, vi p1), (2, vi p2)]) dX12_judge_53 (by decide) rfl <| At.aloadn dX12_judge_55 rfl <| ?_
      obtain ⟨q8, hq8, h⟩ := bnd_e h
      rcases ite_e h with ⟨c12, h⟩ | ⟨c12, h⟩
      · refine At.cV0 (av := []) (rest := []) mv_X12_isAgain lk_X12_309 dX12_judge_56 rfl rfl sh_130 (Nat.le_of_ble_eq_true rfl) (by decide) ⟨rfl, rfl⟩ (rX12_isAgain hq8) <| At.iloadn dX12_judge_59 rfl <| At.if_ne_f (tgt := 79) dX12_judge_60 (by decide) c12 <| ?_
        rcases ite_e h with ⟨c9, h⟩ | ⟨c9, h⟩
        · refine At.aloadn dX12_judge_63 rfl <| At.getI fl_X12_287 sh_130 (le149 sh_130) dX12_judge_64 <| At.if_ne_f (tgt := 74) dX12_judge_67 (by decide) c9 <| ?_
          refine At.iconst dX12_judge_70 (by decide) <| At.goto (tgt := 103) dX12_judge_71 (by decide) <| ?_
          obtain rfl := Option.some.inj h
          exact At.iret rfl (Nat.zero_le _) (Nat.zero_le _) ⟨rfl, rfl⟩ dX12_judge_103
        · refine At.aloadn dX12_judge_63 rfl <| At.getI fl_X12_287 sh_130 (le149 sh_130) dX12_judge_64 <| At.if_ne_t (tgt := 74) dX12_judge_67 (by decide) c9 <| ?_
          refine At.iload dX12_judge_74 rfl <| At.goto (tgt := 103) dX12_judge_76 (by decide) <| ?_
          obtain rfl := Option.some.inj h
          exact At.iret rfl (Nat.zero_le _) (Nat.zero_le _) ⟨rfl, rfl⟩ dX12_judge_103
      · refine At.cV0 (av := []) (rest := []) mv_X12_isAgain lk_X12_309 dX12_judge_56 rfl rfl sh_130 (Nat.le_of_ble_eq_true rfl) (by decide) ⟨rfl, rfl⟩ (rX12_isAgain hq8) <| At.iloadn dX12_judge_59 rfl <| At.if_ne_t (tgt := 79) dX12_judge_60 (by decide) c12 <| ?_
        rcases ite_e h with ⟨c11, h⟩ | ⟨c11, h⟩
        · refine At.iloadn dX12_judge_79 rfl <| At.iconst dX12_judge_80 (by decide) <| At.icmp_ne_f (tgt := 91) dX12_judge_81 (by decide) c11 <| ?_
          refine At.aloadn dX12_judge_84 rfl <| At.getI fl_X12_287 sh_130 (le149 sh_130) dX12_judge_85 <| At.goto (tgt := 103) dX12_judge_88 (by decide) <| ?_
          obtain rfl := Option.some.inj h
          exact At.iret rfl (Nat.zero_le _) (Nat.zero_le _) ⟨rfl, rfl⟩ dX12_judge_103
        · refine At.iloadn dX12_judge_79 rfl <| At.iconst dX12_judge_80 (by decide) <| At.icmp_ne_t (tgt := 91) dX12_judge_81 (by decide) c11 <| ?_
          rcases ite_e h with ⟨c10, h⟩ | ⟨c10, h⟩
          · refine At.iloadn dX12_judge_91 rfl <| At.iconst dX12_judge_92 (by decide) <| At.icmp_ne_f (tgt := 101) dX12_judge_93 (by decide) c10 <| ?_
            refine At.iload dX12_judge_96 rfl <| At.goto (tgt := 103) dX12_judge_98 (by decide) <| ?_
            obtain rfl := Option.some.inj h
            exact At.iret rfl (Nat.zero_le _) (Nat.zero_le _) ⟨rfl, rfl⟩ dX12_judge_103
          · refine At.iloadn dX12_judge_91 rfl <| At.iconst dX12_judge_92 (by decide) <| At.icmp_ne_t (tgt := 101) dX12_judge_93 (by decide) c10 <| ?_
            refine At.iload dX12_judge_101 rfl <| ?_
            obtain rfl := Option.some.inj h
            exact At.iret rfl (Nat.zero_le _) (Nat.zero_le _) ⟨rfl, rfl⟩ dX12_judge_103
    · refine At.cV1 (av := [vi p1]) (rest := []) mv_X12_noTray lk_X12_297 dX12_judge_22 rfl rfl sh_130 (Nat.le_of_ble_eq_true rfl) (by decide) ⟨rfl, rfl⟩ (rX12_noTray hq3) <| At.istoren (ls' := [(3, vi q3), (0, vr 130), (1, vi p1), (2, vi p2)]) dX12_judge_25 (by decide) rfl <| At.iloadn dX12_judge_26 rfl <| At.if_eq_f (tgt := 32) dX12_judge_27 (by decide) c13 <| ?_
      refine At.iloadn dX12_judge_30 rfl <| ?_
      obtain rfl := Option.some.inj h
      exact At.iret rfl (Nat.zero_le _) (Nat.zero_le _) ⟨rfl, rfl⟩ dX12_judge_31
  · refine At.cS1 (av := [vl p2, vl 0, vl 3]) (rest := []) ms_X12_within lk_X12_142 dX12_judge_11 rfl rfl (Nat.le_of_ble_eq_true rfl) (by decide) ⟨rfl, rfl⟩ (rX12_within hq2) <| At.bifne_f (tgt := 20) dX12_judge_14 (by decide) c14 <| ?_
    refine At.bipush dX12_judge_17 (by decide) <| ?_
    obtain rfl := Option.some.inj h
    exact At.iret rfl (Nat.zero_le _) (Nat.zero_le _) ⟨rfl, rfl⟩ dX12_judge_19
def fX12_perform (p1 : Int) (S : SS) : Option (Int × SS) :=
  lt (up S 130 0 0) fun S1 =>
  Option.bind (fX12_noTray p1 S1) fun q2 =>
  if q2 = 0 then (
    Option.bind (fX12_keeps  S1) fun q3 =>
    Option.bind (fX12_tells p1 q3) fun q4 =>
    Option.bind (
      if q4.1 ≤ 0 then (
        some q4.2
      ) else (
        Option.bind (fX12_notes  q4.2) fun q6 =>
        some q6
      )
      : Option (SS)) fun q5 =>
    some (q4.1, q5)
  ) else (
    some (q2, S1)
  )
set_option maxRecDepth 100000 in
set_option maxHeartbeats 4000000 in
theorem rX12_perform {G : GG} {p1 : Int} {S : SS} {rr : (Int × SS)} (h : fX12_perform p1 S = some rr) : RD G mX12_perform 8 [vr 130, vi p1] S (some (vi rr.1)) rr.2 := by
  unfold fX12_perform at h
  refine Runs.of pl_X12 (Nat.le_of_ble_eq_true rfl) ?_
  show At G mX12_perform 8 0 [(0, vr 130), (1, vi p1)] [] (mm S) 0 0 (EQ (some (vi rr.1)) rr.2)
  refine At.aloadn dX12_perform_0 rfl <| At.iconst dX12_perform_1 (by decide) <| ?_
  obtain ⟨S1, hS1, h⟩ := lt_e h
  refine At.putI fw_X12_1 sh_130 (le149 sh_130) dX12_perform_2 <| At.nmS hS1 <| At.aloadn dX12_perform_5 rfl <| At.iloadn dX12_perform_6 rfl <| ?_
  obtain ⟨q2, hq2, h⟩ := bnd_e h
  rcases ite_e h with ⟨c8, h⟩ | ⟨c8, h⟩
  · refine At.cV1 (av := [vi p1]) (rest := []) mv_X12_noTray lk_X12_297 dX12_perform_7 rfl rfl sh_130 (Nat.le_of_ble_eq_true rfl) (by decide) ⟨rfl, rfl⟩ (rX12_noTray hq2) <| At.istoren (ls' := [(2, vi q2), (0, vr 130), (1, vi p1)]) dX12_perform_10 (by decide) rfl <| At.iloadn dX12_perform_11 rfl <| At.if_eq_t (tgt := 17) dX12_perform_12 (by decide) c8 <| ?_
    refine At.aloadn dX12_perform_17 rfl <| ?_
    obtain ⟨q3, hq3, h⟩ := bnd_e h
    refine At.cV0 (av := []) (rest := []) mv_X12_keeps lk_X12_254 dX12_perform_18 rfl rfl sh_130 (Nat.le_of_ble_eq_true rfl) (by decide) ⟨rfl, rfl⟩ (rX12_keeps hq3) <| At.aloadn dX12_perform_21 rfl <| At.iloadn dX12_perform_22 rfl <| ?_
    obtain ⟨q4, hq4, h⟩ := bnd_e h
    obtain ⟨q5, hj35, h⟩ := bnd_e h
    have K35 : At G mX12_perform 8 35 [(3, vi q4.1)] [] (mm q5) 0 0 (EQ (some (vi rr.1)) rr.2) := by
      refine At.iloadn dX12_perform_35 rfl <| ?_
      obtain rfl := Option.some.inj h
      exact At.iret rfl (Nat.zero_le _) (Nat.zero_le _) ⟨rfl, rfl⟩ dX12_perform_36
    clear h; have h := hj35; clear hj35
    rcases ite_e h with ⟨c7, h⟩ | ⟨c7, h⟩
    · refine At.cV1 (av := [vi p1]) (rest := []) mv_X12_tells lk_X12_300 dX12_perform_23 rfl rfl sh_130 (Nat.le_of_ble_eq_true rfl) (by decide) ⟨rfl, rfl⟩ (rX12_tells hq4) <| At.istoren (ls' := [(3, vi q4.1), (2, vi q2), (0, vr 130), (1, vi p1)]) dX12_perform_26 (by decide) rfl <| At.iloadn dX12_perform_27 rfl <| At.if_le_t (tgt := 35) dX12_perform_28 (by decide) c7 <| ?_
      obtain rfl := Option.some.inj h
      exact At.sub [0] rfl K35
    · refine At.cV1 (av := [vi p1]) (rest := []) mv_X12_tells lk_X12_300 dX12_perform_23 rfl rfl sh_130 (Nat.le_of_ble_eq_true rfl) (by decide) ⟨rfl, rfl⟩ (rX12_tells hq4) <| At.istoren (ls' := [(3, vi q4.1), (2, vi q2), (0, vr 130), (1, vi p1)]) dX12_perform_26 (by decide) rfl <| At.iloadn dX12_perform_27 rfl <| At.if_le_f (tgt := 35) dX12_perform_28 (by decide) c7 <| ?_
      refine At.aloadn dX12_perform_31 rfl <| ?_
      obtain ⟨q6, hq6, h⟩ := bnd_e h
      refine At.cV0 (av := []) (rest := []) mv_X12_notes lk_X12_261 dX12_perform_32 rfl rfl sh_130 (Nat.le_of_ble_eq_true rfl) (by decide) ⟨rfl, rfl⟩ (rX12_notes hq6) <| ?_
      obtain rfl := Option.some.inj h
      exact At.sub [0] rfl K35
  · refine At.cV1 (av := [vi p1]) (rest := []) mv_X12_noTray lk_X12_297 dX12_perform_7 rfl rfl sh_130 (Nat.le_of_ble_eq_true rfl) (by decide) ⟨rfl, rfl⟩ (rX12_noTray hq2) <| At.istoren (ls' := [(2, vi q2), (0, vr 130), (1, vi p1)]) dX12_perform_10 (by decide) rfl <| At.iloadn dX12_perform_11 rfl <| At.if_eq_f (tgt := 17) dX12_perform_12 (by decide) c8 <| ?_
    refine At.iloadn dX12_perform_15 rfl <| ?_
    obtain rfl := Option.some.inj h
    exact At.iret rfl (Nat.zero_le _) (Nat.zero_le _) ⟨rfl, rfl⟩ dX12_perform_16
def fX12_draw (p1 : Int) (S : SS) : Option (Int × SS) :=
  lt (up S 130 20 (w32 ((w32 (1103515245 * (S 130 20))) + 12345))) fun S1 =>
  nz p1 <|
  some (Int.tmod (jushr (S1 130 20) 16) p1, S1)
set_option maxRecDepth 100000 in
set_option maxHeartbeats 4000000 in
theorem rX12_draw {G : GG} {p1 : Int} {S : SS} {rr : (Int × SS)} (h : fX12_draw p1 S = some rr) : RD G mX12_draw 1 [vr 130, vi p1] S (some (vi rr.1)) rr.2 := by
  unfold fX12_draw at h
  refine Runs.of pl_X12 (Nat.le_of_ble_eq_true rfl) ?_
  show At G mX12_draw 1 0 [(0, vr 130), (1, vi p1)] [] (mm S) 0 0 (EQ (some (vi rr.1)) rr.2)
  refine At.aloadn dX12_draw_0 rfl <| At.ldcw dX12_draw_1 ki_X12_312 (by decide) <| At.aloadn dX12_draw_4 rfl <| At.getI fl_X12_313 sh_130 (le149 sh_130) dX12_draw_5 <| At.imul dX12_draw_8 <| At.sipush dX12_draw_9 (by decide) <| At.iadd dX12_draw_12 <| ?_
  obtain ⟨S1, hS1, h⟩ := lt_e h
  refine At.putI fw_X12_313 sh_130 (le149 sh_130) dX12_draw_13 <| At.nmS hS1 <| At.aloadn dX12_draw_16 rfl <| At.getI fl_X12_313 sh_130 (le149 sh_130) dX12_draw_17 <| At.bipush dX12_draw_20 (by decide) <| At.iushr dX12_draw_22 <| At.iloadn dX12_draw_23 rfl <| ?_
  obtain ⟨g2, h⟩ := nz_e h
  refine At.irem dX12_draw_24 g2 <| ?_
  obtain rfl := Option.some.inj h
  exact At.iret rfl (Nat.zero_le _) (Nat.zero_le _) ⟨rfl, rfl⟩ dX12_draw_25
def fX12_drawn (S : SS) : Option (Int × SS) :=
  Option.bind (fX12_draw 6 S) fun q1 =>
  if q1.1 = 5 then (
    Option.bind (fX12_draw 10 q1.2) fun q2 =>
    some (w32 (200 + q2.1), q2.2)
  ) else (
    if q1.1 = 4 then (
      Option.bind (fX12_draw 8 q1.2) fun q3 =>
      Option.bind (fX12_draw 4 q3.2) fun q4 =>
      some (w32 ((w32 (100 + (w32 (10 * q3.1)))) + q4.1), q4.2)
    ) else (
      Option.bind (fX12_draw 3 q1.2) fun q5 =>
      Option.bind (fX12_draw 8 q5.2) fun q6 =>
      some (w32 ((w32 (10 * q5.1)) + q6.1), q6.2)
    )
  )
set_option maxRecDepth 100000 in
set_option maxHeartbeats 4000000 in
theorem rX12_drawn {G : GG} {S : SS} {rr : (Int × SS)} (h : fX12_drawn  S = some rr) : RD G mX12_drawn 2 [vr 130] S (some (vi rr.1)) rr.2 := by
  unfold fX12_drawn at h
  refine Runs.of pl_X12 (Nat.le_of_ble_eq_true rfl) ?_
  show At G mX12_drawn 2 0 [(0, vr 130)] [] (mm S) 0 0 (EQ (some (vi rr.1)) rr.2)
  refine At.aloadn dX12_drawn_0 rfl <| At.bipush dX12_drawn_1 (by decide) <| ?_
  obtain ⟨q1, hq1, h⟩ := bnd_e h
  rcases ite_e h with ⟨c8, h⟩ | ⟨c8, h⟩
  · refine At.cV1 (av := [vi 6]) (rest := []) mv_X12_draw lk_X12_316 dX12_drawn_3 rfl rfl sh_130 (Nat.le_of_ble_eq_true rfl) (by decide) ⟨rfl, rfl⟩ (rX12_draw hq1) <| At.istoren (ls' := [(1, vi q1.1), (0, vr 130)]) dX12_drawn_6 (by decide) rfl <| At.iloadn dX12_drawn_7 rfl <| At.iconst dX12_drawn_8 (by decide) <| At.icmp_ne_f (tgt := 23) dX12_drawn_9 (by decide) c8 <| ?_
    refine At.sipush dX12_drawn_12 (by decide) <| At.aloadn dX12_drawn_15 rfl <| At.bipush dX12_drawn_16 (by decide) <| ?_
    obtain ⟨q2, hq2, h⟩ := bnd_e h
    refine At.cV1 (av := [vi 10]) (rest := [vi 200]) mv_X12_draw lk_X12_316 dX12_drawn_18 rfl rfl sh_130 (Nat.le_of_ble_eq_true rfl) (by decide) ⟨rfl, rfl⟩ (rX12_draw hq2) <| At.iadd dX12_drawn_21 <| ?_
    obtain rfl := Option.some.inj h
    exact At.iret rfl (Nat.zero_le _) (Nat.zero_le _) ⟨rfl, rfl⟩ dX12_drawn_22
  · refine At.cV1 (av := [vi 6]) (rest := []) mv_X12_draw lk_X12_316 dX12_drawn_3 rfl rfl sh_130 (Nat.le_of_ble_eq_true rfl) (by decide) ⟨rfl, rfl⟩ (rX12_draw hq1) <| At.istoren (ls' := [(1, vi q1.1), (0, vr 130)]) dX12_drawn_6 (by decide) rfl <| At.iloadn dX12_drawn_7 rfl <| At.iconst dX12_drawn_8 (by decide) <| At.icmp_ne_t (tgt := 23) dX12_drawn_9 (by decide) c8 <| ?_
    rcases ite_e h with ⟨c7, h⟩ | ⟨c7, h⟩
    · refine At.iloadn dX12_drawn_23 rfl <| At.iconst dX12_drawn_24 (by decide) <| At.icmp_ne_f (tgt := 49) dX12_drawn_25 (by decide) c7 <| ?_
      refine At.aloadn dX12_drawn_28 rfl <| At.bipush dX12_drawn_29 (by decide) <| ?_
      obtain ⟨q3, hq3, h⟩ := bnd_e h
      refine At.cV1 (av := [vi 8]) (rest := []) mv_X12_draw lk_X12_316 dX12_drawn_31 rfl rfl sh_130 (Nat.le_of_ble_eq_true rfl) (by decide) ⟨rfl, rfl⟩ (rX12_draw hq3) <| At.istoren (ls' := [(2, vi q3.1), (1, vi q1.1), (0, vr 130)]) dX12_drawn_34 (by decide) rfl <| At.bipush dX12_drawn_35 (by decide) <| At.bipush dX12_drawn_37 (by decide) <| At.iloadn dX12_drawn_39 rfl <| At.imul dX12_drawn_40 <| At.iadd dX12_drawn_41 <| At.aloadn dX12_drawn_42 rfl <| At.iconst dX12_drawn_43 (by decide) <| ?_
      obtain ⟨q4, hq4, h⟩ := bnd_e h
      refine At.cV1 (av := [vi 4]) (rest := [vi (w32 (100 + (w32 (10 * q3.1))))]) mv_X12_draw lk_X12_316 dX12_drawn_44 rfl rfl sh_130 (Nat.le_of_ble_eq_true rfl) (by decide) ⟨rfl, rfl⟩ (rX12_draw hq4) <| At.iadd dX12_drawn_47 <| ?_
      obtain rfl := Option.some.inj h
      exact At.iret rfl (Nat.zero_le _) (Nat.zero_le _) ⟨rfl, rfl⟩ dX12_drawn_48
    · refine At.iloadn dX12_drawn_23 rfl <| At.iconst dX12_drawn_24 (by decide) <| At.icmp_ne_t (tgt := 49) dX12_drawn_25 (by decide) c7 <| ?_
      refine At.aloadn dX12_drawn_49 rfl <| At.iconst dX12_drawn_50 (by decide) <| ?_
      obtain ⟨q5, hq5, h⟩ := bnd_e h
      refine At.cV1 (av := [vi 3]) (rest := []) mv_X12_draw lk_X12_316 dX12_drawn_51 rfl rfl sh_130 (Nat.le_of_ble_eq_true rfl) (by decide) ⟨rfl, rfl⟩ (rX12_draw hq5) <| At.istoren (ls' := [(2, vi q5.1), (1, vi q1.1), (0, vr 130)]) dX12_drawn_54 (by decide) rfl <| At.bipush dX12_drawn_55 (by decide) <| At.iloadn dX12_drawn_57 rfl <| At.imul dX12_drawn_58 <| At.aloadn dX12_drawn_59 rfl <| At.bipush dX12_drawn_60 (by decide) <| ?_
      obtain ⟨q6, hq6, h⟩ := bnd_e h
      refine At.cV1 (av := [vi 8]) (rest := [vi (w32 (10 * q5.1))]) mv_X12_draw lk_X12_316 dX12_drawn_62 rfl rfl sh_130 (Nat.le_of_ble_eq_true rfl) (by decide) ⟨rfl, rfl⟩ (rX12_draw hq6) <| At.iadd dX12_drawn_65 <| ?_
      obtain rfl := Option.some.inj h
      exact At.iret rfl (Nat.zero_le _) (Nat.zero_le _) ⟨rfl, rfl⟩ dX12_drawn_66
def fX12_day_L34 (l2 : Int) : Nat → Int → Int → SS → Option (Int × SS)
  | 0, _, _, _ => none
  | n + 1, l3, l4, S =>
    if l2 ≤ l4 then (
      some (l3, S)
    ) else (
      Option.bind (fX12_drawn  S) fun q1 =>
      Option.bind (fX12_whyNot q1.1 q1.2) fun q2 =>
      Option.bind (
        if q2.1 = 0 then (
          Option.bind (fX12_does q1.1 q2.2) fun q4 =>
          lt (w32 (l3 + 1)) fun x5 =>
          some (x5, q4)
        ) else (
          some (l3, q2.2)
        )
        : Option (Int × SS)) fun q3 =>
      lt (w32 (l4 + 1)) fun x7 =>
      fX12_day_L34 l2 n q3.1 x7 q3.2
    )
def fX12_day (p1 : Int) (p2 : Int) (S : SS) : Option (Int × SS) :=
  lt (up S 130 0 0) fun S1 =>
  Option.bind (fX12_within p2 1 40) fun q2 =>
  if q2 = true then (
    Option.bind (fX12_keeps  S1) fun q3 =>
    lt (up q3 130 20 p1) fun S4 =>
    Option.bind (fX12_day_L34 p2 FU 0 0 S4) fun q5 =>
    Option.bind (
      if q5.1 ≤ 0 then (
        some q5.2
      ) else (
        Option.bind (fX12_notes  q5.2) fun q8 =>
        some q8
      )
      : Option (SS)) fun q7 =>
    some (q5.1, q7)
  ) else (
    some ((-3), S1)
  )
set_option maxRecDepth 100000 in
set_option maxHeartbeats 4000000 in
theorem lX12_day_L34 {G : GG} {Φ : Option VV → MM → Prop} {l2 : Int} : ∀ (n : Nat) (l3 : Int) (l4 : Int) (S : SS) (q : Int × SS), fX12_day_L34 l2 n l3 l4 S = some q → At G mX12_day 7 74 [(0, vr 130), (3, vi q.1)] [] (mm q.2) 0 0 Φ → At G mX12_day 7 34 [(0, vr 130), (2, vi l2), (3, vi l3), (4, vi l4)] [] (mm S) 0 0 Φ := by
  intro n
  induction n with
  | zero =>
    intro _ _ _ _ h
    cases h
  | succ n ih =>
    intro l3 l4 S q h K74
    unfold fX12_day_L34 at h
    rcases ite_e h with ⟨c8, h⟩ | ⟨c8, h⟩
    · refine At.iload dX12_day_34 rfl <| At.iloadn dX12_day_36 rfl <| At.icmp_ge_t (tgt := 74) dX12_day_37 (by decide) c8 <| ?_
      obtain rfl := Option.some.inj h
      exact At.sub [0, 2] rfl K74
    · refine At.iload dX12_day_34 rfl <| At.iloadn dX12_day_36 rfl <| At.icmp_ge_f (tgt := 74) dX12_day_37 (by decide) c8 <| ?_
      refine At.aloadn dX12_day_40 rfl <| ?_
      obtain ⟨q1, hq1, h⟩ := bnd_e h
      refine At.cV1 (av := []) (rest := []) mv_X12_drawn lk_X12_321 dX12_day_41 rfl rfl sh_130 (Nat.le_of_ble_eq_true rfl) (by decide) ⟨rfl, rfl⟩ (rX12_drawn hq1) <| At.istore (ls' := [(5, vi q1.1), (0, vr 130), (2, vi l2), (3, vi l3), (4, vi l4)]) dX12_day_44 (by decide) rfl <| At.aloadn dX12_day_46 rfl <| At.iload dX12_day_47 rfl <| At.i2l dX12_day_49 <| ?_
      obtain ⟨q2, hq2, h⟩ := bnd_e h
      obtain ⟨q3, hj68, h⟩ := bnd_e h
      have K68 : At G mX12_day 7 68 [(0, vr 130), (2, vi l2), (3, vi q3.1), (4, vi l4)] [] (mm q3.2) 0 0 Φ := by
        obtain ⟨x7, hx7, h⟩ := lt_e h
        refine At.iinc (ls' := [(4, vi x7), (0, vr 130), (2, vi l2), (3, vi q3.1)]) dX12_day_68 rfl (by decide) (by rw [hx7]; rfl) <| At.goto (tgt := 34) dX12_day_71 (by decide) <| ?_
        exact At.sub [1, 2, 3, 0] rfl (ih _ _ _ _ h K74)
      clear h; have h := hj68; clear hj68
      rcases ite_e h with ⟨c6, h⟩ | ⟨c6, h⟩
      · refine At.cV1 (av := [vl q1.1]) (rest := []) mv_X12_whyNot lk_X12_290 dX12_day_50 rfl rfl sh_130 (Nat.le_of_ble_eq_true rfl) (by decide) ⟨rfl, rfl⟩ (rX12_whyNot hq2) <| At.if_eq_t (tgt := 59) dX12_day_53 (by decide) c6 <| ?_
        refine At.aloadn dX12_day_59 rfl <| At.iload dX12_day_60 rfl <| ?_
        obtain ⟨q4, hq4, h⟩ := bnd_e h
        refine At.cV0 (av := [vi q1.1]) (rest := []) mv_X12_does lk_X12_294 dX12_day_62 rfl rfl sh_130 (Nat.le_of_ble_eq_true rfl) (by decide) ⟨rfl, rfl⟩ (rX12_does hq4) <| ?_
        obtain ⟨x5, hx5, h⟩ := lt_e h
        refine At.iinc (ls' := [(3, vi x5), (5, vi q1.1), (0, vr 130), (2, vi l2), (4, vi l4)]) dX12_day_65 rfl (by decide) (by rw [hx5]; rfl) <| ?_
        obtain rfl := Option.some.inj h
        exact At.sub [2, 3, 0, 4] rfl K68
      · refine At.cV1 (av := [vl q1.1]) (rest := []) mv_X12_whyNot lk_X12_290 dX12_day_50 rfl rfl sh_130 (Nat.le_of_ble_eq_true rfl) (by decide) ⟨rfl, rfl⟩ (rX12_whyNot hq2) <| At.if_eq_f (tgt := 59) dX12_day_53 (by decide) c6 <| ?_
        refine At.goto (tgt := 68) dX12_day_56 (by decide) <| ?_
        obtain rfl := Option.some.inj h
        exact At.sub [1, 2, 3, 4] rfl K68
set_option maxRecDepth 100000 in
set_option maxHeartbeats 4000000 in
theorem rX12_day {G : GG} {p1 : Int} {p2 : Int} {S : SS} {rr : (Int × SS)} (h : fX12_day p1 p2 S = some rr) : RD G mX12_day 7 [vr 130, vi p1, vi p2] S (some (vi rr.1)) rr.2 := by
  unfold fX12_day at h
  refine Runs.of pl_X12 (Nat.le_of_ble_eq_true rfl) ?_
  show At G mX12_day 7 0 [(0, vr 130), (1, vi p1), (2, vi p2)] [] (mm S) 0 0 (EQ (some (vi rr.1)) rr.2)
  refine At.aloadn dX12_day_0 rfl <| At.iconst dX12_day_1 (by decide) <| ?_
  obtain ⟨S1, hS1, h⟩ := lt_e h
  refine At.putI fw_X12_1 sh_130 (le149 sh_130) dX12_day_2 <| At.nmS hS1 <| At.iloadn dX12_day_5 rfl <| At.i2l dX12_day_6 <| At.lconst1 dX12_day_7 <| At.ldc2 dX12_day_8 kl_X12_319 (by decide) <| ?_
  obtain ⟨q2, hq2, h⟩ := bnd_e h
  rcases ite_e h with ⟨c10, h⟩ | ⟨c10, h⟩
  · refine At.cS1 (av := [vl p2, vl 1, vl 40]) (rest := []) ms_X12_within lk_X12_142 dX12_day_11 rfl rfl (Nat.le_of_ble_eq_true rfl) (by decide) ⟨rfl, rfl⟩ (rX12_within hq2) <| At.bifne_t (tgt := 20) dX12_day_14 (by decide) c10 <| ?_
    refine At.aloadn dX12_day_20 rfl <| ?_
    obtain ⟨q3, hq3, h⟩ := bnd_e h
    refine At.cV0 (av := []) (rest := []) mv_X12_keeps lk_X12_254 dX12_day_21 rfl rfl sh_130 (Nat.le_of_ble_eq_true rfl) (by decide) ⟨rfl, rfl⟩ (rX12_keeps hq3) <| At.aloadn dX12_day_24 rfl <| At.iloadn dX12_day_25 rfl <| ?_
    obtain ⟨S4, hS4, h⟩ := lt_e h
    refine At.putI fw_X12_313 sh_130 (le149 sh_130) dX12_day_26 <| At.nmS hS4 <| At.iconst dX12_day_29 (by decide) <| At.istoren (ls' := [(3, vi 0), (0, vr 130), (1, vi p1), (2, vi p2)]) dX12_day_30 (by decide) rfl <| At.iconst dX12_day_31 (by decide) <| At.istore (ls' := [(4, vi 0), (3, vi 0), (0, vr 130), (1, vi p1), (2, vi p2)]) dX12_day_32 (by decide) rfl <| ?_
    obtain ⟨q5, ho6, h⟩ := bnd_e h
    refine At.sub [2, 4, 1, 0] rfl (lX12_day_L34 FU _ _ _ q5 ho6 ?_)
    obtain ⟨q7, hj82, h⟩ := bnd_e h
    have K82 : At G mX12_day 7 82 [(3, vi q5.1)] [] (mm q7) 0 0 (EQ (some (vi rr.1)) rr.2) := by
      refine At.iloadn dX12_day_82 rfl <| ?_
      obtain rfl := Option.some.inj h
      exact At.iret rfl (Nat.zero_le _) (Nat.zero_le _) ⟨rfl, rfl⟩ dX12_day_83
    clear h; have h := hj82; clear hj82
    rcases ite_e h with ⟨c9, h⟩ | ⟨c9, h⟩
    · refine At.iloadn dX12_day_74 rfl <| At.if_le_t (tgt := 82) dX12_day_75 (by decide) c9 <| ?_
      obtain rfl := Option.some.inj h
      exact At.sub [1] rfl K82
    · refine At.iloadn dX12_day_74 rfl <| At.if_le_f (tgt := 82) dX12_day_75 (by decide) c9 <| ?_
      refine At.aloadn dX12_day_78 rfl <| ?_
      obtain ⟨q8, hq8, h⟩ := bnd_e h
      refine At.cV0 (av := []) (rest := []) mv_X12_notes lk_X12_261 dX12_day_79 rfl rfl sh_130 (Nat.le_of_ble_eq_true rfl) (by decide) ⟨rfl, rfl⟩ (rX12_notes hq8) <| ?_
      obtain rfl := Option.some.inj h
      exact At.sub [1] rfl K82
  · refine At.cS1 (av := [vl p2, vl 1, vl 40]) (rest := []) ms_X12_within lk_X12_142 dX12_day_11 rfl rfl (Nat.le_of_ble_eq_true rfl) (by decide) ⟨rfl, rfl⟩ (rX12_within hq2) <| At.bifne_f (tgt := 20) dX12_day_14 (by decide) c10 <| ?_
    refine At.bipush dX12_day_17 (by decide) <| ?_
    obtain rfl := Option.some.inj h
    exact At.iret rfl (Nat.zero_le _) (Nat.zero_le _) ⟨rfl, rfl⟩ dX12_day_19
def fX12_laysThen_L18 (l1 : Int) (l2 : Int) (l3 : Int) : Nat → Int → SS → Option (SS)
  | 0, _, _ => none
  | n + 1, l4, S =>
    if 8 ≤ l4 then (
      some S
    ) else (
      rdA S 131 3303 2 fun v1 =>
      Option.bind (
        if v1 ≤ l4 then (
          some ((-1), S)
        ) else (
          Option.bind (fX12_isIn l2 l4) fun q4 =>
          if q4 = true then (
            some ((-1), S)
          ) else (
            rdA S 131 3303 (w32 (40 + l4)) fun v5 =>
            Option.bind (fX12_whyBy l1 l3 l4 v5 S) fun q7 =>
            if q7.1 = 0 then (
              Option.bind (fX12_goneTo l1 l3 l4 q7.2) fun q8 =>
              some (q8.1, q8.2)
            ) else (
              some ((-1), q7.2)
            )
          )
        )
        : Option (Int × SS)) fun q3 =>
      wrA q3.2 138 960 (w32 ((w32 (8 * l3)) + l4)) q3.1 fun S12 =>
      lt (w32 (l4 + 1)) fun x14 =>
      fX12_laysThen_L18 l1 l2 l3 n x14 S12
    )
def fX12_laysThen_L2 (l1 : Int) (l2 : Int) : Nat → Int → SS → Option (SS)
  | 0, _, _ => none
  | n + 1, l3, S =>
    rdA S 131 3303 1 fun v1 =>
    if (w32 (20 * v1)) ≤ l3 then (
      some S
    ) else (
      Option.bind (fX12_laysThen_L18 l1 l2 l3 FU 0 S) fun q3 =>
      lt (w32 (l3 + 1)) fun x5 =>
      fX12_laysThen_L2 l1 l2 n x5 q3
    )
def fX12_laysThen (p1 : Int) (p2 : Int) (S : SS) : Option SS :=
  Option.bind (fX12_laysThen_L2 p1 p2 FU 0 S) fun q1 =>
  some q1
set_option maxRecDepth 100000 in
set_option maxHeartbeats 4000000 in
theorem lX12_laysThen_L18 {G : GG} {Φ : Option VV → MM → Prop} {l1 : Int} {l2 : Int} {l3 : Int} : ∀ (n : Nat) (l4 : Int) (S : SS) (q : SS), fX12_laysThen_L18 l1 l2 l3 n l4 S = some q → At G mX12_laysThen 5 97 [(0, vr 130), (1, vi l1), (2, vi l2), (3, vi l3)] [] (mm q) 0 0 Φ → At G mX12_laysThen 5 18 [(0, vr 130), (1, vi l1), (2, vi l2), (3, vi l3), (4, vi l4)] [] (mm S) 0 0 Φ := by
  intro n
  induction n with
  | zero =>
    intro _ _ _ h
    cases h
  | succ n ih =>
    intro l4 S q h K97
    unfold fX12_laysThen_L18 at h
    rcases ite_e h with ⟨c15, h⟩ | ⟨c15, h⟩
    · refine At.iload dX12_laysThen_18 rfl <| At.bipush dX12_laysThen_20 (by decide) <| At.icmp_ge_t (tgt := 97) dX12_laysThen_22 (by decide) c15 <| ?_
      obtain rfl := Option.some.inj h
      exact At.sub [0, 1, 2, 3] rfl K97
    · refine At.iload dX12_laysThen_18 rfl <| At.bipush dX12_laysThen_20 (by decide) <| At.icmp_ge_f (tgt := 97) dX12_laysThen_22 (by decide) c15 <| ?_
      refine At.aloadn dX12_laysThen_25 rfl <| At.getR fl_X12_39 sh_130 (le149 sh_130) rf_130_21 dX12_laysThen_26 <| At.bipush dX12_laysThen_29 (by decide) <| At.iloadn dX12_laysThen_31 rfl <| At.imul dX12_laysThen_32 <| At.iload dX12_laysThen_33 rfl <| At.iadd dX12_laysThen_35 <| At.iload dX12_laysThen_36 rfl <| At.aloadn dX12_laysThen_38 rfl <| At.getR fl_X12_13 sh_130 (le149 sh_130) rf_130_1 dX12_laysThen_39 <| At.iconst dX12_laysThen_42 (by decide) <| ?_
      obtain ⟨v1, hv1, g2, h⟩ := rdA_e h
      obtain ⟨q3, hj90, h⟩ := bnd_e h
      have K90 : At G mX12_laysThen 5 90 [(0, vr 130), (1, vi l1), (2, vi l2), (3, vi l3), (4, vi l4)] [vi q3.1, vi (w32 ((w32 (8 * l3)) + l4)), vr 138] (mm q3.2) 0 0 Φ := by
        obtain ⟨S12, hS12, g13, h⟩ := wrA_e h
        refine At.iast sh_138 (le149 sh_138) g13.1 g13.2 dX12_laysThen_90 <| At.nmS hS12 <| ?_
        obtain ⟨x14, hx14, h⟩ := lt_e h
        refine At.iinc (ls' := [(4, vi x14), (0, vr 130), (1, vi l1), (2, vi l2), (3, vi l3)]) dX12_laysThen_91 rfl (by decide) (by rw [hx14]; rfl) <| At.goto (tgt := 18) dX12_laysThen_94 (by decide) <| ?_
        exact At.sub [1, 2, 3, 4, 0] rfl (ih _ _ _ h K97)
      clear h; have h := hj90; clear hj90
      rcases ite_e h with ⟨c11, h⟩ | ⟨c11, h⟩
      · refine At.iald sh_131 (le149 sh_131) g2.1 g2.2 dX12_laysThen_43 <| At.nm hv1 <| At.icmp_ge_t (tgt := 89) dX12_laysThen_44 (by decide) c11 <| ?_
        refine At.iconst dX12_laysThen_89 (by decide) <| ?_
        obtain rfl := Option.some.inj h
        exact At.sub [0, 1, 2, 3, 4] rfl K90
      · refine At.iald sh_131 (le149 sh_131) g2.1 g2.2 dX12_laysThen_43 <| At.nm hv1 <| At.icmp_ge_f (tgt := 89) dX12_laysThen_44 (by decide) c11 <| ?_
        refine At.iloadn dX12_laysThen_47 rfl <| At.i2l dX12_laysThen_48 <| At.iload dX12_laysThen_49 rfl <| ?_
        obtain ⟨q4, hq4, h⟩ := bnd_e h
        rcases ite_e h with ⟨c10, h⟩ | ⟨c10, h⟩
        · refine At.cS1 (av := [vl l2, vi l4]) (rest := [vi (w32 ((w32 (8 * l3)) + l4)), vr 138]) ms_X12_isIn lk_X12_324 dX12_laysThen_51 rfl rfl (Nat.le_of_ble_eq_true rfl) (by decide) ⟨rfl, rfl⟩ (rX12_isIn hq4) <| At.bifne_t (tgt := 89) dX12_laysThen_54 (by decide) c10 <| ?_
          refine At.iconst dX12_laysThen_89 (by decide) <| ?_
          obtain rfl := Option.some.inj h
          exact At.sub [0, 1, 2, 3, 4] rfl K90
        · refine At.cS1 (av := [vl l2, vi l4]) (rest := [vi (w32 ((w32 (8 * l3)) + l4)), vr 138]) ms_X12_isIn lk_X12_324 dX12_laysThen_51 rfl rfl (Nat.le_of_ble_eq_true rfl) (by decide) ⟨rfl, rfl⟩ (rX12_isIn hq4) <| At.bifne_f (tgt := 89) dX12_laysThen_54 (by decide) c10 <| ?_
          refine At.aloadn dX12_laysThen_57 rfl <| At.iloadn dX12_laysThen_58 rfl <| At.iloadn dX12_laysThen_59 rfl <| At.iload dX12_laysThen_60 rfl <| At.aloadn dX12_laysThen_62 rfl <| At.getR fl_X12_13 sh_130 (le149 sh_130) rf_130_1 dX12_laysThen_63 <| At.bipush dX12_laysThen_66 (by decide) <| At.iload dX12_laysThen_68 rfl <| At.iadd dX12_laysThen_70 <| ?_
          obtain ⟨v5, hv5, g6, h⟩ := rdA_e h
          refine At.iald sh_131 (le149 sh_131) g6.1 g6.2 dX12_laysThen_71 <| At.nm hv5 <| ?_
          obtain ⟨q7, hq7, h⟩ := bnd_e h
          rcases ite_e h with ⟨c9, h⟩ | ⟨c9, h⟩
          · refine At.cV1 (av := [vi l1, vi l3, vi l4, vi v5]) (rest := [vi (w32 ((w32 (8 * l3)) + l4)), vr 138]) mv_X12_whyBy lk_X12_242 dX12_laysThen_72 rfl rfl sh_130 (Nat.le_of_ble_eq_true rfl) (by decide) ⟨rfl, rfl⟩ (rX12_whyBy hq7) <| At.if_ne_f (tgt := 89) dX12_laysThen_75 (by decide) c9 <| ?_
            refine At.aloadn dX12_laysThen_78 rfl <| At.iloadn dX12_laysThen_79 rfl <| At.iloadn dX12_laysThen_80 rfl <| At.iload dX12_laysThen_81 rfl <| ?_
            obtain ⟨q8, hq8, h⟩ := bnd_e h
            refine At.cV1 (av := [vi l1, vi l3, vi l4]) (rest := [vi (w32 ((w32 (8 * l3)) + l4)), vr 138]) mv_X12_goneTo lk_X12_251 dX12_laysThen_83 rfl rfl sh_130 (Nat.le_of_ble_eq_true rfl) (by decide) ⟨rfl, rfl⟩ (rX12_goneTo hq8) <| At.goto (tgt := 90) dX12_laysThen_86 (by decide) <| ?_
            obtain rfl := Option.some.inj h
            exact At.sub [0, 1, 2, 3, 4] rfl K90
          · refine At.cV1 (av := [vi l1, vi l3, vi l4, vi v5]) (rest := [vi (w32 ((w32 (8 * l3)) + l4)), vr 138]) mv_X12_whyBy lk_X12_242 dX12_laysThen_72 rfl rfl sh_130 (Nat.le_of_ble_eq_true rfl) (by decide) ⟨rfl, rfl⟩ (rX12_whyBy hq7) <| At.if_ne_t (tgt := 89) dX12_laysThen_75 (by decide) c9 <| ?_
            refine At.iconst dX12_laysThen_89 (by decide) <| ?_
            obtain rfl := Option.some.inj h
            exact At.sub [0, 1, 2, 3, 4] rfl K90
set_option maxRecDepth 100000 in
set_option maxHeartbeats 4000000 in
theorem lX12_laysThen_L2 {G : GG} {Φ : Option VV → MM → Prop} {l1 : Int} {l2 : Int} : ∀ (n : Nat) (l3 : Int) (S : SS) (q : SS), fX12_laysThen_L2 l1 l2 n l3 S = some q → At G mX12_laysThen 5 103 [] [] (mm q) 0 0 Φ → At G mX12_laysThen 5 2 [(0, vr 130), (1, vi l1), (2, vi l2), (3, vi l3)] [] (mm S) 0 0 Φ := by
  intro n
  induction n with
  | zero =>
    intro _ _ _ h
    cases h
  | succ n ih =>
    intro l3 S q h K103
    unfold fX12_laysThen_L2 at h
    refine At.iloadn dX12_laysThen_2 rfl <| At.bipush dX12_laysThen_3 (by decide) <| At.aloadn dX12_laysThen_5 rfl <| At.getR fl_X12_13 sh_130 (le149 sh_130) rf_130_1 dX12_laysThen_6 <| At.iconst dX12_laysThen_9 (by decide) <| ?_
    obtain ⟨v1, hv1, g2, h⟩ := rdA_e h
    rcases ite_e h with ⟨c6, h⟩ | ⟨c6, h⟩
    · refine At.iald sh_131 (le149 sh_131) g2.1 g2.2 dX12_laysThen_10 <| At.nm hv1 <| At.imul dX12_laysThen_11 <| At.icmp_ge_t (tgt := 103) dX12_laysThen_12 (by decide) c6 <| ?_
      obtain rfl := Option.some.inj h
      exact At.sub [] rfl K103
    · refine At.iald sh_131 (le149 sh_131) g2.1 g2.2 dX12_laysThen_10 <| At.nm hv1 <| At.imul dX12_laysThen_11 <| At.icmp_ge_f (tgt := 103) dX12_laysThen_12 (by decide) c6 <| ?_
      refine At.iconst dX12_laysThen_15 (by decide) <| At.istore (ls' := [(4, vi 0), (0, vr 130), (1, vi l1), (2, vi l2), (3, vi l3)]) dX12_laysThen_16 (by decide) rfl <| ?_
      obtain ⟨q3, ho4, h⟩ := bnd_e h
      refine At.sub [1, 2, 3, 4, 0] rfl (lX12_laysThen_L18 FU _ _ q3 ho4 ?_)
      obtain ⟨x5, hx5, h⟩ := lt_e h
      refine At.iinc (ls' := [(3, vi x5), (0, vr 130), (1, vi l1), (2, vi l2)]) dX12_laysThen_97 rfl (by decide) (by rw [hx5]; rfl) <| At.goto (tgt := 2) dX12_laysThen_100 (by decide) <| ?_
      exact At.sub [1, 2, 3, 0] rfl (ih _ _ _ h K103)
set_option maxRecDepth 100000 in
set_option maxHeartbeats 4000000 in
theorem rX12_laysThen {G : GG} {p1 : Int} {p2 : Int} {S : SS} {rr : SS} (h : fX12_laysThen p1 p2 S = some rr) : RD G mX12_laysThen 5 [vr 130, vi p1, vi p2] S none rr := by
  unfold fX12_laysThen at h
  refine Runs.of pl_X12 (Nat.le_of_ble_eq_true rfl) ?_
  show At G mX12_laysThen 5 0 [(0, vr 130), (1, vi p1), (2, vi p2)] [] (mm S) 0 0 (EQ none rr)
  refine At.iconst dX12_laysThen_0 (by decide) <| At.istoren (ls' := [(3, vi 0), (0, vr 130), (1, vi p1), (2, vi p2)]) dX12_laysThen_1 (by decide) rfl <| ?_
  obtain ⟨q1, ho2, h⟩ := bnd_e h
  refine At.sub [1, 2, 3, 0] rfl (lX12_laysThen_L2 FU _ _ q1 ho2 ?_)
  obtain rfl := Option.some.inj h
  exact At.vret rfl (Nat.zero_le _) (Nat.zero_le _) ⟨rfl, rfl⟩ dX12_laysThen_103
def fX12_stands (S : SS) : Option Int :=
  rdA S 131 3303 1 fun v1 =>
  some (w32 (20 * v1))
set_option maxRecDepth 100000 in
set_option maxHeartbeats 4000000 in
theorem rX12_stands {G : GG} {S : SS} {rr : Int} (h : fX12_stands  S = some rr) : RD G mX12_stands 1 [vr 130] S (some (vi rr)) S := by
  unfold fX12_stands at h
  refine Runs.of pl_X12 (Nat.le_of_ble_eq_true rfl) ?_
  show At G mX12_stands 1 0 [(0, vr 130)] [] (mm S) 0 0 (EQ (some (vi rr)) S)
  refine At.bipush dX12_stands_0 (by decide) <| At.aloadn dX12_stands_2 rfl <| At.getR fl_X12_13 sh_130 (le149 sh_130) rf_130_1 dX12_stands_3 <| At.iconst dX12_stands_6 (by decide) <| ?_
  obtain ⟨v1, hv1, g2, h⟩ := rdA_e h
  refine At.iald sh_131 (le149 sh_131) g2.1 g2.2 dX12_stands_7 <| At.nm hv1 <| At.imul dX12_stands_8 <| ?_
  obtain rfl := Option.some.inj h
  exact At.iret rfl (Nat.zero_le _) (Nat.zero_le _) ⟨rfl, rfl⟩ dX12_stands_9
def fX12_isGoal (p0 : Int) (p1 : Int) (p2 : Int) : Option Bool :=
  if (w32 (Int.tdiv p0 20)) = p1 then (
    if p2 = ((-1)) then (
      some true
    ) else (
      if (Int.tmod p0 20) = p2 then (
        some true
      ) else (
        some false
      )
    )
  ) else (
    some false
  )
set_option maxRecDepth 100000 in
set_option maxHeartbeats 4000000 in
theorem rX12_isGoal {G : GG} {p0 : Int} {p1 : Int} {p2 : Int} {S : SS} {rr : Bool} (h : fX12_isGoal p0 p1 p2 = some rr) : RD G mX12_isGoal 1 [vi p0, vi p1, vi p2] S (some (vi (bI rr))) S := by
  unfold fX12_isGoal at h
  refine Runs.of pl_X12 (Nat.le_of_ble_eq_true rfl) ?_
  show At G mX12_isGoal 1 0 [(0, vi p0), (1, vi p1), (2, vi p2)] [] (mm S) 0 0 (EQ (some (vi (bI rr))) S)
  rcases ite_e h with ⟨c3, h⟩ | ⟨c3, h⟩
  · refine At.iloadn dX12_isGoal_0 rfl <| At.bipush dX12_isGoal_1 (by decide) <| At.idiv dX12_isGoal_3 (by decide) <| At.iloadn dX12_isGoal_4 rfl <| At.icmp_ne_f (tgt := 25) dX12_isGoal_5 (by decide) c3 <| ?_
    rcases ite_e h with ⟨c2, h⟩ | ⟨c2, h⟩
    · refine At.iloadn dX12_isGoal_8 rfl <| At.iconst dX12_isGoal_9 (by decide) <| At.icmp_eq_t (tgt := 21) dX12_isGoal_10 (by decide) c2 <| ?_
      refine At.iconst dX12_isGoal_21 (by decide) <| At.goto (tgt := 26) dX12_isGoal_22 (by decide) <| ?_
      obtain rfl := Option.some.inj h
      exact At.zret (b := true) rfl (Nat.zero_le _) (Nat.zero_le _) ⟨rfl, rfl⟩ dX12_isGoal_26
    · refine At.iloadn dX12_isGoal_8 rfl <| At.iconst dX12_isGoal_9 (by decide) <| At.icmp_eq_f (tgt := 21) dX12_isGoal_10 (by decide) c2 <| ?_
      rcases ite_e h with ⟨c1, h⟩ | ⟨c1, h⟩
      · refine At.iloadn dX12_isGoal_13 rfl <| At.bipush dX12_isGoal_14 (by decide) <| At.irem dX12_isGoal_16 (by decide) <| At.iloadn dX12_isGoal_17 rfl <| At.icmp_ne_f (tgt := 25) dX12_isGoal_18 (by decide) c1 <| ?_
        refine At.iconst dX12_isGoal_21 (by decide) <| At.goto (tgt := 26) dX12_isGoal_22 (by decide) <| ?_
        obtain rfl := Option.some.inj h
        exact At.zret (b := true) rfl (Nat.zero_le _) (Nat.zero_le _) ⟨rfl, rfl⟩ dX12_isGoal_26
      · refine At.iloadn dX12_isGoal_13 rfl <| At.bipush dX12_isGoal_14 (by decide) <| At.irem dX12_isGoal_16 (by decide) <| At.iloadn dX12_isGoal_17 rfl <| At.icmp_ne_t (tgt := 25) dX12_isGoal_18 (by decide) c1 <| ?_
        refine At.iconst dX12_isGoal_25 (by decide) <| ?_
        obtain rfl := Option.some.inj h
        exact At.zret (b := false) rfl (Nat.zero_le _) (Nat.zero_le _) ⟨rfl, rfl⟩ dX12_isGoal_26
  · refine At.iloadn dX12_isGoal_0 rfl <| At.bipush dX12_isGoal_1 (by decide) <| At.idiv dX12_isGoal_3 (by decide) <| At.iloadn dX12_isGoal_4 rfl <| At.icmp_ne_t (tgt := 25) dX12_isGoal_5 (by decide) c3 <| ?_
    refine At.iconst dX12_isGoal_25 (by decide) <| ?_
    obtain rfl := Option.some.inj h
    exact At.zret (b := false) rfl (Nat.zero_le _) (Nat.zero_le _) ⟨rfl, rfl⟩ dX12_isGoal_26
def fX12_farBy (p1 : Int) (p2 : Int) (S : SS) : Option Int :=
  rdA S 138 960 (w32 ((w32 (8 * p1)) + p2)) fun v1 =>
  if v1 = ((-1)) then (
    some 268435456
  ) else (
    rdA S 139 120 v1 fun v3 =>
    if v3 = 268435456 then (
      some 268435456
    ) else (
      rdA S 139 120 v1 fun v5 =>
      some (w32 (v5 + 1))
    )
  )
set_option maxRecDepth 100000 in
set_option maxHeartbeats 4000000 in
theorem rX12_farBy {G : GG} {p1 : Int} {p2 : Int} {S : SS} {rr : Int} (h : fX12_farBy p1 p2 S = some rr) : RD G mX12_farBy 1 [vr 130, vi p1, vi p2] S (some (vi rr)) S := by
  unfold fX12_farBy at h
  refine Runs.of pl_X12 (Nat.le_of_ble_eq_true rfl) ?_
  show At G mX12_farBy 1 0 [(0, vr 130), (1, vi p1), (2, vi p2)] [] (mm S) 0 0 (EQ (some (vi rr)) S)
  refine At.aloadn dX12_farBy_0 rfl <| At.getR fl_X12_39 sh_130 (le149 sh_130) rf_130_21 dX12_farBy_1 <| At.bipush dX12_farBy_4 (by decide) <| At.iloadn dX12_farBy_6 rfl <| At.imul dX12_farBy_7 <| At.iloadn dX12_farBy_8 rfl <| At.iadd dX12_farBy_9 <| ?_
  obtain ⟨v1, hv1, g2, h⟩ := rdA_e h
  rcases ite_e h with ⟨c8, h⟩ | ⟨c8, h⟩
  · refine At.iald sh_138 (le149 sh_138) g2.1 g2.2 dX12_farBy_10 <| At.nm hv1 <| At.istoren (ls' := [(3, vi v1), (0, vr 130), (1, vi p1), (2, vi p2)]) dX12_farBy_11 (by decide) rfl <| At.iloadn dX12_farBy_12 rfl <| At.iconst dX12_farBy_13 (by decide) <| At.icmp_eq_t (tgt := 29) dX12_farBy_14 (by decide) c8 <| ?_
    refine At.ldcw dX12_farBy_29 ki_X12_328 (by decide) <| At.goto (tgt := 43) dX12_farBy_32 (by decide) <| ?_
    obtain rfl := Option.some.inj h
    exact At.iret rfl (Nat.zero_le _) (Nat.zero_le _) ⟨rfl, rfl⟩ dX12_farBy_43
  · refine At.iald sh_138 (le149 sh_138) g2.1 g2.2 dX12_farBy_10 <| At.nm hv1 <| At.istoren (ls' := [(3, vi v1), (0, vr 130), (1, vi p1), (2, vi p2)]) dX12_farBy_11 (by decide) rfl <| At.iloadn dX12_farBy_12 rfl <| At.iconst dX12_farBy_13 (by decide) <| At.icmp_eq_f (tgt := 29) dX12_farBy_14 (by decide) c8 <| ?_
    refine At.aloadn dX12_farBy_17 rfl <| At.getR fl_X12_42 sh_130 (le149 sh_130) rf_130_22 dX12_farBy_18 <| At.iloadn dX12_farBy_21 rfl <| ?_
    obtain ⟨v3, hv3, g4, h⟩ := rdA_e h
    rcases ite_e h with ⟨c7, h⟩ | ⟨c7, h⟩
    · refine At.iald sh_139 (le149 sh_139) g4.1 g4.2 dX12_farBy_22 <| At.nm hv3 <| At.ldcw dX12_farBy_23 ki_X12_328 (by decide) <| At.icmp_ne_f (tgt := 35) dX12_farBy_26 (by decide) c7 <| ?_
      refine At.ldcw dX12_farBy_29 ki_X12_328 (by decide) <| At.goto (tgt := 43) dX12_farBy_32 (by decide) <| ?_
      obtain rfl := Option.some.inj h
      exact At.iret rfl (Nat.zero_le _) (Nat.zero_le _) ⟨rfl, rfl⟩ dX12_farBy_43
    · refine At.iald sh_139 (le149 sh_139) g4.1 g4.2 dX12_farBy_22 <| At.nm hv3 <| At.ldcw dX12_farBy_23 ki_X12_328 (by decide) <| At.icmp_ne_t (tgt := 35) dX12_farBy_26 (by decide) c7 <| ?_
      refine At.aloadn dX12_farBy_35 rfl <| At.getR fl_X12_42 sh_130 (le149 sh_130) rf_130_22 dX12_farBy_36 <| At.iloadn dX12_farBy_39 rfl <| ?_
      obtain ⟨v5, hv5, g6, h⟩ := rdA_e h
      refine At.iald sh_139 (le149 sh_139) g6.1 g6.2 dX12_farBy_40 <| At.nm hv5 <| At.iconst dX12_farBy_41 (by decide) <| At.iadd dX12_farBy_42 <| ?_
      obtain rfl := Option.some.inj h
      exact At.iret rfl (Nat.zero_le _) (Nat.zero_le _) ⟨rfl, rfl⟩ dX12_farBy_43
def fX12_laysFar_L9 (l1 : Int) (l2 : Int) (l3 : Int) : Nat → Int → SS → Option (SS)
  | 0, _, _ => none
  | n + 1, l4, S =>
    if 120 ≤ l4 then (
      some S
    ) else (
      Option.bind (fX12_isGoal l4 l2 l3) fun q1 =>
      Option.bind (
        if q1 = true then (
          some 0
        ) else (
          some 268435456
        )
        : Option (Int)) fun q2 =>
      wrA S 139 120 l4 q2 fun S4 =>
      lt (w32 (l4 + 1)) fun x6 =>
      fX12_laysFar_L9 l1 l2 l3 n x6 S4
    )
def fX12_laysFar_L72 (l1 : Int) (l5 : Int) : Nat → Int → Int → SS → Option (Int × SS)
  | 0, _, _, _ => none
  | n + 1, l4, l6, S =>
    if 8 ≤ l6 then (
      some (l4, S)
    ) else (
      rdA S 139 120 l5 fun v1 =>
      if v1 ≤ 0 then (
        some (l4, S)
      ) else (
        Option.bind (fX12_farBy l5 l6 S) fun q3 =>
        rdA S 139 120 l5 fun v4 =>
        Option.bind (
          if q3 < v4 then (
            Option.bind (fX12_farBy l5 l6 S) fun q7 =>
            wrA S 139 120 l5 q7 fun S8 =>
            some (1, S8)
          ) else (
            some (l4, S)
          )
          : Option (Int × SS)) fun q6 =>
        lt (w32 (l6 + 1)) fun x11 =>
        fX12_laysFar_L72 l1 l5 n q6.1 x11 q6.2
      )
    )
def fX12_laysFar_L60 (l1 : Int) : Nat → Int → Int → SS → Option (Int × SS)
  | 0, _, _, _ => none
  | n + 1, l4, l5, S =>
    Option.bind (fX12_stands  S) fun q1 =>
    if q1 ≤ l5 then (
      some (l4, S)
    ) else (
      Option.bind (fX12_laysFar_L72 l1 l5 FU l4 0 S) fun q2 =>
      lt (w32 (l5 + 1)) fun x4 =>
      fX12_laysFar_L60 l1 n q2.1 x4 q2.2
    )
def fX12_laysFar_L49 (l1 : Int) : Nat → Int → SS → Option (SS)
  | 0, _, _ => none
  | n + 1, l4, S =>
    if l4 = 0 then (
      some S
    ) else (
      Option.bind (fX12_laysFar_L60 l1 FU 0 0 S) fun q1 =>
      fX12_laysFar_L49 l1 n q1.1 q1.2
    )
def fX12_laysFar (p1 : Int) (p2 : Int) (p3 : Int) (S : SS) : Option (Int × SS) :=
  Option.bind (fX12_laysThen p1 0 S) fun q1 =>
  Option.bind (fX12_laysFar_L9 p1 p2 p3 FU 0 q1) fun q2 =>
  Option.bind (fX12_laysFar_L49 p1 FU 1 q2) fun q4 =>
  Option.bind (fX12_standOf p1 q4) fun q6 =>
  rdA q4 139 120 q6 fun v7 =>
  some (v7, q4)
set_option maxRecDepth 100000 in
set_option maxHeartbeats 4000000 in
theorem lX12_laysFar_L9 {G : GG} {Φ : Option VV → MM → Prop} {l1 : Int} {l2 : Int} {l3 : Int} : ∀ (n : Nat) (l4 : Int) (S : SS) (q : SS), fX12_laysFar_L9 l1 l2 l3 n l4 S = some q → At G mX12_laysFar 6 46 [(0, vr 130), (1, vi l1)] [] (mm q) 0 0 Φ → At G mX12_laysFar 6 9 [(0, vr 130), (1, vi l1), (2, vi l2), (3, vi l3), (4, vi l4)] [] (mm S) 0 0 Φ := by
  intro n
  induction n with
  | zero =>
    intro _ _ _ h
    cases h
  | succ n ih =>
    intro l4 S q h K46
    unfold fX12_laysFar_L9 at h
    rcases ite_e h with ⟨c7, h⟩ | ⟨c7, h⟩
    · refine At.iload dX12_laysFar_9 rfl <| At.bipush dX12_laysFar_11 (by decide) <| At.icmp_ge_t (tgt := 46) dX12_laysFar_13 (by decide) c7 <| ?_
      obtain rfl := Option.some.inj h
      exact At.sub [0, 1] rfl K46
    · refine At.iload dX12_laysFar_9 rfl <| At.bipush dX12_laysFar_11 (by decide) <| At.icmp_ge_f (tgt := 46) dX12_laysFar_13 (by decide) c7 <| ?_
      refine At.aloadn dX12_laysFar_16 rfl <| At.getR fl_X12_42 sh_130 (le149 sh_130) rf_130_22 dX12_laysFar_17 <| At.iload dX12_laysFar_20 rfl <| At.iload dX12_laysFar_22 rfl <| At.iloadn dX12_laysFar_24 rfl <| At.iloadn dX12_laysFar_25 rfl <| ?_
      obtain ⟨q1, hq1, h⟩ := bnd_e h
      obtain ⟨q2, hj39, h⟩ := bnd_e h
      have K39 : At G mX12_laysFar 6 39 [(0, vr 130), (1, vi l1), (2, vi l2), (3, vi l3), (4, vi l4)] [vi q2, vi l4, vr 139] (mm S) 0 0 Φ := by
        obtain ⟨S4, hS4, g5, h⟩ := wrA_e h
        refine At.iast sh_139 (le149 sh_139) g5.1 g5.2 dX12_laysFar_39 <| At.nmS hS4 <| ?_
        obtain ⟨x6, hx6, h⟩ := lt_e h
        refine At.iinc (ls' := [(4, vi x6), (0, vr 130), (1, vi l1), (2, vi l2), (3, vi l3)]) dX12_laysFar_40 rfl (by decide) (by rw [hx6]; rfl) <| At.goto (tgt := 9) dX12_laysFar_43 (by decide) <| ?_
        exact At.sub [1, 2, 3, 4, 0] rfl (ih _ _ _ h K46)
      clear h; have h := hj39; clear hj39
      rcases ite_e h with ⟨c3, h⟩ | ⟨c3, h⟩
      · refine At.cS1 (av := [vi l4, vi l2, vi l3]) (rest := [vi l4, vr 139]) ms_X12_isGoal lk_X12_335 dX12_laysFar_26 rfl rfl (Nat.le_of_ble_eq_true rfl) (by decide) ⟨rfl, rfl⟩ (rX12_isGoal hq1) <| At.bifeq_f (tgt := 36) dX12_laysFar_29 (by decide) c3 <| ?_
        refine At.iconst dX12_laysFar_32 (by decide) <| At.goto (tgt := 39) dX12_laysFar_33 (by decide) <| ?_
        obtain rfl := Option.some.inj h
        exact At.sub [0, 1, 2, 3, 4] rfl K39
      · refine At.cS1 (av := [vi l4, vi l2, vi l3]) (rest := [vi l4, vr 139]) ms_X12_isGoal lk_X12_335 dX12_laysFar_26 rfl rfl (Nat.le_of_ble_eq_true rfl) (by decide) ⟨rfl, rfl⟩ (rX12_isGoal hq1) <| At.bifeq_t (tgt := 36) dX12_laysFar_29 (by decide) c3 <| ?_
        refine At.ldcw dX12_laysFar_36 ki_X12_328 (by decide) <| ?_
        obtain rfl := Option.some.inj h
        exact At.sub [0, 1, 2, 3, 4] rfl K39
set_option maxRecDepth 100000 in
set_option maxHeartbeats 4000000 in
theorem lX12_laysFar_L72 {G : GG} {Φ : Option VV → MM → Prop} {l1 : Int} {l5 : Int} : ∀ (n : Nat) (l4 : Int) (l6 : Int) (S : SS) (q : Int × SS), fX12_laysFar_L72 l1 l5 n l4 l6 S = some q → At G mX12_laysFar 6 134 [(0, vr 130), (1, vi l1), (4, vi q.1), (5, vi l5)] [] (mm q.2) 0 0 Φ → At G mX12_laysFar 6 72 [(0, vr 130), (1, vi l1), (4, vi l4), (5, vi l5), (6, vi l6)] [] (mm S) 0 0 Φ := by
  intro n
  induction n with
  | zero =>
    intro _ _ _ _ h
    cases h
  | succ n ih =>
    intro l4 l6 S q h K134
    unfold fX12_laysFar_L72 at h
    rcases ite_e h with ⟨c13, h⟩ | ⟨c13, h⟩
    · refine At.iload dX12_laysFar_72 rfl <| At.bipush dX12_laysFar_74 (by decide) <| At.icmp_ge_t (tgt := 134) dX12_laysFar_76 (by decide) c13 <| ?_
      obtain rfl := Option.some.inj h
      exact At.sub [0, 1, 2, 3] rfl K134
    · refine At.iload dX12_laysFar_72 rfl <| At.bipush dX12_laysFar_74 (by decide) <| At.icmp_ge_f (tgt := 134) dX12_laysFar_76 (by decide) c13 <| ?_
      refine At.aloadn dX12_laysFar_79 rfl <| At.getR fl_X12_42 sh_130 (le149 sh_130) rf_130_22 dX12_laysFar_80 <| At.iload dX12_laysFar_83 rfl <| ?_
      obtain ⟨v1, hv1, g2, h⟩ := rdA_e h
      rcases ite_e h with ⟨c12, h⟩ | ⟨c12, h⟩
      · refine At.iald sh_139 (le149 sh_139) g2.1 g2.2 dX12_laysFar_85 <| At.nm hv1 <| At.if_le_t (tgt := 134) dX12_laysFar_86 (by decide) c12 <| ?_
        obtain rfl := Option.some.inj h
        exact At.sub [0, 1, 2, 3] rfl K134
      · refine At.iald sh_139 (le149 sh_139) g2.1 g2.2 dX12_laysFar_85 <| At.nm hv1 <| At.if_le_f (tgt := 134) dX12_laysFar_86 (by decide) c12 <| ?_
        refine At.aloadn dX12_laysFar_89 rfl <| At.iload dX12_laysFar_90 rfl <| At.iload dX12_laysFar_92 rfl <| ?_
        obtain ⟨q3, hq3, h⟩ := bnd_e h
        refine At.cV1 (av := [vi l5, vi l6]) (rest := []) mv_X12_farBy lk_X12_339 dX12_laysFar_94 rfl rfl sh_130 (Nat.le_of_ble_eq_true rfl) (by decide) ⟨rfl, rfl⟩ (rX12_farBy hq3) <| At.aloadn dX12_laysFar_97 rfl <| At.getR fl_X12_42 sh_130 (le149 sh_130) rf_130_22 dX12_laysFar_98 <| At.iload dX12_laysFar_101 rfl <| ?_
        obtain ⟨v4, hv4, g5, h⟩ := rdA_e h
        obtain ⟨q6, hj128, h⟩ := bnd_e h
        have K128 : At G mX12_laysFar 6 128 [(0, vr 130), (1, vi l1), (4, vi q6.1), (5, vi l5), (6, vi l6)] [] (mm q6.2) 0 0 Φ := by
          obtain ⟨x11, hx11, h⟩ := lt_e h
          refine At.iinc (ls' := [(6, vi x11), (0, vr 130), (1, vi l1), (4, vi q6.1), (5, vi l5)]) dX12_laysFar_128 rfl (by decide) (by rw [hx11]; rfl) <| At.goto (tgt := 72) dX12_laysFar_131 (by decide) <| ?_
          exact At.sub [1, 2, 3, 4, 0] rfl (ih _ _ _ _ h K134)
        clear h; have h := hj128; clear hj128
        rcases ite_e h with ⟨c10, h⟩ | ⟨c10, h⟩
        · refine At.iald sh_139 (le149 sh_139) g5.1 g5.2 dX12_laysFar_103 <| At.nm hv4 <| At.icmp_lt_t (tgt := 110) dX12_laysFar_104 (by decide) c10 <| ?_
          refine At.aloadn dX12_laysFar_110 rfl <| At.getR fl_X12_42 sh_130 (le149 sh_130) rf_130_22 dX12_laysFar_111 <| At.iload dX12_laysFar_114 rfl <| At.aloadn dX12_laysFar_116 rfl <| At.iload dX12_laysFar_117 rfl <| At.iload dX12_laysFar_119 rfl <| ?_
          obtain ⟨q7, hq7, h⟩ := bnd_e h
          refine At.cV1 (av := [vi l5, vi l6]) (rest := [vi l5, vr 139]) mv_X12_farBy lk_X12_339 dX12_laysFar_121 rfl rfl sh_130 (Nat.le_of_ble_eq_true rfl) (by decide) ⟨rfl, rfl⟩ (rX12_farBy hq7) <| ?_
          obtain ⟨S8, hS8, g9, h⟩ := wrA_e h
          refine At.iast sh_139 (le149 sh_139) g9.1 g9.2 dX12_laysFar_124 <| At.nmS hS8 <| At.iconst dX12_laysFar_125 (by decide) <| At.istore (ls' := [(4, vi 1), (0, vr 130), (1, vi l1), (5, vi l5), (6, vi l6)]) dX12_laysFar_126 (by decide) rfl <| ?_
          obtain rfl := Option.some.inj h
          exact At.sub [1, 2, 0, 3, 4] rfl K128
        · refine At.iald sh_139 (le149 sh_139) g5.1 g5.2 dX12_laysFar_103 <| At.nm hv4 <| At.icmp_lt_f (tgt := 110) dX12_laysFar_104 (by decide) c10 <| ?_
          refine At.goto (tgt := 128) dX12_laysFar_107 (by decide) <| ?_
          obtain rfl := Option.some.inj h
          exact At.sub [0, 1, 2, 3, 4] rfl K128
set_option maxRecDepth 100000 in
set_option maxHeartbeats 4000000 in
theorem lX12_laysFar_L60 {G : GG} {Φ : Option VV → MM → Prop} {l1 : Int} : ∀ (n : Nat) (l4 : Int) (l5 : Int) (S : SS) (q : Int × SS), fX12_laysFar_L60 l1 n l4 l5 S = some q → At G mX12_laysFar 6 140 [(0, vr 130), (1, vi l1), (4, vi q.1)] [] (mm q.2) 0 0 Φ → At G mX12_laysFar 6 60 [(0, vr 130), (1, vi l1), (4, vi l4), (5, vi l5)] [] (mm S) 0 0 Φ := by
  intro n
  induction n with
  | zero =>
    intro _ _ _ _ h
    cases h
  | succ n ih =>
    intro l4 l5 S q h K140
    unfold fX12_laysFar_L60 at h
    refine At.iload dX12_laysFar_60 rfl <| At.aloadn dX12_laysFar_62 rfl <| ?_
    obtain ⟨q1, hq1, h⟩ := bnd_e h
    rcases ite_e h with ⟨c5, h⟩ | ⟨c5, h⟩
    · refine At.cV1 (av := []) (rest := [vi l5]) mv_X12_stands lk_X12_329 dX12_laysFar_63 rfl rfl sh_130 (Nat.le_of_ble_eq_true rfl) (by decide) ⟨rfl, rfl⟩ (rX12_stands hq1) <| At.icmp_ge_t (tgt := 140) dX12_laysFar_66 (by decide) c5 <| ?_
      obtain rfl := Option.some.inj h
      exact At.sub [0, 1, 2] rfl K140
    · refine At.cV1 (av := []) (rest := [vi l5]) mv_X12_stands lk_X12_329 dX12_laysFar_63 rfl rfl sh_130 (Nat.le_of_ble_eq_true rfl) (by decide) ⟨rfl, rfl⟩ (rX12_stands hq1) <| At.icmp_ge_f (tgt := 140) dX12_laysFar_66 (by decide) c5 <| ?_
      refine At.iconst dX12_laysFar_69 (by decide) <| At.istore (ls' := [(6, vi 0), (0, vr 130), (1, vi l1), (4, vi l4), (5, vi l5)]) dX12_laysFar_70 (by decide) rfl <| ?_
      obtain ⟨q2, ho3, h⟩ := bnd_e h
      refine At.sub [1, 2, 3, 4, 0] rfl (lX12_laysFar_L72 FU _ _ _ q2 ho3 ?_)
      obtain ⟨x4, hx4, h⟩ := lt_e h
      refine At.iinc (ls' := [(5, vi x4), (0, vr 130), (1, vi l1), (4, vi q2.1)]) dX12_laysFar_134 rfl (by decide) (by rw [hx4]; rfl) <| At.goto (tgt := 60) dX12_laysFar_137 (by decide) <| ?_
      exact At.sub [1, 2, 3, 0] rfl (ih _ _ _ _ h K140)
set_option maxRecDepth 100000 in
set_option maxHeartbeats 4000000 in
theorem lX12_laysFar_L49 {G : GG} {Φ : Option VV → MM → Prop} {l1 : Int} : ∀ (n : Nat) (l4 : Int) (S : SS) (q : SS), fX12_laysFar_L49 l1 n l4 S = some q → At G mX12_laysFar 6 143 [(0, vr 130), (1, vi l1)] [] (mm q) 0 0 Φ → At G mX12_laysFar 6 49 [(0, vr 130), (1, vi l1), (4, vi l4)] [] (mm S) 0 0 Φ := by
  intro n
  induction n with
  | zero =>
    intro _ _ _ h
    cases h
  | succ n ih =>
    intro l4 S q h K143
    unfold fX12_laysFar_L49 at h
    rcases ite_e h with ⟨c3, h⟩ | ⟨c3, h⟩
    · refine At.iload dX12_laysFar_49 rfl <| At.if_eq_t (tgt := 143) dX12_laysFar_51 (by decide) c3 <| ?_
      obtain rfl := Option.some.inj h
      exact At.sub [0, 1] rfl K143
    · refine At.iload dX12_laysFar_49 rfl <| At.if_eq_f (tgt := 143) dX12_laysFar_51 (by decide) c3 <| ?_
      refine At.iconst dX12_laysFar_54 (by decide) <| At.istore (ls' := [(4, vi 0), (0, vr 130), (1, vi l1)]) dX12_laysFar_55 (by decide) rfl <| At.iconst dX12_laysFar_57 (by decide) <| At.istore (ls' := [(5, vi 0), (4, vi 0), (0, vr 130), (1, vi l1)]) dX12_laysFar_58 (by decide) rfl <| ?_
      obtain ⟨q1, ho2, h⟩ := bnd_e h
      refine At.sub [2, 3, 1, 0] rfl (lX12_laysFar_L60 FU _ _ _ q1 ho2 ?_)
      refine At.goto (tgt := 49) dX12_laysFar_140 (by decide) <| ?_
      exact At.sub [0, 1, 2] rfl (ih _ _ _ h K143)
set_option maxRecDepth 100000 in
set_option maxHeartbeats 4000000 in
theorem rX12_laysFar {G : GG} {p1 : Int} {p2 : Int} {p3 : Int} {S : SS} {rr : (Int × SS)} (h : fX12_laysFar p1 p2 p3 S = some rr) : RD G mX12_laysFar 6 [vr 130, vi p1, vi p2, vi p3] S (some (vi rr.1)) rr.2 := by
  unfold fX12_laysFar at h
  refine Runs.of pl_X12 (Nat.le_of_ble_eq_true rfl) ?_
  show At G mX12_laysFar 6 0 [(0, vr 130), (1, vi p1), (2, vi p2), (3, vi p3)] [] (mm S) 0 0 (EQ (some (vi rr.1)) rr.2)
  refine At.aloadn dX12_laysFar_0 rfl <| At.iloadn dX12_laysFar_1 rfl <| At.iconst dX12_laysFar_2 (by decide) <| ?_
  obtain ⟨q1, hq1, h⟩ := bnd_e h
  refine At.cV0 (av := [vi p1, vi 0]) (rest := []) mv_X12_laysThen lk_X12_332 dX12_laysFar_3 rfl rfl sh_130 (Nat.le_of_ble_eq_true rfl) (by decide) ⟨rfl, rfl⟩ (rX12_laysThen hq1) <| At.iconst dX12_laysFar_6 (by decide) <| At.istore (ls' := [(4, vi 0), (0, vr 130), (1, vi p1), (2, vi p2), (3, vi p3)]) dX12_laysFar_7 (by decide) rfl <| ?_
  obtain ⟨q2, ho3, h⟩ := bnd_e h
  refine At.sub [1, 2, 3, 4, 0] rfl (lX12_laysFar_L9 FU _ _ q2 ho3 ?_)
  refine At.iconst dX12_laysFar_46 (by decide) <| At.istore (ls' := [(4, vi 1), (0, vr 130), (1, vi p1)]) dX12_laysFar_47 (by decide) rfl <| ?_
  obtain ⟨q4, ho5, h⟩ := bnd_e h
  refine At.sub [1, 2, 0] rfl (lX12_laysFar_L49 FU _ _ q4 ho5 ?_)
  refine At.aloadn dX12_laysFar_143 rfl <| At.getR fl_X12_42 sh_130 (le149 sh_130) rf_130_22 dX12_laysFar_144 <| At.aloadn dX12_laysFar_147 rfl <| At.iloadn dX12_laysFar_148 rfl <| ?_
  obtain ⟨q6, hq6, h⟩ := bnd_e h
  refine At.cV1 (av := [vi p1]) (rest := [vr 139]) mv_X12_standOf lk_X12_239 dX12_laysFar_149 rfl rfl sh_130 (Nat.le_of_ble_eq_true rfl) (by decide) ⟨rfl, rfl⟩ (rX12_standOf hq6) <| ?_
  obtain ⟨v7, hv7, g8, h⟩ := rdA_e h
  refine At.iald sh_139 (le149 sh_139) g8.1 g8.2 dX12_laysFar_152 <| At.nm hv7 <| ?_
  obtain rfl := Option.some.inj h
  exact At.iret rfl (Nat.zero_le _) (Nat.zero_le _) ⟨rfl, rfl⟩ dX12_laysFar_153
def fX12_toldFar (p0 : Int) : Option Int :=
  if p0 = 268435456 then (
    some ((-1))
  ) else (
    some p0
  )
set_option maxRecDepth 100000 in
set_option maxHeartbeats 4000000 in
theorem rX12_toldFar {G : GG} {p0 : Int} {S : SS} {rr : Int} (h : fX12_toldFar p0 = some rr) : RD G mX12_toldFar 1 [vi p0] S (some (vi rr)) S := by
  unfold fX12_toldFar at h
  refine Runs.of pl_X12 (Nat.le_of_ble_eq_true rfl) ?_
  show At G mX12_toldFar 1 0 [(0, vi p0)] [] (mm S) 0 0 (EQ (some (vi rr)) S)
  rcases ite_e h with ⟨c1, h⟩ | ⟨c1, h⟩
  · refine At.iloadn dX12_toldFar_0 rfl <| At.ldcw dX12_toldFar_1 ki_X12_328 (by decide) <| At.icmp_ne_f (tgt := 11) dX12_toldFar_4 (by decide) c1 <| ?_
    refine At.iconst dX12_toldFar_7 (by decide) <| At.goto (tgt := 12) dX12_toldFar_8 (by decide) <| ?_
    obtain rfl := Option.some.inj h
    exact At.iret rfl (Nat.zero_le _) (Nat.zero_le _) ⟨rfl, rfl⟩ dX12_toldFar_12
  · refine At.iloadn dX12_toldFar_0 rfl <| At.ldcw dX12_toldFar_1 ki_X12_328 (by decide) <| At.icmp_ne_t (tgt := 11) dX12_toldFar_4 (by decide) c1 <| ?_
    refine At.iloadn dX12_toldFar_11 rfl <| ?_
    obtain rfl := Option.some.inj h
    exact At.iret rfl (Nat.zero_le _) (Nat.zero_le _) ⟨rfl, rfl⟩ dX12_toldFar_12
def fX12_noComing (p1 : Int) (p2 : Int) (p3 : Int) (S : SS) : Option Int :=
  Option.bind (fX12_isGoer p1 S) fun q1 =>
  if q1 = true then (
    Option.bind (fX12_isCorner p2 S) fun q2 =>
    if q2 = true then (
      if p3 = ((-1)) then (
        some 0
      ) else (
        Option.bind (fX12_isYear p3) fun q3 =>
        if q3 = true then (
          some 0
        ) else (
          some ((-3))
        )
      )
    ) else (
      some ((-2))
    )
  ) else (
    some ((-2))
  )
set_option maxRecDepth 100000 in
set_option maxHeartbeats 4000000 in
theorem rX12_noComing {G : GG} {p1 : Int} {p2 : Int} {p3 : Int} {S : SS} {rr : Int} (h : fX12_noComing p1 p2 p3 S = some rr) : RD G mX12_noComing 3 [vr 130, vi p1, vi p2, vi p3] S (some (vi rr)) S := by
  unfold fX12_noComing at h
  refine Runs.of pl_X12 (Nat.le_of_ble_eq_true rfl) ?_
  show At G mX12_noComing 3 0 [(0, vr 130), (1, vi p1), (2, vi p2), (3, vi p3)] [] (mm S) 0 0 (EQ (some (vi rr)) S)
  refine At.aloadn dX12_noComing_0 rfl <| At.iloadn dX12_noComing_1 rfl <| At.i2l dX12_noComing_2 <| ?_
  obtain ⟨q1, hq1, h⟩ := bnd_e h
  rcases ite_e h with ⟨c7, h⟩ | ⟨c7, h⟩
  · refine At.cV1 (av := [vl p1]) (rest := []) mv_X12_isGoer lk_X12_233 dX12_noComing_3 rfl rfl sh_130 (Nat.le_of_ble_eq_true rfl) (by decide) ⟨rfl, rfl⟩ (rX12_isGoer hq1) <| At.bifeq_f (tgt := 18) dX12_noComing_6 (by decide) c7 <| ?_
    refine At.aloadn dX12_noComing_9 rfl <| At.iloadn dX12_noComing_10 rfl <| At.i2l dX12_noComing_11 <| ?_
    obtain ⟨q2, hq2, h⟩ := bnd_e h
    rcases ite_e h with ⟨c6, h⟩ | ⟨c6, h⟩
    · refine At.cV1 (av := [vl p2]) (rest := []) mv_X12_isCorner lk_X12_268 dX12_noComing_12 rfl rfl sh_130 (Nat.le_of_ble_eq_true rfl) (by decide) ⟨rfl, rfl⟩ (rX12_isCorner hq2) <| At.bifne_t (tgt := 23) dX12_noComing_15 (by decide) c6 <| ?_
      rcases ite_e h with ⟨c5, h⟩ | ⟨c5, h⟩
      · refine At.iloadn dX12_noComing_23 rfl <| At.iconst dX12_noComing_24 (by decide) <| At.icmp_eq_t (tgt := 36) dX12_noComing_25 (by decide) c5 <| ?_
        refine At.iconst dX12_noComing_36 (by decide) <| At.goto (tgt := 42) dX12_noComing_37 (by decide) <| ?_
        obtain rfl := Option.some.inj h
        exact At.iret rfl (Nat.zero_le _) (Nat.zero_le _) ⟨rfl, rfl⟩ dX12_noComing_42
      · refine At.iloadn dX12_noComing_23 rfl <| At.iconst dX12_noComing_24 (by decide) <| At.icmp_eq_f (tgt := 36) dX12_noComing_25 (by decide) c5 <| ?_
        refine At.iloadn dX12_noComing_28 rfl <| At.i2l dX12_noComing_29 <| ?_
        obtain ⟨q3, hq3, h⟩ := bnd_e h
        rcases ite_e h with ⟨c4, h⟩ | ⟨c4, h⟩
        · refine At.cS1 (av := [vl p3]) (rest := []) ms_X12_isYear lk_X12_229 dX12_noComing_30 rfl rfl (Nat.le_of_ble_eq_true rfl) (by decide) ⟨rfl, rfl⟩ (rX12_isYear hq3) <| At.bifeq_f (tgt := 40) dX12_noComing_33 (by decide) c4 <| ?_
          refine At.iconst dX12_noComing_36 (by decide) <| At.goto (tgt := 42) dX12_noComing_37 (by decide) <| ?_
          obtain rfl := Option.some.inj h
          exact At.iret rfl (Nat.zero_le _) (Nat.zero_le _) ⟨rfl, rfl⟩ dX12_noComing_42
        · refine At.cS1 (av := [vl p3]) (rest := []) ms_X12_isYear lk_X12_229 dX12_noComing_30 rfl rfl (Nat.le_of_ble_eq_true rfl) (by decide) ⟨rfl, rfl⟩ (rX12_isYear hq3) <| At.bifeq_t (tgt := 40) dX12_noComing_33 (by decide) c4 <| ?_
          refine At.bipush dX12_noComing_40 (by decide) <| ?_
          obtain rfl := Option.some.inj h
          exact At.iret rfl (Nat.zero_le _) (Nat.zero_le _) ⟨rfl, rfl⟩ dX12_noComing_42
    · refine At.cV1 (av := [vl p2]) (rest := []) mv_X12_isCorner lk_X12_268 dX12_noComing_12 rfl rfl sh_130 (Nat.le_of_ble_eq_true rfl) (by decide) ⟨rfl, rfl⟩ (rX12_isCorner hq2) <| At.bifne_f (tgt := 23) dX12_noComing_15 (by decide) c6 <| ?_
      refine At.bipush dX12_noComing_18 (by decide) <| At.goto (tgt := 42) dX12_noComing_20 (by decide) <| ?_
      obtain rfl := Option.some.inj h
      exact At.iret rfl (Nat.zero_le _) (Nat.zero_le _) ⟨rfl, rfl⟩ dX12_noComing_42
  · refine At.cV1 (av := [vl p1]) (rest := []) mv_X12_isGoer lk_X12_233 dX12_noComing_3 rfl rfl sh_130 (Nat.le_of_ble_eq_true rfl) (by decide) ⟨rfl, rfl⟩ (rX12_isGoer hq1) <| At.bifeq_t (tgt := 18) dX12_noComing_6 (by decide) c7 <| ?_
    refine At.bipush dX12_noComing_18 (by decide) <| At.goto (tgt := 42) dX12_noComing_20 (by decide) <| ?_
    obtain rfl := Option.some.inj h
    exact At.iret rfl (Nat.zero_le _) (Nat.zero_le _) ⟨rfl, rfl⟩ dX12_noComing_42
def fX12_streetAt_L33 (l2 : Int) (l3 : Int) (l4 : Int) (S : SS) : Nat → Int → Option (Int)
  | 0, _ => none
  | n + 1, l5 =>
    Option.bind (fX12_farBy l3 l5 S) fun q1 =>
    rdA S 139 120 l3 fun v2 =>
    if q1 = v2 then (
      some l5
    ) else (
      lt (w32 (l5 + 1)) fun x4 =>
      fX12_streetAt_L33 l2 l3 l4 S n x4
    )
def fX12_streetAt_L9 (l2 : Int) (S : SS) : Nat → Int → Int → Option (Nat × Int)
  | 0, _, _ => none
  | n + 1, l3, l4 =>
    rdA S 139 120 l3 fun v1 =>
    if v1 ≤ 0 then (
      some (1, 0)
    ) else (
      rdA S 139 120 l3 fun v3 =>
      if 268435456 ≤ v3 then (
        some (1, 0)
      ) else (
        Option.bind (fX12_streetAt_L33 l2 l3 l4 S FU 0) fun q5 =>
        if l4 = l2 then (
          some (0, q5)
        ) else (
          rdA S 138 960 (w32 ((w32 (8 * l3)) + q5)) fun v7 =>
          lt (w32 (l4 + 1)) fun x9 =>
          fX12_streetAt_L9 l2 S n v7 x9
        )
      )
    )
def fX12_streetAt (p1 : Int) (p2 : Int) (S : SS) : Option Int :=
  Option.bind (fX12_standOf p1 S) fun q1 =>
  Option.bind (fX12_streetAt_L9 p2 S FU q1 0) fun q2 =>
  if q2.1 = 0 then (
    some q2.2
  ) else (
    some ((-1))
  )
set_option maxRecDepth 100000 in
set_option maxHeartbeats 4000000 in
theorem lX12_streetAt_L33 {G : GG} {Φ : Option VV → MM → Prop} {l2 : Int} {l3 : Int} {l4 : Int} {S : SS} : ∀ (n : Nat) (l5 : Int) (q : Int), fX12_streetAt_L33 l2 l3 l4 S n l5 = some q → At G mX12_streetAt 2 55 [(0, vr 130), (2, vi l2), (3, vi l3), (4, vi l4), (5, vi q)] [] (mm S) 0 0 Φ → At G mX12_streetAt 2 33 [(0, vr 130), (2, vi l2), (3, vi l3), (4, vi l4), (5, vi l5)] [] (mm S) 0 0 Φ := by
  intro n
  induction n with
  | zero =>
    intro _ _ h
    cases h
  | succ n ih =>
    intro l5 q h K55
    unfold fX12_streetAt_L33 at h
    refine At.aloadn dX12_streetAt_33 rfl <| At.iloadn dX12_streetAt_34 rfl <| At.iload dX12_streetAt_35 rfl <| ?_
    obtain ⟨q1, hq1, h⟩ := bnd_e h
    refine At.cV1 (av := [vi l3, vi l5]) (rest := []) mv_X12_farBy lk_X12_339 dX12_streetAt_37 rfl rfl sh_130 (Nat.le_of_ble_eq_true rfl) (by decide) ⟨rfl, rfl⟩ (rX12_farBy hq1) <| At.aloadn dX12_streetAt_40 rfl <| At.getR fl_X12_42 sh_130 (le149 sh_130) rf_130_22 dX12_streetAt_41 <| At.iloadn dX12_streetAt_44 rfl <| ?_
    obtain ⟨v2, hv2, g3, h⟩ := rdA_e h
    rcases ite_e h with ⟨c5, h⟩ | ⟨c5, h⟩
    · refine At.iald sh_139 (le149 sh_139) g3.1 g3.2 dX12_streetAt_45 <| At.nm hv2 <| At.icmp_eq_t (tgt := 55) dX12_streetAt_46 (by decide) c5 <| ?_
      obtain rfl := Option.some.inj h
      exact At.sub [0, 1, 2, 3, 4] rfl K55
    · refine At.iald sh_139 (le149 sh_139) g3.1 g3.2 dX12_streetAt_45 <| At.nm hv2 <| At.icmp_eq_f (tgt := 55) dX12_streetAt_46 (by decide) c5 <| ?_
      obtain ⟨x4, hx4, h⟩ := lt_e h
      refine At.iinc (ls' := [(5, vi x4), (0, vr 130), (2, vi l2), (3, vi l3), (4, vi l4)]) dX12_streetAt_49 rfl (by decide) (by rw [hx4]; rfl) <| At.goto (tgt := 33) dX12_streetAt_52 (by decide) <| ?_
      exact At.sub [1, 2, 3, 4, 0] rfl (ih _ _ h K55)
set_option maxRecDepth 100000 in
set_option maxHeartbeats 4000000 in
theorem lX12_streetAt_L9 {G : GG} {Φ : Option VV → MM → Prop} {l2 : Int} {S : SS} : ∀ (n : Nat) (l3 : Int) (l4 : Int) (q : Nat × Int), fX12_streetAt_L9 l2 S n l3 l4 = some q → (q.1 = 0 → At G mX12_streetAt 2 61 [(5, vi q.2)] [] (mm S) 0 0 Φ) → (q.1 = 1 → At G mX12_streetAt 2 83 [] [] (mm S) 0 0 Φ) → At G mX12_streetAt 2 9 [(0, vr 130), (2, vi l2), (3, vi l3), (4, vi l4)] [] (mm S) 0 0 Φ := by
  intro n
  induction n with
  | zero =>
    intro _ _ _ h
    cases h
  | succ n ih =>
    intro l3 l4 q h K61 K83
    unfold fX12_streetAt_L9 at h
    refine At.aloadn dX12_streetAt_9 rfl <| At.getR fl_X12_42 sh_130 (le149 sh_130) rf_130_22 dX12_streetAt_10 <| At.iloadn dX12_streetAt_13 rfl <| ?_
    obtain ⟨v1, hv1, g2, h⟩ := rdA_e h
    rcases ite_e h with ⟨c12, h⟩ | ⟨c12, h⟩
    · refine At.iald sh_139 (le149 sh_139) g2.1 g2.2 dX12_streetAt_14 <| At.nm hv1 <| At.if_le_t (tgt := 83) dX12_streetAt_15 (by decide) c12 <| ?_
      obtain rfl := Option.some.inj h
      exact At.sub [] rfl (K83 rfl)
    · refine At.iald sh_139 (le149 sh_139) g2.1 g2.2 dX12_streetAt_14 <| At.nm hv1 <| At.if_le_f (tgt := 83) dX12_streetAt_15 (by decide) c12 <| ?_
      refine At.aloadn dX12_streetAt_18 rfl <| At.getR fl_X12_42 sh_130 (le149 sh_130) rf_130_22 dX12_streetAt_19 <| At.iloadn dX12_streetAt_22 rfl <| ?_
      obtain ⟨v3, hv3, g4, h⟩ := rdA_e h
      rcases ite_e h with ⟨c11, h⟩ | ⟨c11, h⟩
      · refine At.iald sh_139 (le149 sh_139) g4.1 g4.2 dX12_streetAt_23 <| At.nm hv3 <| At.ldcw dX12_streetAt_24 ki_X12_328 (by decide) <| At.icmp_ge_t (tgt := 83) dX12_streetAt_27 (by decide) c11 <| ?_
        obtain rfl := Option.some.inj h
        exact At.sub [] rfl (K83 rfl)
      · refine At.iald sh_139 (le149 sh_139) g4.1 g4.2 dX12_streetAt_23 <| At.nm hv3 <| At.ldcw dX12_streetAt_24 ki_X12_328 (by decide) <| At.icmp_ge_f (tgt := 83) dX12_streetAt_27 (by decide) c11 <| ?_
        refine At.iconst dX12_streetAt_30 (by decide) <| At.istore (ls' := [(5, vi 0), (0, vr 130), (2, vi l2), (3, vi l3), (4, vi l4)]) dX12_streetAt_31 (by decide) rfl <| ?_
        obtain ⟨q5, ho6, h⟩ := bnd_e h
        refine At.sub [1, 2, 3, 4, 0] rfl (lX12_streetAt_L33 FU _ q5 ho6 ?_)
        rcases ite_e h with ⟨c10, h⟩ | ⟨c10, h⟩
        · refine At.iload dX12_streetAt_55 rfl <| At.iloadn dX12_streetAt_57 rfl <| At.icmp_ne_f (tgt := 64) dX12_streetAt_58 (by decide) c10 <| ?_
          obtain rfl := Option.some.inj h
          exact At.sub [4] rfl (K61 rfl)
        · refine At.iload dX12_streetAt_55 rfl <| At.iloadn dX12_streetAt_57 rfl <| At.icmp_ne_t (tgt := 64) dX12_streetAt_58 (by decide) c10 <| ?_
          refine At.aloadn dX12_streetAt_64 rfl <| At.getR fl_X12_39 sh_130 (le149 sh_130) rf_130_21 dX12_streetAt_65 <| At.bipush dX12_streetAt_68 (by decide) <| At.iloadn dX12_streetAt_70 rfl <| At.imul dX12_streetAt_71 <| At.iload dX12_streetAt_72 rfl <| At.iadd dX12_streetAt_74 <| ?_
          obtain ⟨v7, hv7, g8, h⟩ := rdA_e h
          refine At.iald sh_138 (le149 sh_138) g8.1 g8.2 dX12_streetAt_75 <| At.nm hv7 <| At.istoren (ls' := [(3, vi v7), (0, vr 130), (2, vi l2), (4, vi l4), (5, vi q5)]) dX12_streetAt_76 (by decide) rfl <| ?_
          obtain ⟨x9, hx9, h⟩ := lt_e h
          refine At.iinc (ls' := [(4, vi x9), (3, vi v7), (0, vr 130), (2, vi l2), (5, vi q5)]) dX12_streetAt_77 rfl (by decide) (by rw [hx9]; rfl) <| At.goto (tgt := 9) dX12_streetAt_80 (by decide) <| ?_
          exact At.sub [2, 3, 1, 0] rfl (ih _ _ _ h K61 K83)
set_option maxRecDepth 100000 in
set_option maxHeartbeats 4000000 in
theorem rX12_streetAt {G : GG} {p1 : Int} {p2 : Int} {S : SS} {rr : Int} (h : fX12_streetAt p1 p2 S = some rr) : RD G mX12_streetAt 2 [vr 130, vi p1, vi p2] S (some (vi rr)) S := by
  unfold fX12_streetAt at h
  refine Runs.of pl_X12 (Nat.le_of_ble_eq_true rfl) ?_
  show At G mX12_streetAt 2 0 [(0, vr 130), (1, vi p1), (2, vi p2)] [] (mm S) 0 0 (EQ (some (vi rr)) S)
  refine At.aloadn dX12_streetAt_0 rfl <| At.iloadn dX12_streetAt_1 rfl <| ?_
  obtain ⟨q1, hq1, h⟩ := bnd_e h
  refine At.cV1 (av := [vi p1]) (rest := []) mv_X12_standOf lk_X12_239 dX12_streetAt_2 rfl rfl sh_130 (Nat.le_of_ble_eq_true rfl) (by decide) ⟨rfl, rfl⟩ (rX12_standOf hq1) <| At.istoren (ls' := [(3, vi q1), (0, vr 130), (1, vi p1), (2, vi p2)]) dX12_streetAt_5 (by decide) rfl <| At.iconst dX12_streetAt_6 (by decide) <| At.istore (ls' := [(4, vi 0), (3, vi q1), (0, vr 130), (1, vi p1), (2, vi p2)]) dX12_streetAt_7 (by decide) rfl <| ?_
  obtain ⟨q2, ho3, h⟩ := bnd_e h
  refine At.sub [2, 4, 1, 0] rfl (lX12_streetAt_L9 FU _ _ q2 ho3 (fun hq => ?_) (fun hq => ?_))
  · rw [if_pos hq] at h
    refine At.iload dX12_streetAt_61 rfl <| ?_
    obtain rfl := Option.some.inj h
    exact At.iret rfl (Nat.zero_le _) (Nat.zero_le _) ⟨rfl, rfl⟩ dX12_streetAt_63
  · rw [if_neg (by omega)] at h
    refine At.iconst dX12_streetAt_83 (by decide) <| ?_
    obtain rfl := Option.some.inj h
    exact At.iret rfl (Nat.zero_le _) (Nat.zero_le _) ⟨rfl, rfl⟩ dX12_streetAt_84
def fX12_soonest (p1 : Int) (p2 : Int) (p3 : Int) (S : SS) : Option (Int × SS) :=
  lt (up S 130 0 0) fun S1 =>
  Option.bind (fX12_noComing p1 p2 p3 S1) fun q2 =>
  if q2 = 0 then (
    Option.bind (fX12_laysFar p1 p2 p3 S1) fun q3 =>
    Option.bind (fX12_toldFar q3.1) fun q4 =>
    some (q4, q3.2)
  ) else (
    some (q2, S1)
  )
set_option maxRecDepth 100000 in
set_option maxHeartbeats 4000000 in
theorem rX12_soonest {G : GG} {p1 : Int} {p2 : Int} {p3 : Int} {S : SS} {rr : (Int × SS)} (h : fX12_soonest p1 p2 p3 S = some rr) : RD G mX12_soonest 7 [vr 130, vi p1, vi p2, vi p3] S (some (vi rr.1)) rr.2 := by
  unfold fX12_soonest at h
  refine Runs.of pl_X12 (Nat.le_of_ble_eq_true rfl) ?_
  show At G mX12_soonest 7 0 [(0, vr 130), (1, vi p1), (2, vi p2), (3, vi p3)] [] (mm S) 0 0 (EQ (some (vi rr.1)) rr.2)
  refine At.aloadn dX12_soonest_0 rfl <| At.iconst dX12_soonest_1 (by decide) <| ?_
  obtain ⟨S1, hS1, h⟩ := lt_e h
  refine At.putI fw_X12_1 sh_130 (le149 sh_130) dX12_soonest_2 <| At.nmS hS1 <| At.aloadn dX12_soonest_5 rfl <| At.iloadn dX12_soonest_6 rfl <| At.iloadn dX12_soonest_7 rfl <| At.iloadn dX12_soonest_8 rfl <| ?_
  obtain ⟨q2, hq2, h⟩ := bnd_e h
  rcases ite_e h with ⟨c5, h⟩ | ⟨c5, h⟩
  · refine At.cV1 (av := [vi p1, vi p2, vi p3]) (rest := []) mv_X12_noComing lk_X12_342 dX12_soonest_9 rfl rfl sh_130 (Nat.le_of_ble_eq_true rfl) (by decide) ⟨rfl, rfl⟩ (rX12_noComing hq2) <| At.istore (ls' := [(4, vi q2), (0, vr 130), (1, vi p1), (2, vi p2), (3, vi p3)]) dX12_soonest_12 (by decide) rfl <| At.iload dX12_soonest_14 rfl <| At.if_eq_t (tgt := 24) dX12_soonest_16 (by decide) c5 <| ?_
    refine At.aloadn dX12_soonest_24 rfl <| At.iloadn dX12_soonest_25 rfl <| At.iloadn dX12_soonest_26 rfl <| At.iloadn dX12_soonest_27 rfl <| ?_
    obtain ⟨q3, hq3, h⟩ := bnd_e h
    refine At.cV1 (av := [vi p1, vi p2, vi p3]) (rest := []) mv_X12_laysFar lk_X12_345 dX12_soonest_28 rfl rfl sh_130 (Nat.le_of_ble_eq_true rfl) (by decide) ⟨rfl, rfl⟩ (rX12_laysFar hq3) <| ?_
    obtain ⟨q4, hq4, h⟩ := bnd_e h
    refine At.cS1 (av := [vi q3.1]) (rest := []) ms_X12_toldFar lk_X12_348 dX12_soonest_31 rfl rfl (Nat.le_of_ble_eq_true rfl) (by decide) ⟨rfl, rfl⟩ (rX12_toldFar hq4) <| ?_
    obtain rfl := Option.some.inj h
    exact At.iret rfl (Nat.zero_le _) (Nat.zero_le _) ⟨rfl, rfl⟩ dX12_soonest_34
  · refine At.cV1 (av := [vi p1, vi p2, vi p3]) (rest := []) mv_X12_noComing lk_X12_342 dX12_soonest_9 rfl rfl sh_130 (Nat.le_of_ble_eq_true rfl) (by decide) ⟨rfl, rfl⟩ (rX12_noComing hq2) <| At.istore (ls' := [(4, vi q2), (0, vr 130), (1, vi p1), (2, vi p2), (3, vi p3)]) dX12_soonest_12 (by decide) rfl <| At.iload dX12_soonest_14 rfl <| At.if_eq_f (tgt := 24) dX12_soonest_16 (by decide) c5 <| ?_
    refine At.iload dX12_soonest_19 rfl <| At.goto (tgt := 34) dX12_soonest_21 (by decide) <| ?_
    obtain rfl := Option.some.inj h
    exact At.iret rfl (Nat.zero_le _) (Nat.zero_le _) ⟨rfl, rfl⟩ dX12_soonest_34
def fX12_way (p1 : Int) (p2 : Int) (p3 : Int) (p4 : Int) (S : SS) : Option (Int × SS) :=
  lt (up S 130 0 0) fun S1 =>
  Option.bind (fX12_noComing p1 p2 p3 S1) fun q2 =>
  if q2 = 0 then (
    if 0 ≤ p4 then (
      Option.bind (fX12_laysFar p1 p2 p3 S1) fun q3 =>
      Option.bind (fX12_streetAt p1 p4 q3.2) fun q4 =>
      some (q4, q3.2)
    ) else (
      some ((-3), S1)
    )
  ) else (
    some (q2, S1)
  )
set_option maxRecDepth 100000 in
set_option maxHeartbeats 4000000 in
theorem rX12_way {G : GG} {p1 : Int} {p2 : Int} {p3 : Int} {p4 : Int} {S : SS} {rr : (Int × SS)} (h : fX12_way p1 p2 p3 p4 S = some rr) : RD G mX12_way 7 [vr 130, vi p1, vi p2, vi p3, vi p4] S (some (vi rr.1)) rr.2 := by
  unfold fX12_way at h
  refine Runs.of pl_X12 (Nat.le_of_ble_eq_true rfl) ?_
  show At G mX12_way 7 0 [(0, vr 130), (1, vi p1), (2, vi p2), (3, vi p3), (4, vi p4)] [] (mm S) 0 0 (EQ (some (vi rr.1)) rr.2)
  refine At.aloadn dX12_way_0 rfl <| At.iconst dX12_way_1 (by decide) <| ?_
  obtain ⟨S1, hS1, h⟩ := lt_e h
  refine At.putI fw_X12_1 sh_130 (le149 sh_130) dX12_way_2 <| At.nmS hS1 <| At.aloadn dX12_way_5 rfl <| At.iloadn dX12_way_6 rfl <| At.iloadn dX12_way_7 rfl <| At.iloadn dX12_way_8 rfl <| ?_
  obtain ⟨q2, hq2, h⟩ := bnd_e h
  rcases ite_e h with ⟨c6, h⟩ | ⟨c6, h⟩
  · refine At.cV1 (av := [vi p1, vi p2, vi p3]) (rest := []) mv_X12_noComing lk_X12_342 dX12_way_9 rfl rfl sh_130 (Nat.le_of_ble_eq_true rfl) (by decide) ⟨rfl, rfl⟩ (rX12_noComing hq2) <| At.istore (ls' := [(5, vi q2), (0, vr 130), (1, vi p1), (2, vi p2), (3, vi p3), (4, vi p4)]) dX12_way_12 (by decide) rfl <| At.iload dX12_way_14 rfl <| At.if_eq_t (tgt := 22) dX12_way_16 (by decide) c6 <| ?_
    rcases ite_e h with ⟨c5, h⟩ | ⟨c5, h⟩
    · refine At.iload dX12_way_22 rfl <| At.if_ge_t (tgt := 30) dX12_way_24 (by decide) c5 <| ?_
      refine At.aloadn dX12_way_30 rfl <| At.iloadn dX12_way_31 rfl <| At.iloadn dX12_way_32 rfl <| At.iloadn dX12_way_33 rfl <| ?_
      obtain ⟨q3, hq3, h⟩ := bnd_e h
      refine At.cV1 (av := [vi p1, vi p2, vi p3]) (rest := []) mv_X12_laysFar lk_X12_345 dX12_way_34 rfl rfl sh_130 (Nat.le_of_ble_eq_true rfl) (by decide) ⟨rfl, rfl⟩ (rX12_laysFar hq3) <| At.pop rfl dX12_way_37 <| At.aloadn dX12_way_38 rfl <| At.iloadn dX12_way_39 rfl <| At.iload dX12_way_40 rfl <| ?_
      obtain ⟨q4, hq4, h⟩ := bnd_e h
      refine At.cV1 (av := [vi p1, vi p4]) (rest := []) mv_X12_streetAt lk_X12_351 dX12_way_42 rfl rfl sh_130 (Nat.le_of_ble_eq_true rfl) (by decide) ⟨rfl, rfl⟩ (rX12_streetAt hq4) <| ?_
      obtain rfl := Option.some.inj h
      exact At.iret rfl (Nat.zero_le _) (Nat.zero_le _) ⟨rfl, rfl⟩ dX12_way_45
    · refine At.iload dX12_way_22 rfl <| At.if_ge_f (tgt := 30) dX12_way_24 (by decide) c5 <| ?_
      refine At.bipush dX12_way_27 (by decide) <| ?_
      obtain rfl := Option.some.inj h
      exact At.iret rfl (Nat.zero_le _) (Nat.zero_le _) ⟨rfl, rfl⟩ dX12_way_29
  · refine At.cV1 (av := [vi p1, vi p2, vi p3]) (rest := []) mv_X12_noComing lk_X12_342 dX12_way_9 rfl rfl sh_130 (Nat.le_of_ble_eq_true rfl) (by decide) ⟨rfl, rfl⟩ (rX12_noComing hq2) <| At.istore (ls' := [(5, vi q2), (0, vr 130), (1, vi p1), (2, vi p2), (3, vi p3), (4, vi p4)]) dX12_way_12 (by decide) rfl <| At.iload dX12_way_14 rfl <| At.if_eq_f (tgt := 22) dX12_way_16 (by decide) c6 <| ?_
    refine At.iload dX12_way_19 rfl <| ?_
    obtain rfl := Option.some.inj h
    exact At.iret rfl (Nat.zero_le _) (Nat.zero_le _) ⟨rfl, rfl⟩ dX12_way_21
