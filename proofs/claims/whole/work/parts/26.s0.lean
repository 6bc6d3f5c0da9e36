def fX3_wordFrom_L10 (l1 : Int) (l2 : Int) (S : SS) : Nat → Int → Int → Int → Option (Nat × Int)
  | 0, _, _, _ => none
  | n + 1, l3, l4, l5 =>
    if 94 ≤ l5 then (
      some (1, 0)
    ) else (
      rdX 0 l5 fun v1 =>
      if v1 = 32 then (
        if l4 = (w32 (l2 - l1)) then (
          some (0, l3)
        ) else (
          lt (w32 (l3 + 1)) fun x3 =>
          lt (w32 (l5 + 1)) fun x4 =>
          fX3_wordFrom_L10 l1 l2 S n x3 0 x4
        )
      ) else (
        Option.bind (
          if l4 = ((-1)) then (
            lt ((-1)) fun x7 =>
            some x7
          ) else (
            if l2 ≤ (w32 (l1 + l4)) then (
              lt ((-1)) fun x8 =>
              some x8
            ) else (
              rdA S 20 900 (w32 (l1 + l4)) fun v9 =>
              if v9 = v1 then (
                lt (w32 (l4 + 1)) fun x11 =>
                some x11
              ) else (
                lt ((-1)) fun x12 =>
                some x12
              )
            )
          )
          : Option (Int)) fun q6 =>
        lt (w32 (l5 + 1)) fun x16 =>
        fX3_wordFrom_L10 l1 l2 S n l3 q6 x16
      )
    )
def fX3_wordFrom (p1 : Int) (p2 : Int) (S : SS) : Option Int :=
  Option.bind (fX3_wordFrom_L10 p1 p2 S FU 1000 0 0) fun q1 =>
  if q1.1 = 0 then (
    some q1.2
  ) else (
    some 257
  )
set_option maxRecDepth 100000 in
set_option maxHeartbeats 4000000 in
theorem lX3_wordFrom_L10 {G : GG} {Φ : Option VV → MM → Prop} {l1 : Int} {l2 : Int} {S : SS} : ∀ (n : Nat) (l3 : Int) (l4 : Int) (l5 : Int) (q : Nat × Int), fX3_wordFrom_L10 l1 l2 S n l3 l4 l5 = some q → (q.1 = 0 → At G mX3_wordFrom 6 44 [(3, vi q.2)] [] (mm S) 0 0 Φ) → (q.1 = 1 → At G mX3_wordFrom 6 98 [] [] (mm S) 0 0 Φ) → At G mX3_wordFrom 6 10 [(0, vr 19), (1, vi l1), (2, vi l2), (3, vi l3), (4, vi l4), (5, vi l5)] [] (mm S) 0 0 Φ := by
  intro n
  induction n with
  | zero =>
    intro _ _ _ _ h
    cases h
  | succ n ih =>
    intro l3 l4 l5 q h K44 K98
    unfold fX3_wordFrom_L10 at h
    refine At.iload dX3_wordFrom_10 rfl <| At.ldcS st_X3_97 dX3_wordFrom_12 <| ?_
    rcases ite_e h with ⟨c18, h⟩ | ⟨c18, h⟩
    · refine At.slen0 ln_X3_99 (Nat.le_of_ble_eq_true rfl) (by decide) dX3_wordFrom_14 <| At.icmp_ge_t (tgt := 98) dX3_wordFrom_17 (by decide) c18 <| ?_
      obtain rfl := Option.some.inj h
      exact At.sub [] rfl (K98 rfl)
    · refine At.slen0 ln_X3_99 (Nat.le_of_ble_eq_true rfl) (by decide) dX3_wordFrom_14 <| At.icmp_ge_f (tgt := 98) dX3_wordFrom_17 (by decide) c18 <| ?_
      refine At.ldcS st_X3_97 dX3_wordFrom_20 <| At.iload dX3_wordFrom_22 rfl <| ?_
      obtain ⟨v1, hv1, g2, h⟩ := rdX_e h
      rcases ite_e h with ⟨c17, h⟩ | ⟨c17, h⟩
      · refine At.schar0 ln_X3_103 g2 (Nat.le_of_ble_eq_true rfl) (by decide) dX3_wordFrom_24 <| At.nm hv1 <| At.istore (ls' := [(6, vi v1), (0, vr 19), (1, vi l1), (2, vi l2), (3, vi l3), (4, vi l4), (5, vi l5)]) dX3_wordFrom_27 (by decide) rfl <| At.iload dX3_wordFrom_29 rfl <| At.bipush dX3_wordFrom_31 (by decide) <| At.icmp_ne_f (tgt := 55) dX3_wordFrom_33 (by decide) c17 <| ?_
        rcases ite_e h with ⟨c5, h⟩ | ⟨c5, h⟩
        · refine At.iload dX3_wordFrom_36 rfl <| At.iloadn dX3_wordFrom_38 rfl <| At.iloadn dX3_wordFrom_39 rfl <| At.isub dX3_wordFrom_40 <| At.icmp_ne_f (tgt := 46) dX3_wordFrom_41 (by decide) c5 <| ?_
          obtain rfl := Option.some.inj h
          exact At.sub [4] rfl (K44 rfl)
        · refine At.iload dX3_wordFrom_36 rfl <| At.iloadn dX3_wordFrom_38 rfl <| At.iloadn dX3_wordFrom_39 rfl <| At.isub dX3_wordFrom_40 <| At.icmp_ne_t (tgt := 46) dX3_wordFrom_41 (by decide) c5 <| ?_
          obtain ⟨x3, hx3, h⟩ := lt_e h
          refine At.iinc (ls' := [(3, vi x3), (6, vi v1), (0, vr 19), (1, vi l1), (2, vi l2), (4, vi l4), (5, vi l5)]) dX3_wordFrom_46 rfl (by decide) (by rw [hx3]; rfl) <| At.iconst dX3_wordFrom_49 (by decide) <| At.istore (ls' := [(4, vi 0), (3, vi x3), (6, vi v1), (0, vr 19), (1, vi l1), (2, vi l2), (5, vi l5)]) dX3_wordFrom_50 (by decide) rfl <| At.goto (tgt := 92) dX3_wordFrom_52 (by decide) <| ?_
          obtain ⟨x4, hx4, h⟩ := lt_e h
          refine At.iinc (ls' := [(5, vi x4), (4, vi 0), (3, vi x3), (6, vi v1), (0, vr 19), (1, vi l1), (2, vi l2)]) dX3_wordFrom_92 rfl (by decide) (by rw [hx4]; rfl) <| At.goto (tgt := 10) dX3_wordFrom_95 (by decide) <| ?_
          exact At.sub [4, 5, 6, 2, 1, 0] rfl (ih _ _ _ _ h K44 K98)
      · refine At.schar0 ln_X3_103 g2 (Nat.le_of_ble_eq_true rfl) (by decide) dX3_wordFrom_24 <| At.nm hv1 <| At.istore (ls' := [(6, vi v1), (0, vr 19), (1, vi l1), (2, vi l2), (3, vi l3), (4, vi l4), (5, vi l5)]) dX3_wordFrom_27 (by decide) rfl <| At.iload dX3_wordFrom_29 rfl <| At.bipush dX3_wordFrom_31 (by decide) <| At.icmp_ne_t (tgt := 55) dX3_wordFrom_33 (by decide) c17 <| ?_
        obtain ⟨q6, hj92, h⟩ := bnd_e h
        have K92 : At G mX3_wordFrom 6 92 [(0, vr 19), (1, vi l1), (2, vi l2), (3, vi l3), (4, vi q6), (5, vi l5)] [] (mm S) 0 0 Φ := by
          obtain ⟨x16, hx16, h⟩ := lt_e h
          refine At.iinc (ls' := [(5, vi x16), (0, vr 19), (1, vi l1), (2, vi l2), (3, vi l3), (4, vi q6)]) dX3_wordFrom_92 rfl (by decide) (by rw [hx16]; rfl) <| At.goto (tgt := 10) dX3_wordFrom_95 (by decide) <| ?_
          exact At.sub [1, 2, 3, 4, 5, 0] rfl (ih _ _ _ _ h K44 K98)
        clear h; have h := hj92; clear hj92
        rcases ite_e h with ⟨c15, h⟩ | ⟨c15, h⟩
        · refine At.iload dX3_wordFrom_55 rfl <| At.iconst dX3_wordFrom_57 (by decide) <| At.icmp_eq_t (tgt := 89) dX3_wordFrom_58 (by decide) c15 <| ?_
          refine At.iconst dX3_wordFrom_89 (by decide) <| ?_
          obtain ⟨x7, hx7, h⟩ := lt_e h
          refine At.nm hx7 <| At.istore (ls' := [(4, vi x7), (6, vi v1), (0, vr 19), (1, vi l1), (2, vi l2), (3, vi l3), (5, vi l5)]) dX3_wordFrom_90 (by decide) rfl <| ?_
          obtain rfl := Option.some.inj h
          exact At.sub [2, 3, 4, 5, 0, 6] rfl K92
        · refine At.iload dX3_wordFrom_55 rfl <| At.iconst dX3_wordFrom_57 (by decide) <| At.icmp_eq_f (tgt := 89) dX3_wordFrom_58 (by decide) c15 <| ?_
          rcases ite_e h with ⟨c14, h⟩ | ⟨c14, h⟩
          · refine At.iloadn dX3_wordFrom_61 rfl <| At.iload dX3_wordFrom_62 rfl <| At.iadd dX3_wordFrom_64 <| At.iloadn dX3_wordFrom_65 rfl <| At.icmp_ge_t (tgt := 89) dX3_wordFrom_66 (by decide) c14 <| ?_
            refine At.iconst dX3_wordFrom_89 (by decide) <| ?_
            obtain ⟨x8, hx8, h⟩ := lt_e h
            refine At.nm hx8 <| At.istore (ls' := [(4, vi x8), (6, vi v1), (0, vr 19), (1, vi l1), (2, vi l2), (3, vi l3), (5, vi l5)]) dX3_wordFrom_90 (by decide) rfl <| ?_
            obtain rfl := Option.some.inj h
            exact At.sub [2, 3, 4, 5, 0, 6] rfl K92
          · refine At.iloadn dX3_wordFrom_61 rfl <| At.iload dX3_wordFrom_62 rfl <| At.iadd dX3_wordFrom_64 <| At.iloadn dX3_wordFrom_65 rfl <| At.icmp_ge_f (tgt := 89) dX3_wordFrom_66 (by decide) c14 <| ?_
            refine At.aloadn dX3_wordFrom_69 rfl <| At.getR fl_X3_9 sh_19 (le149 sh_19) rf_19_0 dX3_wordFrom_70 <| At.iloadn dX3_wordFrom_73 rfl <| At.iload dX3_wordFrom_74 rfl <| At.iadd dX3_wordFrom_76 <| ?_
            obtain ⟨v9, hv9, g10, h⟩ := rdA_e h
            rcases ite_e h with ⟨c13, h⟩ | ⟨c13, h⟩
            · refine At.bald sh_20 (le149 sh_20) g10.1 g10.2 dX3_wordFrom_77 <| At.nm hv9 <| At.iload dX3_wordFrom_78 rfl <| At.icmp_ne_f (tgt := 89) dX3_wordFrom_80 (by decide) c13 <| ?_
              obtain ⟨x11, hx11, h⟩ := lt_e h
              refine At.iinc (ls' := [(4, vi x11), (6, vi v1), (0, vr 19), (1, vi l1), (2, vi l2), (3, vi l3), (5, vi l5)]) dX3_wordFrom_83 rfl (by decide) (by rw [hx11]; rfl) <| At.goto (tgt := 92) dX3_wordFrom_86 (by decide) <| ?_
              obtain rfl := Option.some.inj h
              exact At.sub [2, 3, 4, 5, 0, 6] rfl K92
            · refine At.bald sh_20 (le149 sh_20) g10.1 g10.2 dX3_wordFrom_77 <| At.nm hv9 <| At.iload dX3_wordFrom_78 rfl <| At.icmp_ne_t (tgt := 89) dX3_wordFrom_80 (by decide) c13 <| ?_
              refine At.iconst dX3_wordFrom_89 (by decide) <| ?_
              obtain ⟨x12, hx12, h⟩ := lt_e h
              refine At.nm hx12 <| At.istore (ls' := [(4, vi x12), (6, vi v1), (0, vr 19), (1, vi l1), (2, vi l2), (3, vi l3), (5, vi l5)]) dX3_wordFrom_90 (by decide) rfl <| ?_
              obtain rfl := Option.some.inj h
              exact At.sub [2, 3, 4, 5, 0, 6] rfl K92
set_option maxRecDepth 100000 in
set_option maxHeartbeats 4000000 in
theorem rX3_wordFrom {G : GG} {p1 : Int} {p2 : Int} {S : SS} {rr : Int} (h : fX3_wordFrom p1 p2 S = some rr) : RD G mX3_wordFrom 6 [vr 19, vi p1, vi p2] S (some (vi rr)) S := by
  unfold fX3_wordFrom at h
  refine Runs.of pl_X3 (Nat.le_of_ble_eq_true rfl) ?_
  show At G mX3_wordFrom 6 0 [(0, vr 19), (1, vi p1), (2, vi p2)] [] (mm S) 0 0 (EQ (some (vi rr)) S)
  refine At.sipush dX3_wordFrom_0 (by decide) <| At.istoren (ls' := [(3, vi 1000), (0, vr 19), (1, vi p1), (2, vi p2)]) dX3_wordFrom_3 (by decide) rfl <| At.iconst dX3_wordFrom_4 (by decide) <| At.istore (ls' := [(4, vi 0), (3, vi 1000), (0, vr 19), (1, vi p1), (2, vi p2)]) dX3_wordFrom_5 (by decide) rfl <| At.iconst dX3_wordFrom_7 (by decide) <| At.istore (ls' := [(5, vi 0), (4, vi 0), (3, vi 1000), (0, vr 19), (1, vi p1), (2, vi p2)]) dX3_wordFrom_8 (by decide) rfl <| ?_
  obtain ⟨q1, ho2, h⟩ := bnd_e h
  refine At.sub [3, 4, 5, 2, 1, 0] rfl (lX3_wordFrom_L10 FU _ _ _ q1 ho2 (fun hq => ?_) (fun hq => ?_))
  · rw [if_pos hq] at h
    refine At.iloadn dX3_wordFrom_44 rfl <| ?_
    obtain rfl := Option.some.inj h
    exact At.iret rfl (Nat.zero_le _) (Nat.zero_le _) ⟨rfl, rfl⟩ dX3_wordFrom_45
  · rw [if_neg (by omega)] at h
    refine At.sipush dX3_wordFrom_98 (by decide) <| ?_
    obtain rfl := Option.some.inj h
    exact At.iret rfl (Nat.zero_le _) (Nat.zero_le _) ⟨rfl, rfl⟩ dX3_wordFrom_101
def fX3_advance_L8 : Nat → SS → Option (SS)
  | 0, _ => none
  | n + 1, S =>
    if (S 19 3) ≤ (S 19 4) then (
      some S
    ) else (
      rdA S 20 900 (S 19 4) fun v1 =>
      if v1 = 32 then (
        lt (up S 19 4 (w32 ((S 19 4) + 1))) fun S3 =>
        fX3_advance_L8 n  S3
      ) else (
        rdA S 20 900 (S 19 4) fun v4 =>
        if v4 = 10 then (
          lt (up S 19 4 (w32 ((S 19 4) + 1))) fun S6 =>
          fX3_advance_L8 n  S6
        ) else (
          some S
        )
      )
    )
def fX3_advance_L107 : Nat → SS → Option (SS)
  | 0, _ => none
  | n + 1, S =>
    if (S 19 3) ≤ (S 19 4) then (
      some S
    ) else (
      rdA S 20 900 (S 19 4) fun v1 =>
      Option.bind (fX3_isDigit v1) fun q3 =>
      if q3 = true then (
        rdA S 20 900 (S 19 4) fun v4 =>
        lt (up S 19 7 (w32 ((w32 ((S 19 7) * 10)) + (w32 (v4 - 48))))) fun S6 =>
        lt (up S6 19 4 (w32 ((S6 19 4) + 1))) fun S7 =>
        fX3_advance_L107 n  S7
      ) else (
        some S
      )
    )
def fX3_advance_L205 : Nat → SS → Option (SS)
  | 0, _ => none
  | n + 1, S =>
    if (S 19 3) ≤ (S 19 4) then (
      some S
    ) else (
      rdA S 20 900 (S 19 4) fun v1 =>
      Option.bind (fX3_isLetter v1) fun q3 =>
      if q3 = true then (
        lt (up S 19 4 (w32 ((S 19 4) + 1))) fun S4 =>
        fX3_advance_L205 n  S4
      ) else (
        some S
      )
    )
def fX3_advance (S : SS) : Option SS :=
  if (S 19 9) = 0 then (
    Option.bind (fX3_advance_L8 FU  S) fun q1 =>
    lt (up q1 19 6 (q1 19 4)) fun S3 =>
    if (S3 19 4) < (S3 19 3) then (
      rdA S3 20 900 (S3 19 4) fun v4 =>
      Option.bind (fX3_isDigit v4) fun q6 =>
      if q6 = true then (
        lt (up S3 19 7 0) fun S7 =>
        Option.bind (fX3_advance_L107 FU  S7) fun q8 =>
        lt (up q8 19 5 256) fun S10 =>
        if (w32 ((S10 19 4) - (S10 19 6))) ≤ 3 then (
          some S10
        ) else (
          Option.bind (fX3_fail 1 S10) fun q11 =>
          some q11
        )
      ) else (
        Option.bind (fX3_isLetter v4) fun q13 =>
        if q13 = true then (
          Option.bind (fX3_advance_L205 FU  S3) fun q14 =>
          Option.bind (fX3_wordFrom (q14 19 6) (q14 19 4) q14) fun q16 =>
          lt (up q14 19 5 q16) fun S17 =>
          some S17
        ) else (
          if v4 ≤ 0 then (
            Option.bind (fX3_fail 1 S3) fun q18 =>
            some q18
          ) else (
            lt (ixX 1 (jc v4)) fun v19 =>
            if v19 < 0 then (
              Option.bind (fX3_fail 1 S3) fun q20 =>
              some q20
            ) else (
              lt (up S3 19 5 v4) fun S21 =>
              lt (up S21 19 4 (w32 ((S21 19 4) + 1))) fun S22 =>
              some S22
            )
          )
        )
      )
    ) else (
      lt (up S3 19 5 0) fun S27 =>
      some S27
    )
  ) else (
    some S
  )
set_option maxRecDepth 100000 in
set_option maxHeartbeats 4000000 in
theorem lX3_advance_L8 {G : GG} {Φ : Option VV → MM → Prop} : ∀ (n : Nat) (S : SS) (q : SS), fX3_advance_L8 n S = some q → At G mX3_advance 7 60 [(0, vr 19)] [] (mm q) 0 0 Φ → At G mX3_advance 7 8 [(0, vr 19)] [] (mm S) 0 0 Φ := by
  intro n
  induction n with
  | zero =>
    intro _ _ h
    cases h
  | succ n ih =>
    intro S q h K60
    unfold fX3_advance_L8 at h
    rcases ite_e h with ⟨c9, h⟩ | ⟨c9, h⟩
    · refine At.aloadn dX3_advance_8 rfl <| At.getI fl_X3_41 sh_19 (le149 sh_19) dX3_advance_9 <| At.aloadn dX3_advance_12 rfl <| At.getI fl_X3_38 sh_19 (le149 sh_19) dX3_advance_13 <| At.icmp_ge_t (tgt := 60) dX3_advance_16 (by decide) c9 <| ?_
      obtain rfl := Option.some.inj h
      exact At.sub [0] rfl K60
    · refine At.aloadn dX3_advance_8 rfl <| At.getI fl_X3_41 sh_19 (le149 sh_19) dX3_advance_9 <| At.aloadn dX3_advance_12 rfl <| At.getI fl_X3_38 sh_19 (le149 sh_19) dX3_advance_13 <| At.icmp_ge_f (tgt := 60) dX3_advance_16 (by decide) c9 <| ?_
      refine At.aloadn dX3_advance_19 rfl <| At.getR fl_X3_9 sh_19 (le149 sh_19) rf_19_0 dX3_advance_20 <| At.aloadn dX3_advance_23 rfl <| At.getI fl_X3_41 sh_19 (le149 sh_19) dX3_advance_24 <| ?_
      obtain ⟨v1, hv1, g2, h⟩ := rdA_e h
      rcases ite_e h with ⟨c8, h⟩ | ⟨c8, h⟩
      · refine At.bald sh_20 (le149 sh_20) g2.1 g2.2 dX3_advance_27 <| At.nm hv1 <| At.bipush dX3_advance_28 (by decide) <| At.icmp_eq_t (tgt := 47) dX3_advance_30 (by decide) c8 <| ?_
        refine At.aloadn dX3_advance_47 rfl <| At.dup rfl dX3_advance_48 <| At.getI fl_X3_41 sh_19 (le149 sh_19) dX3_advance_49 <| At.iconst dX3_advance_52 (by decide) <| At.iadd dX3_advance_53 <| ?_
        obtain ⟨S3, hS3, h⟩ := lt_e h
        refine At.putI fw_X3_41 sh_19 (le149 sh_19) dX3_advance_54 <| At.nmS hS3 <| At.goto (tgt := 8) dX3_advance_57 (by decide) <| ?_
        exact At.sub [0] rfl (ih _ _ h K60)
      · refine At.bald sh_20 (le149 sh_20) g2.1 g2.2 dX3_advance_27 <| At.nm hv1 <| At.bipush dX3_advance_28 (by decide) <| At.icmp_eq_f (tgt := 47) dX3_advance_30 (by decide) c8 <| ?_
        refine At.aloadn dX3_advance_33 rfl <| At.getR fl_X3_9 sh_19 (le149 sh_19) rf_19_0 dX3_advance_34 <| At.aloadn dX3_advance_37 rfl <| At.getI fl_X3_41 sh_19 (le149 sh_19) dX3_advance_38 <| ?_
        obtain ⟨v4, hv4, g5, h⟩ := rdA_e h
        rcases ite_e h with ⟨c7, h⟩ | ⟨c7, h⟩
        · refine At.bald sh_20 (le149 sh_20) g5.1 g5.2 dX3_advance_41 <| At.nm hv4 <| At.bipush dX3_advance_42 (by decide) <| At.icmp_ne_f (tgt := 60) dX3_advance_44 (by decide) c7 <| ?_
          refine At.aloadn dX3_advance_47 rfl <| At.dup rfl dX3_advance_48 <| At.getI fl_X3_41 sh_19 (le149 sh_19) dX3_advance_49 <| At.iconst dX3_advance_52 (by decide) <| At.iadd dX3_advance_53 <| ?_
          obtain ⟨S6, hS6, h⟩ := lt_e h
          refine At.putI fw_X3_41 sh_19 (le149 sh_19) dX3_advance_54 <| At.nmS hS6 <| At.goto (tgt := 8) dX3_advance_57 (by decide) <| ?_
          exact At.sub [0] rfl (ih _ _ h K60)
        · refine At.bald sh_20 (le149 sh_20) g5.1 g5.2 dX3_advance_41 <| At.nm hv4 <| At.bipush dX3_advance_42 (by decide) <| At.icmp_ne_t (tgt := 60) dX3_advance_44 (by decide) c7 <| ?_
          obtain rfl := Option.some.inj h
          exact At.sub [0] rfl K60
set_option maxRecDepth 100000 in
set_option maxHeartbeats 4000000 in
theorem lX3_advance_L107 {G : GG} {Φ : Option VV → MM → Prop} : ∀ (n : Nat) (S : SS) (q : SS), fX3_advance_L107 n S = some q → At G mX3_advance 7 170 [(0, vr 19)] [] (mm q) 0 0 Φ → At G mX3_advance 7 107 [(0, vr 19)] [] (mm S) 0 0 Φ := by
  intro n
  induction n with
  | zero =>
    intro _ _ h
    cases h
  | succ n ih =>
    intro S q h K170
    unfold fX3_advance_L107 at h
    rcases ite_e h with ⟨c9, h⟩ | ⟨c9, h⟩
    · refine At.aloadn dX3_advance_107 rfl <| At.getI fl_X3_41 sh_19 (le149 sh_19) dX3_advance_108 <| At.aloadn dX3_advance_111 rfl <| At.getI fl_X3_38 sh_19 (le149 sh_19) dX3_advance_112 <| At.icmp_ge_t (tgt := 170) dX3_advance_115 (by decide) c9 <| ?_
      obtain rfl := Option.some.inj h
      exact At.sub [0] rfl K170
    · refine At.aloadn dX3_advance_107 rfl <| At.getI fl_X3_41 sh_19 (le149 sh_19) dX3_advance_108 <| At.aloadn dX3_advance_111 rfl <| At.getI fl_X3_38 sh_19 (le149 sh_19) dX3_advance_112 <| At.icmp_ge_f (tgt := 170) dX3_advance_115 (by decide) c9 <| ?_
      refine At.aloadn dX3_advance_118 rfl <| At.getR fl_X3_9 sh_19 (le149 sh_19) rf_19_0 dX3_advance_119 <| At.aloadn dX3_advance_122 rfl <| At.getI fl_X3_41 sh_19 (le149 sh_19) dX3_advance_123 <| ?_
      obtain ⟨v1, hv1, g2, h⟩ := rdA_e h
      refine At.bald sh_20 (le149 sh_20) g2.1 g2.2 dX3_advance_126 <| At.nm hv1 <| ?_
      obtain ⟨q3, hq3, h⟩ := bnd_e h
      rcases ite_e h with ⟨c8, h⟩ | ⟨c8, h⟩
      · refine At.cS1 (av := [vi v1]) (rest := []) ms_X3_isDigit lk_X3_73 dX3_advance_127 rfl rfl (Nat.le_of_ble_eq_true rfl) (by decide) ⟨rfl, rfl⟩ (rX3_isDigit hq3) <| At.bifeq_f (tgt := 170) dX3_advance_130 (by decide) c8 <| ?_
        refine At.aloadn dX3_advance_133 rfl <| At.aloadn dX3_advance_134 rfl <| At.getI fl_X3_77 sh_19 (le149 sh_19) dX3_advance_135 <| At.bipush dX3_advance_138 (by decide) <| At.imul dX3_advance_140 <| At.aloadn dX3_advance_141 rfl <| At.getR fl_X3_9 sh_19 (le149 sh_19) rf_19_0 dX3_advance_142 <| At.aloadn dX3_advance_145 rfl <| At.getI fl_X3_41 sh_19 (le149 sh_19) dX3_advance_146 <| ?_
        obtain ⟨v4, hv4, g5, h⟩ := rdA_e h
        refine At.bald sh_20 (le149 sh_20) g5.1 g5.2 dX3_advance_149 <| At.nm hv4 <| At.bipush dX3_advance_150 (by decide) <| At.isub dX3_advance_152 <| At.iadd dX3_advance_153 <| ?_
        obtain ⟨S6, hS6, h⟩ := lt_e h
        refine At.putI fw_X3_77 sh_19 (le149 sh_19) dX3_advance_154 <| At.nmS hS6 <| At.aloadn dX3_advance_157 rfl <| At.dup rfl dX3_advance_158 <| At.getI fl_X3_41 sh_19 (le149 sh_19) dX3_advance_159 <| At.iconst dX3_advance_162 (by decide) <| At.iadd dX3_advance_163 <| ?_
        obtain ⟨S7, hS7, h⟩ := lt_e h
        refine At.putI fw_X3_41 sh_19 (le149 sh_19) dX3_advance_164 <| At.nmS hS7 <| At.goto (tgt := 107) dX3_advance_167 (by decide) <| ?_
        exact At.sub [0] rfl (ih _ _ h K170)
      · refine At.cS1 (av := [vi v1]) (rest := []) ms_X3_isDigit lk_X3_73 dX3_advance_127 rfl rfl (Nat.le_of_ble_eq_true rfl) (by decide) ⟨rfl, rfl⟩ (rX3_isDigit hq3) <| At.bifeq_t (tgt := 170) dX3_advance_130 (by decide) c8 <| ?_
        obtain rfl := Option.some.inj h
        exact At.sub [0] rfl K170
set_option maxRecDepth 100000 in
set_option maxHeartbeats 4000000 in
theorem lX3_advance_L205 {G : GG} {Φ : Option VV → MM → Prop} : ∀ (n : Nat) (S : SS) (q : SS), fX3_advance_L205 n S = some q → At G mX3_advance 7 244 [(0, vr 19)] [] (mm q) 0 0 Φ → At G mX3_advance 7 205 [(0, vr 19)] [] (mm S) 0 0 Φ := by
  intro n
  induction n with
  | zero =>
    intro _ _ h
    cases h
  | succ n ih =>
    intro S q h K244
    unfold fX3_advance_L205 at h
    rcases ite_e h with ⟨c6, h⟩ | ⟨c6, h⟩
    · refine At.aloadn dX3_advance_205 rfl <| At.getI fl_X3_41 sh_19 (le149 sh_19) dX3_advance_206 <| At.aloadn dX3_advance_209 rfl <| At.getI fl_X3_38 sh_19 (le149 sh_19) dX3_advance_210 <| At.icmp_ge_t (tgt := 244) dX3_advance_213 (by decide) c6 <| ?_
      obtain rfl := Option.some.inj h
      exact At.sub [0] rfl K244
    · refine At.aloadn dX3_advance_205 rfl <| At.getI fl_X3_41 sh_19 (le149 sh_19) dX3_advance_206 <| At.aloadn dX3_advance_209 rfl <| At.getI fl_X3_38 sh_19 (le149 sh_19) dX3_advance_210 <| At.icmp_ge_f (tgt := 244) dX3_advance_213 (by decide) c6 <| ?_
      refine At.aloadn dX3_advance_216 rfl <| At.getR fl_X3_9 sh_19 (le149 sh_19) rf_19_0 dX3_advance_217 <| At.aloadn dX3_advance_220 rfl <| At.getI fl_X3_41 sh_19 (le149 sh_19) dX3_advance_221 <| ?_
      obtain ⟨v1, hv1, g2, h⟩ := rdA_e h
      refine At.bald sh_20 (le149 sh_20) g2.1 g2.2 dX3_advance_224 <| At.nm hv1 <| ?_
      obtain ⟨q3, hq3, h⟩ := bnd_e h
      rcases ite_e h with ⟨c5, h⟩ | ⟨c5, h⟩
      · refine At.cS1 (av := [vi v1]) (rest := []) ms_X3_isLetter lk_X3_83 dX3_advance_225 rfl rfl (Nat.le_of_ble_eq_true rfl) (by decide) ⟨rfl, rfl⟩ (rX3_isLetter hq3) <| At.bifeq_f (tgt := 244) dX3_advance_228 (by decide) c5 <| ?_
        refine At.aloadn dX3_advance_231 rfl <| At.dup rfl dX3_advance_232 <| At.getI fl_X3_41 sh_19 (le149 sh_19) dX3_advance_233 <| At.iconst dX3_advance_236 (by decide) <| At.iadd dX3_advance_237 <| ?_
        obtain ⟨S4, hS4, h⟩ := lt_e h
        refine At.putI fw_X3_41 sh_19 (le149 sh_19) dX3_advance_238 <| At.nmS hS4 <| At.goto (tgt := 205) dX3_advance_241 (by decide) <| ?_
        exact At.sub [0] rfl (ih _ _ h K244)
      · refine At.cS1 (av := [vi v1]) (rest := []) ms_X3_isLetter lk_X3_83 dX3_advance_225 rfl rfl (Nat.le_of_ble_eq_true rfl) (by decide) ⟨rfl, rfl⟩ (rX3_isLetter hq3) <| At.bifeq_t (tgt := 244) dX3_advance_228 (by decide) c5 <| ?_
        obtain rfl := Option.some.inj h
        exact At.sub [0] rfl K244
set_option maxRecDepth 100000 in
set_option maxHeartbeats 4000000 in
theorem rX3_advance {G : GG} {S : SS} {rr : SS} (h : fX3_advance  S = some rr) : RD G mX3_advance 7 [vr 19] S none rr := by
  unfold fX3_advance at h
  refine Runs.of pl_X3 (Nat.le_of_ble_eq_true rfl) ?_
  show At G mX3_advance 7 0 [(0, vr 19)] [] (mm S) 0 0 (EQ none rr)
  rcases ite_e h with ⟨c29, h⟩ | ⟨c29, h⟩
  · refine At.aloadn dX3_advance_0 rfl <| At.getI fl_X3_29 sh_19 (le149 sh_19) dX3_advance_1 <| At.if_eq_t (tgt := 8) dX3_advance_4 (by decide) c29 <| ?_
    obtain ⟨q1, ho2, h⟩ := bnd_e h
    refine At.sub [0] rfl (lX3_advance_L8 FU _ q1 ho2 ?_)
    refine At.aloadn dX3_advance_60 rfl <| At.aloadn dX3_advance_61 rfl <| At.getI fl_X3_41 sh_19 (le149 sh_19) dX3_advance_62 <| ?_
    obtain ⟨S3, hS3, h⟩ := lt_e h
    rcases ite_e h with ⟨c28, h⟩ | ⟨c28, h⟩
    · refine At.putI fw_X3_70 sh_19 (le149 sh_19) dX3_advance_65 <| At.nmS hS3 <| At.aloadn dX3_advance_68 rfl <| At.getI fl_X3_41 sh_19 (le149 sh_19) dX3_advance_69 <| At.aloadn dX3_advance_72 rfl <| At.getI fl_X3_38 sh_19 (le149 sh_19) dX3_advance_73 <| At.icmp_lt_t (tgt := 85) dX3_advance_76 (by decide) c28 <| ?_
      refine At.aloadn dX3_advance_85 rfl <| At.getR fl_X3_9 sh_19 (le149 sh_19) rf_19_0 dX3_advance_86 <| At.aloadn dX3_advance_89 rfl <| At.getI fl_X3_41 sh_19 (le149 sh_19) dX3_advance_90 <| ?_
      obtain ⟨v4, hv4, g5, h⟩ := rdA_e h
      refine At.bald sh_20 (le149 sh_20) g5.1 g5.2 dX3_advance_93 <| At.nm hv4 <| At.istoren (ls' := [(1, vi v4), (0, vr 19)]) dX3_advance_94 (by decide) rfl <| At.iloadn dX3_advance_95 rfl <| ?_
      obtain ⟨q6, hq6, h⟩ := bnd_e h
      rcases ite_e h with ⟨c26, h⟩ | ⟨c26, h⟩
      · refine At.cS1 (av := [vi v4]) (rest := []) ms_X3_isDigit lk_X3_73 dX3_advance_96 rfl rfl (Nat.le_of_ble_eq_true rfl) (by decide) ⟨rfl, rfl⟩ (rX3_isDigit hq6) <| At.bifeq_f (tgt := 198) dX3_advance_99 (by decide) c26 <| ?_
        refine At.aloadn dX3_advance_102 rfl <| At.iconst dX3_advance_103 (by decide) <| ?_
        obtain ⟨S7, hS7, h⟩ := lt_e h
        refine At.putI fw_X3_77 sh_19 (le149 sh_19) dX3_advance_104 <| At.nmS hS7 <| ?_
        obtain ⟨q8, ho9, h⟩ := bnd_e h
        refine At.sub [1] rfl (lX3_advance_L107 FU _ q8 ho9 ?_)
        refine At.aloadn dX3_advance_170 rfl <| At.sipush dX3_advance_171 (by decide) <| ?_
        obtain ⟨S10, hS10, h⟩ := lt_e h
        rcases ite_e h with ⟨c12, h⟩ | ⟨c12, h⟩
        · refine At.putI fw_X3_64 sh_19 (le149 sh_19) dX3_advance_174 <| At.nmS hS10 <| At.aloadn dX3_advance_177 rfl <| At.getI fl_X3_41 sh_19 (le149 sh_19) dX3_advance_178 <| At.aloadn dX3_advance_181 rfl <| At.getI fl_X3_70 sh_19 (le149 sh_19) dX3_advance_182 <| At.isub dX3_advance_185 <| At.iconst dX3_advance_186 (by decide) <| At.icmp_le_t (tgt := 300) dX3_advance_187 (by decide) c12 <| ?_
          obtain rfl := Option.some.inj h
          exact At.vret rfl (Nat.zero_le _) (Nat.zero_le _) ⟨rfl, rfl⟩ dX3_advance_300
        · refine At.putI fw_X3_64 sh_19 (le149 sh_19) dX3_advance_174 <| At.nmS hS10 <| At.aloadn dX3_advance_177 rfl <| At.getI fl_X3_41 sh_19 (le149 sh_19) dX3_advance_178 <| At.aloadn dX3_advance_181 rfl <| At.getI fl_X3_70 sh_19 (le149 sh_19) dX3_advance_182 <| At.isub dX3_advance_185 <| At.iconst dX3_advance_186 (by decide) <| At.icmp_le_f (tgt := 300) dX3_advance_187 (by decide) c12 <| ?_
          refine At.aloadn dX3_advance_190 rfl <| At.iconst dX3_advance_191 (by decide) <| ?_
          obtain ⟨q11, hq11, h⟩ := bnd_e h
          refine At.cV0 (av := [vi 1]) (rest := []) mv_X3_fail lk_X3_80 dX3_advance_192 rfl rfl sh_19 (Nat.le_of_ble_eq_true rfl) (by decide) ⟨rfl, rfl⟩ (rX3_fail hq11) <| At.goto (tgt := 300) dX3_advance_195 (by decide) <| ?_
          obtain rfl := Option.some.inj h
          exact At.vret rfl (Nat.zero_le _) (Nat.zero_le _) ⟨rfl, rfl⟩ dX3_advance_300
      · refine At.cS1 (av := [vi v4]) (rest := []) ms_X3_isDigit lk_X3_73 dX3_advance_96 rfl rfl (Nat.le_of_ble_eq_true rfl) (by decide) ⟨rfl, rfl⟩ (rX3_isDigit hq6) <| At.bifeq_t (tgt := 198) dX3_advance_99 (by decide) c26 <| ?_
        refine At.iloadn dX3_advance_198 rfl <| ?_
        obtain ⟨q13, hq13, h⟩ := bnd_e h
        rcases ite_e h with ⟨c25, h⟩ | ⟨c25, h⟩
        · refine At.cS1 (av := [vi v4]) (rest := []) ms_X3_isLetter lk_X3_83 dX3_advance_199 rfl rfl (Nat.le_of_ble_eq_true rfl) (by decide) ⟨rfl, rfl⟩ (rX3_isLetter hq13) <| At.bifeq_f (tgt := 263) dX3_advance_202 (by decide) c25 <| ?_
          obtain ⟨q14, ho15, h⟩ := bnd_e h
          refine At.sub [1] rfl (lX3_advance_L205 FU _ q14 ho15 ?_)
          refine At.aloadn dX3_advance_244 rfl <| At.aloadn dX3_advance_245 rfl <| At.aloadn dX3_advance_246 rfl <| At.getI fl_X3_70 sh_19 (le149 sh_19) dX3_advance_247 <| At.aloadn dX3_advance_250 rfl <| At.getI fl_X3_41 sh_19 (le149 sh_19) dX3_advance_251 <| ?_
          obtain ⟨q16, hq16, h⟩ := bnd_e h
          refine At.cV1 (av := [vi (q14 19 6), vi (q14 19 4)]) (rest := [vr 19]) mv_X3_wordFrom lk_X3_86 dX3_advance_254 rfl rfl sh_19 (Nat.le_of_ble_eq_true rfl) (by decide) ⟨rfl, rfl⟩ (rX3_wordFrom hq16) <| ?_
          obtain ⟨S17, hS17, h⟩ := lt_e h
          refine At.putI fw_X3_64 sh_19 (le149 sh_19) dX3_advance_257 <| At.nmS hS17 <| At.goto (tgt := 300) dX3_advance_260 (by decide) <| ?_
          obtain rfl := Option.some.inj h
          exact At.vret rfl (Nat.zero_le _) (Nat.zero_le _) ⟨rfl, rfl⟩ dX3_advance_300
        · refine At.cS1 (av := [vi v4]) (rest := []) ms_X3_isLetter lk_X3_83 dX3_advance_199 rfl rfl (Nat.le_of_ble_eq_true rfl) (by decide) ⟨rfl, rfl⟩ (rX3_isLetter hq13) <| At.bifeq_t (tgt := 263) dX3_advance_202 (by decide) c25 <| ?_
          rcases ite_e h with ⟨c24, h⟩ | ⟨c24, h⟩
          · refine At.iloadn dX3_advance_263 rfl <| At.if_le_t (tgt := 295) dX3_advance_264 (by decide) c24 <| ?_
            refine At.aloadn dX3_advance_295 rfl <| At.iconst dX3_advance_296 (by decide) <| ?_
            obtain ⟨q18, hq18, h⟩ := bnd_e h
            refine At.cV0 (av := [vi 1]) (rest := []) mv_X3_fail lk_X3_80 dX3_advance_297 rfl rfl sh_19 (Nat.le_of_ble_eq_true rfl) (by decide) ⟨rfl, rfl⟩ (rX3_fail hq18) <| ?_
            obtain rfl := Option.some.inj h
            exact At.vret rfl (Nat.zero_le _) (Nat.zero_le _) ⟨rfl, rfl⟩ dX3_advance_300
          · refine At.iloadn dX3_advance_263 rfl <| At.if_le_f (tgt := 295) dX3_advance_264 (by decide) c24 <| ?_
            refine At.ldcS st_X3_89 dX3_advance_267 <| At.iloadn dX3_advance_269 rfl <| At.i2c dX3_advance_270 <| ?_
            obtain ⟨v19, hv19, h⟩ := lt_e h
            rcases ite_e h with ⟨c23, h⟩ | ⟨c23, h⟩
            · refine At.sindex1 ln_X3_91 (Nat.le_of_ble_eq_true rfl) (by decide) dX3_advance_271 <| At.nm hv19 <| At.if_lt_t (tgt := 295) dX3_advance_274 (by decide) c23 <| ?_
              refine At.aloadn dX3_advance_295 rfl <| At.iconst dX3_advance_296 (by decide) <| ?_
              obtain ⟨q20, hq20, h⟩ := bnd_e h
              refine At.cV0 (av := [vi 1]) (rest := []) mv_X3_fail lk_X3_80 dX3_advance_297 rfl rfl sh_19 (Nat.le_of_ble_eq_true rfl) (by decide) ⟨rfl, rfl⟩ (rX3_fail hq20) <| ?_
              obtain rfl := Option.some.inj h
              exact At.vret rfl (Nat.zero_le _) (Nat.zero_le _) ⟨rfl, rfl⟩ dX3_advance_300
            · refine At.sindex1 ln_X3_91 (Nat.le_of_ble_eq_true rfl) (by decide) dX3_advance_271 <| At.nm hv19 <| At.if_lt_f (tgt := 295) dX3_advance_274 (by decide) c23 <| ?_
              refine At.aloadn dX3_advance_277 rfl <| At.iloadn dX3_advance_278 rfl <| ?_
              obtain ⟨S21, hS21, h⟩ := lt_e h
              refine At.putI fw_X3_64 sh_19 (le149 sh_19) dX3_advance_279 <| At.nmS hS21 <| At.aloadn dX3_advance_282 rfl <| At.dup rfl dX3_advance_283 <| At.getI fl_X3_41 sh_19 (le149 sh_19) dX3_advance_284 <| At.iconst dX3_advance_287 (by decide) <| At.iadd dX3_advance_288 <| ?_
              obtain ⟨S22, hS22, h⟩ := lt_e h
              refine At.putI fw_X3_41 sh_19 (le149 sh_19) dX3_advance_289 <| At.nmS hS22 <| At.goto (tgt := 300) dX3_advance_292 (by decide) <| ?_
              obtain rfl := Option.some.inj h
              exact At.vret rfl (Nat.zero_le _) (Nat.zero_le _) ⟨rfl, rfl⟩ dX3_advance_300
    · refine At.putI fw_X3_70 sh_19 (le149 sh_19) dX3_advance_65 <| At.nmS hS3 <| At.aloadn dX3_advance_68 rfl <| At.getI fl_X3_41 sh_19 (le149 sh_19) dX3_advance_69 <| At.aloadn dX3_advance_72 rfl <| At.getI fl_X3_38 sh_19 (le149 sh_19) dX3_advance_73 <| At.icmp_lt_f (tgt := 85) dX3_advance_76 (by decide) c28 <| ?_
      refine At.aloadn dX3_advance_79 rfl <| At.iconst dX3_advance_80 (by decide) <| ?_
      obtain ⟨S27, hS27, h⟩ := lt_e h
      refine At.putI fw_X3_64 sh_19 (le149 sh_19) dX3_advance_81 <| At.nmS hS27 <| ?_
      obtain rfl := Option.some.inj h
      exact At.vret rfl (Nat.zero_le _) (Nat.zero_le _) ⟨rfl, rfl⟩ dX3_advance_84
  · refine At.aloadn dX3_advance_0 rfl <| At.getI fl_X3_29 sh_19 (le149 sh_19) dX3_advance_1 <| At.if_eq_f (tgt := 8) dX3_advance_4 (by decide) c29 <| ?_
    obtain rfl := Option.some.inj h
    exact At.vret rfl (Nat.zero_le _) (Nat.zero_le _) ⟨rfl, rfl⟩ dX3_advance_7
def fX3_expect (p1 : Int) (S : SS) : Option SS :=
  if (S 19 5) = p1 then (
    Option.bind (fX3_advance  S) fun q1 =>
    some q1
  ) else (
    Option.bind (fX3_fail 2 S) fun q2 =>
    some q2
  )
set_option maxRecDepth 100000 in
set_option maxHeartbeats 4000000 in
theorem rX3_expect {G : GG} {p1 : Int} {S : SS} {rr : SS} (h : fX3_expect p1 S = some rr) : RD G mX3_expect 8 [vr 19, vi p1] S none rr := by
  unfold fX3_expect at h
  refine Runs.of pl_X3 (Nat.le_of_ble_eq_true rfl) ?_
  show At G mX3_expect 8 0 [(0, vr 19), (1, vi p1)] [] (mm S) 0 0 (EQ none rr)
  rcases ite_e h with ⟨c3, h⟩ | ⟨c3, h⟩
  · refine At.aloadn dX3_expect_0 rfl <| At.getI fl_X3_64 sh_19 (le149 sh_19) dX3_expect_1 <| At.iloadn dX3_expect_4 rfl <| At.icmp_ne_f (tgt := 15) dX3_expect_5 (by decide) c3 <| ?_
    refine At.aloadn dX3_expect_8 rfl <| ?_
    obtain ⟨q1, hq1, h⟩ := bnd_e h
    refine At.cV0 (av := []) (rest := []) mv_X3_advance lk_X3_47 dX3_expect_9 rfl rfl sh_19 (Nat.le_of_ble_eq_true rfl) (by decide) ⟨rfl, rfl⟩ (rX3_advance hq1) <| At.goto (tgt := 20) dX3_expect_12 (by decide) <| ?_
    obtain rfl := Option.some.inj h
    exact At.vret rfl (Nat.zero_le _) (Nat.zero_le _) ⟨rfl, rfl⟩ dX3_expect_20
  · refine At.aloadn dX3_expect_0 rfl <| At.getI fl_X3_64 sh_19 (le149 sh_19) dX3_expect_1 <| At.iloadn dX3_expect_4 rfl <| At.icmp_ne_t (tgt := 15) dX3_expect_5 (by decide) c3 <| ?_
    refine At.aloadn dX3_expect_15 rfl <| At.iconst dX3_expect_16 (by decide) <| ?_
    obtain ⟨q2, hq2, h⟩ := bnd_e h
    refine At.cV0 (av := [vi 2]) (rest := []) mv_X3_fail lk_X3_80 dX3_expect_17 rfl rfl sh_19 (Nat.le_of_ble_eq_true rfl) (by decide) ⟨rfl, rfl⟩ (rX3_fail hq2) <| ?_
    obtain rfl := Option.some.inj h
    exact At.vret rfl (Nat.zero_le _) (Nat.zero_le _) ⟨rfl, rfl⟩ dX3_expect_20
def fX3_number (p1 : Int) (p2 : Int) (p3 : Int) (S : SS) : Option (Int × SS) :=
  if (S 19 5) = 256 then (
    if (S 19 7) < p1 then (
      Option.bind (fX3_fail 3 S) fun q1 =>
      some (0, q1)
    ) else (
      if p2 < (S 19 7) then (
        Option.bind (fX3_fail 3 S) fun q2 =>
        some (0, q2)
      ) else (
        if (S 19 7) = p3 then (
          Option.bind (fX3_fail 3 S) fun q3 =>
          some (0, q3)
        ) else (
          lt (S 19 7) fun x4 =>
          Option.bind (fX3_advance  S) fun q5 =>
          some (x4, q5)
        )
      )
    )
  ) else (
    Option.bind (fX3_fail 2 S) fun q9 =>
    some (0, q9)
  )
set_option maxRecDepth 100000 in
set_option maxHeartbeats 4000000 in
theorem rX3_number {G : GG} {p1 : Int} {p2 : Int} {p3 : Int} {S : SS} {rr : (Int × SS)} (h : fX3_number p1 p2 p3 S = some rr) : RD G mX3_number 8 [vr 19, vi p1, vi p2, vi p3] S (some (vi rr.1)) rr.2 := by
  unfold fX3_number at h
  refine Runs.of pl_X3 (Nat.le_of_ble_eq_true rfl) ?_
  show At G mX3_number 8 0 [(0, vr 19), (1, vi p1), (2, vi p2), (3, vi p3)] [] (mm S) 0 0 (EQ (some (vi rr.1)) rr.2)
  rcases ite_e h with ⟨c10, h⟩ | ⟨c10, h⟩
  · refine At.aloadn dX3_number_0 rfl <| At.getI fl_X3_64 sh_19 (le149 sh_19) dX3_number_1 <| At.sipush dX3_number_4 (by decide) <| At.icmp_eq_t (tgt := 17) dX3_number_7 (by decide) c10 <| ?_
    rcases ite_e h with ⟨c8, h⟩ | ⟨c8, h⟩
    · refine At.aloadn dX3_number_17 rfl <| At.getI fl_X3_77 sh_19 (le149 sh_19) dX3_number_18 <| At.iloadn dX3_number_21 rfl <| At.icmp_lt_t (tgt := 41) dX3_number_22 (by decide) c8 <| ?_
      refine At.aloadn dX3_number_41 rfl <| At.iconst dX3_number_42 (by decide) <| ?_
      obtain ⟨q1, hq1, h⟩ := bnd_e h
      refine At.cV0 (av := [vi 3]) (rest := []) mv_X3_fail lk_X3_80 dX3_number_43 rfl rfl sh_19 (Nat.le_of_ble_eq_true rfl) (by decide) ⟨rfl, rfl⟩ (rX3_fail hq1) <| At.iconst dX3_number_46 (by decide) <| ?_
      obtain rfl := Option.some.inj h
      exact At.iret rfl (Nat.zero_le _) (Nat.zero_le _) ⟨rfl, rfl⟩ dX3_number_47
    · refine At.aloadn dX3_number_17 rfl <| At.getI fl_X3_77 sh_19 (le149 sh_19) dX3_number_18 <| At.iloadn dX3_number_21 rfl <| At.icmp_lt_f (tgt := 41) dX3_number_22 (by decide) c8 <| ?_
      rcases ite_e h with ⟨c7, h⟩ | ⟨c7, h⟩
      · refine At.aloadn dX3_number_25 rfl <| At.getI fl_X3_77 sh_19 (le149 sh_19) dX3_number_26 <| At.iloadn dX3_number_29 rfl <| At.icmp_gt_t (tgt := 41) dX3_number_30 (by decide) c7 <| ?_
        refine At.aloadn dX3_number_41 rfl <| At.iconst dX3_number_42 (by decide) <| ?_
        obtain ⟨q2, hq2, h⟩ := bnd_e h
        refine At.cV0 (av := [vi 3]) (rest := []) mv_X3_fail lk_X3_80 dX3_number_43 rfl rfl sh_19 (Nat.le_of_ble_eq_true rfl) (by decide) ⟨rfl, rfl⟩ (rX3_fail hq2) <| At.iconst dX3_number_46 (by decide) <| ?_
        obtain rfl := Option.some.inj h
        exact At.iret rfl (Nat.zero_le _) (Nat.zero_le _) ⟨rfl, rfl⟩ dX3_number_47
      · refine At.aloadn dX3_number_25 rfl <| At.getI fl_X3_77 sh_19 (le149 sh_19) dX3_number_26 <| At.iloadn dX3_number_29 rfl <| At.icmp_gt_f (tgt := 41) dX3_number_30 (by decide) c7 <| ?_
        rcases ite_e h with ⟨c6, h⟩ | ⟨c6, h⟩
        · refine At.aloadn dX3_number_33 rfl <| At.getI fl_X3_77 sh_19 (le149 sh_19) dX3_number_34 <| At.iloadn dX3_number_37 rfl <| At.icmp_ne_f (tgt := 48) dX3_number_38 (by decide) c6 <| ?_
          refine At.aloadn dX3_number_41 rfl <| At.iconst dX3_number_42 (by decide) <| ?_
          obtain ⟨q3, hq3, h⟩ := bnd_e h
          refine At.cV0 (av := [vi 3]) (rest := []) mv_X3_fail lk_X3_80 dX3_number_43 rfl rfl sh_19 (Nat.le_of_ble_eq_true rfl) (by decide) ⟨rfl, rfl⟩ (rX3_fail hq3) <| At.iconst dX3_number_46 (by decide) <| ?_
          obtain rfl := Option.some.inj h
          exact At.iret rfl (Nat.zero_le _) (Nat.zero_le _) ⟨rfl, rfl⟩ dX3_number_47
        · refine At.aloadn dX3_number_33 rfl <| At.getI fl_X3_77 sh_19 (le149 sh_19) dX3_number_34 <| At.iloadn dX3_number_37 rfl <| At.icmp_ne_t (tgt := 48) dX3_number_38 (by decide) c6 <| ?_
          refine At.aloadn dX3_number_48 rfl <| At.getI fl_X3_77 sh_19 (le149 sh_19) dX3_number_49 <| ?_
          obtain ⟨x4, hx4, h⟩ := lt_e h
          refine At.nm hx4 <| At.istore (ls' := [(4, vi x4), (0, vr 19), (1, vi p1), (2, vi p2), (3, vi p3)]) dX3_number_52 (by decide) rfl <| At.aloadn dX3_number_54 rfl <| ?_
          obtain ⟨q5, hq5, h⟩ := bnd_e h
          refine At.cV0 (av := []) (rest := []) mv_X3_advance lk_X3_47 dX3_number_55 rfl rfl sh_19 (Nat.le_of_ble_eq_true rfl) (by decide) ⟨rfl, rfl⟩ (rX3_advance hq5) <| At.iload dX3_number_58 rfl <| ?_
          obtain rfl := Option.some.inj h
          exact At.iret rfl (Nat.zero_le _) (Nat.zero_le _) ⟨rfl, rfl⟩ dX3_number_60
  · refine At.aloadn dX3_number_0 rfl <| At.getI fl_X3_64 sh_19 (le149 sh_19) dX3_number_1 <| At.sipush dX3_number_4 (by decide) <| At.icmp_eq_f (tgt := 17) dX3_number_7 (by decide) c10 <| ?_
    refine At.aloadn dX3_number_10 rfl <| At.iconst dX3_number_11 (by decide) <| ?_
    obtain ⟨q9, hq9, h⟩ := bnd_e h
    refine At.cV0 (av := [vi 2]) (rest := []) mv_X3_fail lk_X3_80 dX3_number_12 rfl rfl sh_19 (Nat.le_of_ble_eq_true rfl) (by decide) ⟨rfl, rfl⟩ (rX3_fail hq9) <| At.iconst dX3_number_15 (by decide) <| ?_
    obtain rfl := Option.some.inj h
    exact At.iret rfl (Nat.zero_le _) (Nat.zero_le _) ⟨rfl, rfl⟩ dX3_number_16
def fX3_part (S : SS) : Option SS :=
  lt (S 19 5) fun x1 =>
  Option.bind (fX3_advance  S) fun q2 =>
  if x1 = 1009 then (
    Option.bind (fX3_number 0 3 ((-1)) q2) fun q3 =>
    Option.bind (fX6_setSign 26 (w32 ((q2 21 6) - 1)) q3.1 q3.2) fun q4 =>
    some q4
  ) else (
    Option.bind (fX3_number 0 9 ((-1)) q2) fun q5 =>
    Option.bind (
      if x1 = 1008 then (
        some (w32 (-q5.1))
      ) else (
        some q5.1
      )
      : Option (Int)) fun q6 =>
    Option.bind (fX8_setYears 21 q6 q5.2) fun q8 =>
    some q8
  )
set_option maxRecDepth 100000 in
set_option maxHeartbeats 4000000 in
theorem rX3_part {G : GG} {S : SS} {rr : SS} (h : fX3_part  S = some rr) : RD G mX3_part 9 [vr 19] S none rr := by
  unfold fX3_part at h
  refine Runs.of pl_X3 (Nat.le_of_ble_eq_true rfl) ?_
  show At G mX3_part 9 0 [(0, vr 19)] [] (mm S) 0 0 (EQ none rr)
  refine At.aloadn dX3_part_0 rfl <| At.getI fl_X3_64 sh_19 (le149 sh_19) dX3_part_1 <| ?_
  obtain ⟨x1, hx1, h⟩ := lt_e h
  refine At.nm hx1 <| At.istoren (ls' := [(1, vi x1), (0, vr 19)]) dX3_part_4 (by decide) rfl <| At.aloadn dX3_part_5 rfl <| ?_
  obtain ⟨q2, hq2, h⟩ := bnd_e h
  rcases ite_e h with ⟨c9, h⟩ | ⟨c9, h⟩
  · refine At.cV0 (av := []) (rest := []) mv_X3_advance lk_X3_47 dX3_part_6 rfl rfl sh_19 (Nat.le_of_ble_eq_true rfl) (by decide) ⟨rfl, rfl⟩ (rX3_advance hq2) <| At.iloadn dX3_part_9 rfl <| At.sipush dX3_part_10 (by decide) <| At.icmp_ne_f (tgt := 45) dX3_part_13 (by decide) c9 <| ?_
    refine At.aloadn dX3_part_16 rfl <| At.getR fl_X3_18 sh_19 (le149 sh_19) rf_19_1 dX3_part_17 <| At.getR fl_X3_113 sh_21 (le149 sh_21) rf_21_4 dX3_part_20 <| At.aloadn dX3_part_23 rfl <| At.getR fl_X3_18 sh_19 (le149 sh_19) rf_19_1 dX3_part_24 <| At.getI fl_X3_128 sh_21 (le149 sh_21) dX3_part_27 <| At.iconst dX3_part_30 (by decide) <| At.isub dX3_part_31 <| At.aloadn dX3_part_32 rfl <| At.iconst dX3_part_33 (by decide) <| At.iconst dX3_part_34 (by decide) <| At.iconst dX3_part_35 (by decide) <| ?_
    obtain ⟨q3, hq3, h⟩ := bnd_e h
    refine At.cV1 (av := [vi 0, vi 3, vi ((-1))]) (rest := [vi (w32 ((q2 21 6) - 1)), vr 26]) mv_X3_number lk_X3_54 dX3_part_36 rfl rfl sh_19 (Nat.le_of_ble_eq_true rfl) (by decide) ⟨rfl, rfl⟩ (rX3_number hq3) <| ?_
    obtain ⟨q4, hq4, h⟩ := bnd_e h
    refine At.cV0 (av := [vi (w32 ((q2 21 6) - 1)), vi q3.1]) (rest := []) mv_X6_setSign lk_X3_142 dX3_part_39 rfl rfl sh_26 (Nat.le_of_ble_eq_true rfl) (by decide) ⟨rfl, rfl⟩ (rX6_setSign sh_26 hq4) <| At.goto (tgt := 74) dX3_part_42 (by decide) <| ?_
    obtain rfl := Option.some.inj h
    exact At.vret rfl (Nat.zero_le _) (Nat.zero_le _) ⟨rfl, rfl⟩ dX3_part_74
  · refine At.cV0 (av := []) (rest := []) mv_X3_advance lk_X3_47 dX3_part_6 rfl rfl sh_19 (Nat.le_of_ble_eq_true rfl) (by decide) ⟨rfl, rfl⟩ (rX3_advance hq2) <| At.iloadn dX3_part_9 rfl <| At.sipush dX3_part_10 (by decide) <| At.icmp_ne_t (tgt := 45) dX3_part_13 (by decide) c9 <| ?_
    refine At.aloadn dX3_part_45 rfl <| At.iconst dX3_part_46 (by decide) <| At.bipush dX3_part_47 (by decide) <| At.iconst dX3_part_49 (by decide) <| ?_
    obtain ⟨q5, hq5, h⟩ := bnd_e h
    obtain ⟨q6, hj71, h⟩ := bnd_e h
    have K71 : At G mX3_part 9 71 [] [vi q6, vr 21] (mm q5.2) 0 0 (EQ none rr) := by
      obtain ⟨q8, hq8, h⟩ := bnd_e h
      refine At.cV0 (av := [vi q6]) (rest := []) mv_X8_setYears lk_X3_145 dX3_part_71 rfl rfl sh_21 (Nat.le_of_ble_eq_true rfl) (by decide) ⟨rfl, rfl⟩ (rX8_setYears sh_21 hq8) <| ?_
      obtain rfl := Option.some.inj h
      exact At.vret rfl (Nat.zero_le _) (Nat.zero_le _) ⟨rfl, rfl⟩ dX3_part_74
    clear h; have h := hj71; clear hj71
    rcases ite_e h with ⟨c7, h⟩ | ⟨c7, h⟩
    · refine At.cV1 (av := [vi 0, vi 9, vi ((-1))]) (rest := []) mv_X3_number lk_X3_54 dX3_part_50 rfl rfl sh_19 (Nat.le_of_ble_eq_true rfl) (by decide) ⟨rfl, rfl⟩ (rX3_number hq5) <| At.istoren (ls' := [(2, vi q5.1), (1, vi x1), (0, vr 19)]) dX3_part_53 (by decide) rfl <| At.aloadn dX3_part_54 rfl <| At.getR fl_X3_18 sh_19 (le149 sh_19) rf_19_1 dX3_part_55 <| At.iloadn dX3_part_58 rfl <| At.sipush dX3_part_59 (by decide) <| At.icmp_ne_f (tgt := 70) dX3_part_62 (by decide) c7 <| ?_
      refine At.iloadn dX3_part_65 rfl <| At.ineg dX3_part_66 <| At.goto (tgt := 71) dX3_part_67 (by decide) <| ?_
      obtain rfl := Option.some.inj h
      exact At.sub [] rfl K71
    · refine At.cV1 (av := [vi 0, vi 9, vi ((-1))]) (rest := []) mv_X3_number lk_X3_54 dX3_part_50 rfl rfl sh_19 (Nat.le_of_ble_eq_true rfl) (by decide) ⟨rfl, rfl⟩ (rX3_number hq5) <| At.istoren (ls' := [(2, vi q5.1), (1, vi x1), (0, vr 19)]) dX3_part_53 (by decide) rfl <| At.aloadn dX3_part_54 rfl <| At.getR fl_X3_18 sh_19 (le149 sh_19) rf_19_1 dX3_part_55 <| At.iloadn dX3_part_58 rfl <| At.sipush dX3_part_59 (by decide) <| At.icmp_ne_t (tgt := 70) dX3_part_62 (by decide) c7 <| ?_
      refine At.iloadn dX3_part_70 rfl <| ?_
      obtain rfl := Option.some.inj h
      exact At.sub [] rfl K71
def fX3_streetLine_L65 : Nat → Int → SS → Option (SS)
  | 0, _, _ => none
  | n + 1, l3, S =>
    if 900 ≤ l3 then (
      some S
    ) else (
      Option.bind (fX3_isPart  S) fun q1 =>
      if q1 = true then (
        Option.bind (fX3_part  S) fun q2 =>
        lt (w32 (l3 + 1)) fun x3 =>
        fX3_streetLine_L65 n x3 q2
      ) else (
        some S
      )
    )
def fX3_streetLine (S : SS) : Option SS :=
  if (S 21 6) < 8 then (
    Option.bind (fX3_advance  S) fun q1 =>
    Option.bind (fX3_number 0 (w32 ((q1 21 5) - 1)) ((-1)) q1) fun q2 =>
    Option.bind (fX3_number 0 (w32 ((q2.2 21 5) - 1)) q2.1 q2.2) fun q3 =>
    Option.bind (fX8_addStreet 21 q2.1 q3.1 q3.2) fun q4 =>
    Option.bind (fX3_streetLine_L65 FU 0 q4) fun q5 =>
    some q5
  ) else (
    Option.bind (fX3_fail 4 S) fun q7 =>
    some q7
  )
set_option maxRecDepth 100000 in
set_option maxHeartbeats 4000000 in
theorem lX3_streetLine_L65 {G : GG} {Φ : Option VV → MM → Prop} : ∀ (n : Nat) (l3 : Int) (S : SS) (q : SS), fX3_streetLine_L65 n l3 S = some q → At G mX3_streetLine 10 89 [] [] (mm q) 0 0 Φ → At G mX3_streetLine 10 65 [(0, vr 19), (3, vi l3)] [] (mm S) 0 0 Φ := by
  intro n
  induction n with
  | zero =>
    intro _ _ _ h
    cases h
  | succ n ih =>
    intro l3 S q h K89
    unfold fX3_streetLine_L65 at h
    rcases ite_e h with ⟨c5, h⟩ | ⟨c5, h⟩
    · refine At.iloadn dX3_streetLine_65 rfl <| At.sipush dX3_streetLine_66 (by decide) <| At.icmp_ge_t (tgt := 89) dX3_streetLine_69 (by decide) c5 <| ?_
      obtain rfl := Option.some.inj h
      exact At.sub [] rfl K89
    · refine At.iloadn dX3_streetLine_65 rfl <| At.sipush dX3_streetLine_66 (by decide) <| At.icmp_ge_f (tgt := 89) dX3_streetLine_69 (by decide) c5 <| ?_
      refine At.aloadn dX3_streetLine_72 rfl <| ?_
      obtain ⟨q1, hq1, h⟩ := bnd_e h
      rcases ite_e h with ⟨c4, h⟩ | ⟨c4, h⟩
      · refine At.cV1 (av := []) (rest := []) mv_X3_isPart lk_X3_135 dX3_streetLine_73 rfl rfl sh_19 (Nat.le_of_ble_eq_true rfl) (by decide) ⟨rfl, rfl⟩ (rX3_isPart hq1) <| At.bifeq_f (tgt := 89) dX3_streetLine_76 (by decide) c4 <| ?_
        refine At.aloadn dX3_streetLine_79 rfl <| ?_
        obtain ⟨q2, hq2, h⟩ := bnd_e h
        refine At.cV0 (av := []) (rest := []) mv_X3_part lk_X3_139 dX3_streetLine_80 rfl rfl sh_19 (Nat.le_of_ble_eq_true rfl) (by decide) ⟨rfl, rfl⟩ (rX3_part hq2) <| ?_
        obtain ⟨x3, hx3, h⟩ := lt_e h
        refine At.iinc (ls' := [(3, vi x3), (0, vr 19)]) dX3_streetLine_83 rfl (by decide) (by rw [hx3]; rfl) <| At.goto (tgt := 65) dX3_streetLine_86 (by decide) <| ?_
        exact At.sub [1, 0] rfl (ih _ _ _ h K89)
      · refine At.cV1 (av := []) (rest := []) mv_X3_isPart lk_X3_135 dX3_streetLine_73 rfl rfl sh_19 (Nat.le_of_ble_eq_true rfl) (by decide) ⟨rfl, rfl⟩ (rX3_isPart hq1) <| At.bifeq_t (tgt := 89) dX3_streetLine_76 (by decide) c4 <| ?_
        obtain rfl := Option.some.inj h
        exact At.sub [] rfl K89
set_option maxRecDepth 100000 in
set_option maxHeartbeats 4000000 in
theorem rX3_streetLine {G : GG} {S : SS} {rr : SS} (h : fX3_streetLine  S = some rr) : RD G mX3_streetLine 10 [vr 19] S none rr := by
  unfold fX3_streetLine at h
  refine Runs.of pl_X3 (Nat.le_of_ble_eq_true rfl) ?_
  show At G mX3_streetLine 10 0 [(0, vr 19)] [] (mm S) 0 0 (EQ none rr)
  rcases ite_e h with ⟨c8, h⟩ | ⟨c8, h⟩
  · refine At.aloadn dX3_streetLine_0 rfl <| At.getR fl_X3_18 sh_19 (le149 sh_19) rf_19_1 dX3_streetLine_1 <| At.getI fl_X3_128 sh_21 (le149 sh_21) dX3_streetLine_4 <| At.bipush dX3_streetLine_7 (by decide) <| At.icmp_lt_t (tgt := 18) dX3_streetLine_9 (by decide) c8 <| ?_
    refine At.aloadn dX3_streetLine_18 rfl <| ?_
    obtain ⟨q1, hq1, h⟩ := bnd_e h
    refine At.cV0 (av := []) (rest := []) mv_X3_advance lk_X3_47 dX3_streetLine_19 rfl rfl sh_19 (Nat.le_of_ble_eq_true rfl) (by decide) ⟨rfl, rfl⟩ (rX3_advance hq1) <| At.aloadn dX3_streetLine_22 rfl <| At.iconst dX3_streetLine_23 (by decide) <| At.aloadn dX3_streetLine_24 rfl <| At.getR fl_X3_18 sh_19 (le149 sh_19) rf_19_1 dX3_streetLine_25 <| At.getI fl_X3_58 sh_21 (le149 sh_21) dX3_streetLine_28 <| At.iconst dX3_streetLine_31 (by decide) <| At.isub dX3_streetLine_32 <| At.iconst dX3_streetLine_33 (by decide) <| ?_
    obtain ⟨q2, hq2, h⟩ := bnd_e h
    refine At.cV1 (av := [vi 0, vi (w32 ((q1 21 5) - 1)), vi ((-1))]) (rest := []) mv_X3_number lk_X3_54 dX3_streetLine_34 rfl rfl sh_19 (Nat.le_of_ble_eq_true rfl) (by decide) ⟨rfl, rfl⟩ (rX3_number hq2) <| At.istoren (ls' := [(1, vi q2.1), (0, vr 19)]) dX3_streetLine_37 (by decide) rfl <| At.aloadn dX3_streetLine_38 rfl <| At.iconst dX3_streetLine_39 (by decide) <| At.aloadn dX3_streetLine_40 rfl <| At.getR fl_X3_18 sh_19 (le149 sh_19) rf_19_1 dX3_streetLine_41 <| At.getI fl_X3_58 sh_21 (le149 sh_21) dX3_streetLine_44 <| At.iconst dX3_streetLine_47 (by decide) <| At.isub dX3_streetLine_48 <| At.iloadn dX3_streetLine_49 rfl <| ?_
    obtain ⟨q3, hq3, h⟩ := bnd_e h
    refine At.cV1 (av := [vi 0, vi (w32 ((q2.2 21 5) - 1)), vi q2.1]) (rest := []) mv_X3_number lk_X3_54 dX3_streetLine_50 rfl rfl sh_19 (Nat.le_of_ble_eq_true rfl) (by decide) ⟨rfl, rfl⟩ (rX3_number hq3) <| At.istoren (ls' := [(2, vi q3.1), (1, vi q2.1), (0, vr 19)]) dX3_streetLine_53 (by decide) rfl <| At.aloadn dX3_streetLine_54 rfl <| At.getR fl_X3_18 sh_19 (le149 sh_19) rf_19_1 dX3_streetLine_55 <| At.iloadn dX3_streetLine_58 rfl <| At.iloadn dX3_streetLine_59 rfl <| ?_
    obtain ⟨q4, hq4, h⟩ := bnd_e h
    refine At.cV0 (av := [vi q2.1, vi q3.1]) (rest := []) mv_X8_addStreet lk_X3_131 dX3_streetLine_60 rfl rfl sh_21 (Nat.le_of_ble_eq_true rfl) (by decide) ⟨rfl, rfl⟩ (rX8_addStreet sh_21 hq4) <| At.iconst dX3_streetLine_63 (by decide) <| At.istoren (ls' := [(3, vi 0), (2, vi q3.1), (1, vi q2.1), (0, vr 19)]) dX3_streetLine_64 (by decide) rfl <| ?_
    obtain ⟨q5, ho6, h⟩ := bnd_e h
    refine At.sub [3, 0] rfl (lX3_streetLine_L65 FU _ _ q5 ho6 ?_)
    obtain rfl := Option.some.inj h
    exact At.vret rfl (Nat.zero_le _) (Nat.zero_le _) ⟨rfl, rfl⟩ dX3_streetLine_89
  · refine At.aloadn dX3_streetLine_0 rfl <| At.getR fl_X3_18 sh_19 (le149 sh_19) rf_19_1 dX3_streetLine_1 <| At.getI fl_X3_128 sh_21 (le149 sh_21) dX3_streetLine_4 <| At.bipush dX3_streetLine_7 (by decide) <| At.icmp_lt_f (tgt := 18) dX3_streetLine_9 (by decide) c8 <| ?_
    refine At.aloadn dX3_streetLine_12 rfl <| At.iconst dX3_streetLine_13 (by decide) <| ?_
    obtain ⟨q7, hq7, h⟩ := bnd_e h
    refine At.cV0 (av := [vi 4]) (rest := []) mv_X3_fail lk_X3_80 dX3_streetLine_14 rfl rfl sh_19 (Nat.le_of_ble_eq_true rfl) (by decide) ⟨rfl, rfl⟩ (rX3_fail hq7) <| ?_
    obtain rfl := Option.some.inj h
    exact At.vret rfl (Nat.zero_le _) (Nat.zero_le _) ⟨rfl, rfl⟩ dX3_streetLine_17
def fX3_goerLine (S : SS) : Option SS :=
  if (S 21 7) < 3 then (
    Option.bind (fX3_advance  S) fun q1 =>
    Option.bind (fX3_number 0 (w32 ((q1 21 5) - 1)) ((-1)) q1) fun q2 =>
    Option.bind (fX3_expect 1003 q2.2) fun q3 =>
    Option.bind (fX3_number 0 19 ((-1)) q3) fun q4 =>
    Option.bind (fX6_setGoer 26 (q4.2 21 7) q2.1 q4.1 q4.2) fun q5 =>
    lt (up q5 21 7 (w32 ((q5 21 7) + 1))) fun S6 =>
    some S6
  ) else (
    Option.bind (fX3_fail 4 S) fun q7 =>
    some q7
  )
set_option maxRecDepth 100000 in
set_option maxHeartbeats 4000000 in
theorem rX3_goerLine {G : GG} {S : SS} {rr : SS} (h : fX3_goerLine  S = some rr) : RD G mX3_goerLine 9 [vr 19] S none rr := by
  unfold fX3_goerLine at h
  refine Runs.of pl_X3 (Nat.le_of_ble_eq_true rfl) ?_
  show At G mX3_goerLine 9 0 [(0, vr 19)] [] (mm S) 0 0 (EQ none rr)
  rcases ite_e h with ⟨c8, h⟩ | ⟨c8, h⟩
  · refine At.aloadn dX3_goerLine_0 rfl <| At.getR fl_X3_18 sh_19 (le149 sh_19) rf_19_1 dX3_goerLine_1 <| At.getI fl_X3_148 sh_21 (le149 sh_21) dX3_goerLine_4 <| At.iconst dX3_goerLine_7 (by decide) <| At.icmp_lt_t (tgt := 17) dX3_goerLine_8 (by decide) c8 <| ?_
    refine At.aloadn dX3_goerLine_17 rfl <| ?_
    obtain ⟨q1, hq1, h⟩ := bnd_e h
    refine At.cV0 (av := []) (rest := []) mv_X3_advance lk_X3_47 dX3_goerLine_18 rfl rfl sh_19 (Nat.le_of_ble_eq_true rfl) (by decide) ⟨rfl, rfl⟩ (rX3_advance hq1) <| At.aloadn dX3_goerLine_21 rfl <| At.iconst dX3_goerLine_22 (by decide) <| At.aloadn dX3_goerLine_23 rfl <| At.getR fl_X3_18 sh_19 (le149 sh_19) rf_19_1 dX3_goerLine_24 <| At.getI fl_X3_58 sh_21 (le149 sh_21) dX3_goerLine_27 <| At.iconst dX3_goerLine_30 (by decide) <| At.isub dX3_goerLine_31 <| At.iconst dX3_goerLine_32 (by decide) <| ?_
    obtain ⟨q2, hq2, h⟩ := bnd_e h
    refine At.cV1 (av := [vi 0, vi (w32 ((q1 21 5) - 1)), vi ((-1))]) (rest := []) mv_X3_number lk_X3_54 dX3_goerLine_33 rfl rfl sh_19 (Nat.le_of_ble_eq_true rfl) (by decide) ⟨rfl, rfl⟩ (rX3_number hq2) <| At.istoren (ls' := [(1, vi q2.1), (0, vr 19)]) dX3_goerLine_36 (by decide) rfl <| At.aloadn dX3_goerLine_37 rfl <| At.sipush dX3_goerLine_38 (by decide) <| ?_
    obtain ⟨q3, hq3, h⟩ := bnd_e h
    refine At.cV0 (av := [vi 1003]) (rest := []) mv_X3_expect lk_X3_50 dX3_goerLine_41 rfl rfl sh_19 (Nat.le_of_ble_eq_true rfl) (by decide) ⟨rfl, rfl⟩ (rX3_expect hq3) <| At.aloadn dX3_goerLine_44 rfl <| At.iconst dX3_goerLine_45 (by decide) <| At.bipush dX3_goerLine_46 (by decide) <| At.iconst dX3_goerLine_48 (by decide) <| ?_
    obtain ⟨q4, hq4, h⟩ := bnd_e h
    refine At.cV1 (av := [vi 0, vi 19, vi ((-1))]) (rest := []) mv_X3_number lk_X3_54 dX3_goerLine_49 rfl rfl sh_19 (Nat.le_of_ble_eq_true rfl) (by decide) ⟨rfl, rfl⟩ (rX3_number hq4) <| At.istoren (ls' := [(2, vi q4.1), (1, vi q2.1), (0, vr 19)]) dX3_goerLine_52 (by decide) rfl <| At.aloadn dX3_goerLine_53 rfl <| At.getR fl_X3_18 sh_19 (le149 sh_19) rf_19_1 dX3_goerLine_54 <| At.getR fl_X3_113 sh_21 (le149 sh_21) rf_21_4 dX3_goerLine_57 <| At.aloadn dX3_goerLine_60 rfl <| At.getR fl_X3_18 sh_19 (le149 sh_19) rf_19_1 dX3_goerLine_61 <| At.getI fl_X3_148 sh_21 (le149 sh_21) dX3_goerLine_64 <| At.iloadn dX3_goerLine_67 rfl <| At.iloadn dX3_goerLine_68 rfl <| ?_
    obtain ⟨q5, hq5, h⟩ := bnd_e h
    refine At.cV0 (av := [vi (q4.2 21 7), vi q2.1, vi q4.1]) (rest := []) mv_X6_setGoer lk_X3_151 dX3_goerLine_69 rfl rfl sh_26 (Nat.le_of_ble_eq_true rfl) (by decide) ⟨rfl, rfl⟩ (rX6_setGoer sh_26 hq5) <| At.aloadn dX3_goerLine_72 rfl <| At.getR fl_X3_18 sh_19 (le149 sh_19) rf_19_1 dX3_goerLine_73 <| At.dup rfl dX3_goerLine_76 <| At.getI fl_X3_148 sh_21 (le149 sh_21) dX3_goerLine_77 <| At.iconst dX3_goerLine_80 (by decide) <| At.iadd dX3_goerLine_81 <| ?_
    obtain ⟨S6, hS6, h⟩ := lt_e h
    refine At.putI fw_X3_148 sh_21 (le149 sh_21) dX3_goerLine_82 <| At.nmS hS6 <| ?_
    obtain rfl := Option.some.inj h
    exact At.vret rfl (Nat.zero_le _) (Nat.zero_le _) ⟨rfl, rfl⟩ dX3_goerLine_85
  · refine At.aloadn dX3_goerLine_0 rfl <| At.getR fl_X3_18 sh_19 (le149 sh_19) rf_19_1 dX3_goerLine_1 <| At.getI fl_X3_148 sh_21 (le149 sh_21) dX3_goerLine_4 <| At.iconst dX3_goerLine_7 (by decide) <| At.icmp_lt_f (tgt := 17) dX3_goerLine_8 (by decide) c8 <| ?_
    refine At.aloadn dX3_goerLine_11 rfl <| At.iconst dX3_goerLine_12 (by decide) <| ?_
    obtain ⟨q7, hq7, h⟩ := bnd_e h
    refine At.cV0 (av := [vi 4]) (rest := []) mv_X3_fail lk_X3_80 dX3_goerLine_13 rfl rfl sh_19 (Nat.le_of_ble_eq_true rfl) (by decide) ⟨rfl, rfl⟩ (rX3_fail hq7) <| ?_
    obtain rfl := Option.some.inj h
    exact At.vret rfl (Nat.zero_le _) (Nat.zero_le _) ⟨rfl, rfl⟩ dX3_goerLine_16
def fX3_goesDeeper (p1 : Int) (S : SS) : Option (Bool × SS) :=
  if p1 < 6 then (
    Option.bind (fX3_advance  S) fun q1 =>
    some (true, q1)
  ) else (
    Option.bind (fX3_fail 4 S) fun q2 =>
    some (false, q2)
  )
set_option maxRecDepth 100000 in
set_option maxHeartbeats 4000000 in
theorem rX3_goesDeeper {G : GG} {p1 : Int} {S : SS} {rr : (Bool × SS)} (h : fX3_goesDeeper p1 S = some rr) : RD G mX3_goesDeeper 8 [vr 19, vi p1] S (some (vi (bI rr.1))) rr.2 := by
  unfold fX3_goesDeeper at h
  refine Runs.of pl_X3 (Nat.le_of_ble_eq_true rfl) ?_
  show At G mX3_goesDeeper 8 0 [(0, vr 19), (1, vi p1)] [] (mm S) 0 0 (EQ (some (vi (bI rr.1))) rr.2)
  rcases ite_e h with ⟨c3, h⟩ | ⟨c3, h⟩
  · refine At.iloadn dX3_goesDeeper_0 rfl <| At.bipush dX3_goesDeeper_1 (by decide) <| At.icmp_lt_t (tgt := 13) dX3_goesDeeper_3 (by decide) c3 <| ?_
    refine At.aloadn dX3_goesDeeper_13 rfl <| ?_
    obtain ⟨q1, hq1, h⟩ := bnd_e h
    refine At.cV0 (av := []) (rest := []) mv_X3_advance lk_X3_47 dX3_goesDeeper_14 rfl rfl sh_19 (Nat.le_of_ble_eq_true rfl) (by decide) ⟨rfl, rfl⟩ (rX3_advance hq1) <| At.iconst dX3_goesDeeper_17 (by decide) <| ?_
    obtain rfl := Option.some.inj h
    exact At.zret (b := true) rfl (Nat.zero_le _) (Nat.zero_le _) ⟨rfl, rfl⟩ dX3_goesDeeper_18
  · refine At.iloadn dX3_goesDeeper_0 rfl <| At.bipush dX3_goesDeeper_1 (by decide) <| At.icmp_lt_f (tgt := 13) dX3_goesDeeper_3 (by decide) c3 <| ?_
    refine At.aloadn dX3_goesDeeper_6 rfl <| At.iconst dX3_goesDeeper_7 (by decide) <| ?_
    obtain ⟨q2, hq2, h⟩ := bnd_e h
    refine At.cV0 (av := [vi 4]) (rest := []) mv_X3_fail lk_X3_80 dX3_goesDeeper_8 rfl rfl sh_19 (Nat.le_of_ble_eq_true rfl) (by decide) ⟨rfl, rfl⟩ (rX3_fail hq2) <| At.iconst dX3_goesDeeper_11 (by decide) <| ?_
    obtain rfl := Option.some.inj h
    exact At.zret (b := false) rfl (Nat.zero_le _) (Nat.zero_le _) ⟨rfl, rfl⟩ dX3_goesDeeper_12
def RCX3_truth (G : GG) (rc : Nat → Int → SS → Option SS) (d : Nat) : Prop := (∀ (p1 : Int) (S : SS) (rr : SS), rc 0 p1 S = some rr → RD G mX3_truth d [vr 19, vi p1] S none rr) ∧ (∀ (p1 : Int) (S : SS) (rr : SS), rc 1 p1 S = some rr → RD G mX3_both d [vr 19, vi p1] S none rr) ∧ (∀ (p1 : Int) (S : SS) (rr : SS), rc 2 p1 S = some rr → RD G mX3_unit d [vr 19, vi p1] S none rr) ∧ (∀ (p1 : Int) (S : SS) (rr : SS), rc 3 p1 S = some rr → RD G mX3_comparison d [vr 19, vi p1] S none rr) ∧ (∀ (p1 : Int) (S : SS) (rr : SS), rc 4 p1 S = some rr → RD G mX3_sum d [vr 19, vi p1] S none rr) ∧ (∀ (p1 : Int) (S : SS) (rr : SS), rc 5 p1 S = some rr → RD G mX3_term d [vr 19, vi p1] S none rr) ∧ (∀ (p1 : Int) (S : SS) (rr : SS), rc 6 p1 S = some rr → RD G mX3_atom d [vr 19, vi p1] S none rr) ∧ (∀ (p1 : Int) (S : SS) (rr : SS), rc 7 p1 S = some rr → RD G mX3_choice d [vr 19, vi p1] S none rr)
def fX3_truth_L7 (rc : Nat → Int → SS → Option SS) (l1 : Int) : Nat → Int → SS → Option (SS)
  | 0, _, _ => none
  | n + 1, l2, S =>
    if 900 ≤ l2 then (
      some S
    ) else (
      if (S 19 5) = 1017 then (
        Option.bind (fX3_advance  S) fun q1 =>
        Option.bind (rc 1 l1 q1) fun q2 =>
        Option.bind (fX8_addCode 21 3017 q2) fun q3 =>
        lt (w32 (l2 + 1)) fun x4 =>
        fX3_truth_L7 rc l1 n x4 q3
      ) else (
        some S
      )
    )
def fX3_truth (rc : Nat → Int → SS → Option SS) (p1 : Int) (S : SS) : Option SS :=
  Option.bind (rc 1 p1 S) fun q1 =>
  Option.bind (fX3_truth_L7 rc p1 FU 0 q1) fun q2 =>
  some q2
set_option maxRecDepth 100000 in
set_option maxHeartbeats 4000000 in
theorem lX3_truth_L7 {G : GG} {Φ : Option VV → MM → Prop} {rc : Nat → Int → SS → Option SS} {d : Nat} (hrc : RCX3_truth G rc d) (hd0 : 9 ≤ d) {l1 : Int} : ∀ (n : Nat) (l2 : Int) (S : SS) (q : SS), fX3_truth_L7 rc l1 n l2 S = some q → At G mX3_truth (d + 1) 49 [] [] (mm q) 0 0 Φ → At G mX3_truth (d + 1) 7 [(0, vr 19), (1, vi l1), (2, vi l2)] [] (mm S) 0 0 Φ := by
  intro n
  induction n with
  | zero =>
    intro _ _ _ h
    cases h
  | succ n ih =>
    intro l2 S q h K49
    unfold fX3_truth_L7 at h
    rcases ite_e h with ⟨c6, h⟩ | ⟨c6, h⟩
    · refine At.iloadn dX3_truth_7 rfl <| At.sipush dX3_truth_8 (by decide) <| At.icmp_ge_t (tgt := 49) dX3_truth_11 (by decide) c6 <| ?_
      obtain rfl := Option.some.inj h
      exact At.sub [] rfl K49
    · refine At.iloadn dX3_truth_7 rfl <| At.sipush dX3_truth_8 (by decide) <| At.icmp_ge_f (tgt := 49) dX3_truth_11 (by decide) c6 <| ?_
      rcases ite_e h with ⟨c5, h⟩ | ⟨c5, h⟩
      · refine At.aloadn dX3_truth_14 rfl <| At.getI fl_X3_64 sh_19 (le149 sh_19) dX3_truth_15 <| At.sipush dX3_truth_18 (by decide) <| At.icmp_ne_f (tgt := 49) dX3_truth_21 (by decide) c5 <| ?_
        refine At.aloadn dX3_truth_24 rfl <| ?_
        obtain ⟨q1, hq1, h⟩ := bnd_e h
        refine At.cV0 (av := []) (rest := []) mv_X3_advance lk_X3_47 dX3_truth_25 rfl rfl sh_19 (Nat.le_of_ble_eq_true rfl) (by omega) ⟨rfl, rfl⟩ (rX3_advance hq1) <| At.aloadn dX3_truth_28 rfl <| At.iloadn dX3_truth_29 rfl <| ?_
        obtain ⟨q2, hq2, h⟩ := bnd_e h
        refine At.cV0 (av := [vi l1]) (rest := []) mv_X3_both lk_X3_180 dX3_truth_30 rfl rfl sh_19 (Nat.le_of_ble_eq_true rfl) (Nat.le_refl _) ⟨rfl, rfl⟩ (hrc.2.1 _ _ _ hq2) <| At.aloadn dX3_truth_33 rfl <| At.getR fl_X3_18 sh_19 (le149 sh_19) rf_19_1 dX3_truth_34 <| At.sipush dX3_truth_37 (by decide) <| ?_
        obtain ⟨q3, hq3, h⟩ := bnd_e h
        refine At.cV0 (av := [vi 3017]) (rest := []) mv_X8_addCode lk_X3_183 dX3_truth_40 rfl rfl sh_21 (Nat.le_of_ble_eq_true rfl) (by omega) ⟨rfl, rfl⟩ (rX8_addCode sh_21 hq3) <| ?_
        obtain ⟨x4, hx4, h⟩ := lt_e h
        refine At.iinc (ls' := [(2, vi x4), (0, vr 19), (1, vi l1)]) dX3_truth_43 rfl (by decide) (by rw [hx4]; rfl) <| At.goto (tgt := 7) dX3_truth_46 (by decide) <| ?_
        exact At.sub [1, 2, 0] rfl (ih _ _ _ h K49)
      · refine At.aloadn dX3_truth_14 rfl <| At.getI fl_X3_64 sh_19 (le149 sh_19) dX3_truth_15 <| At.sipush dX3_truth_18 (by decide) <| At.icmp_ne_t (tgt := 49) dX3_truth_21 (by decide) c5 <| ?_
        obtain rfl := Option.some.inj h
        exact At.sub [] rfl K49
set_option maxRecDepth 100000 in
set_option maxHeartbeats 4000000 in
theorem rX3_truth {G : GG} {rc : Nat → Int → SS → Option SS} {d : Nat} (hrc : RCX3_truth G rc d) (hd0 : 9 ≤ d) {p1 : Int} {S : SS} {rr : SS} (h : fX3_truth rc p1 S = some rr) : RD G mX3_truth (d + 1) [vr 19, vi p1] S none rr := by
  unfold fX3_truth at h
  refine Runs.of pl_X3 (Nat.le_of_ble_eq_true rfl) ?_
  show At G mX3_truth (d + 1) 0 [(0, vr 19), (1, vi p1)] [] (mm S) 0 0 (EQ none rr)
  refine At.aloadn dX3_truth_0 rfl <| At.iloadn dX3_truth_1 rfl <| ?_
  obtain ⟨q1, hq1, h⟩ := bnd_e h
  refine At.cV0 (av := [vi p1]) (rest := []) mv_X3_both lk_X3_180 dX3_truth_2 rfl rfl sh_19 (Nat.le_of_ble_eq_true rfl) (Nat.le_refl _) ⟨rfl, rfl⟩ (hrc.2.1 _ _ _ hq1) <| At.iconst dX3_truth_5 (by decide) <| At.istoren (ls' := [(2, vi 0), (0, vr 19), (1, vi p1)]) dX3_truth_6 (by decide) rfl <| ?_
  obtain ⟨q2, ho3, h⟩ := bnd_e h
  refine At.sub [1, 2, 0] rfl (lX3_truth_L7 hrc hd0 FU _ _ q2 ho3 ?_)
  obtain rfl := Option.some.inj h
  exact At.vret rfl (Nat.zero_le _) (Nat.zero_le _) ⟨rfl, rfl⟩ dX3_truth_49
def fX3_both_L7 (rc : Nat → Int → SS → Option SS) (l1 : Int) : Nat → Int → SS → Option (SS)
  | 0, _, _ => none
  | n + 1, l2, S =>
    if 900 ≤ l2 then (
      some S
    ) else (
      if (S 19 5) = 1016 then (
        Option.bind (fX3_advance  S) fun q1 =>
        Option.bind (rc 2 l1 q1) fun q2 =>
        Option.bind (fX8_addCode 21 3016 q2) fun q3 =>
        lt (w32 (l2 + 1)) fun x4 =>
        fX3_both_L7 rc l1 n x4 q3
      ) else (
        some S
      )
    )
def fX3_both (rc : Nat → Int → SS → Option SS) (p1 : Int) (S : SS) : Option SS :=
  Option.bind (rc 2 p1 S) fun q1 =>
  Option.bind (fX3_both_L7 rc p1 FU 0 q1) fun q2 =>
  some q2
set_option maxRecDepth 100000 in
set_option maxHeartbeats 4000000 in
theorem lX3_both_L7 {G : GG} {Φ : Option VV → MM → Prop} {rc : Nat → Int → SS → Option SS} {d : Nat} (hrc : RCX3_truth G rc d) (hd0 : 9 ≤ d) {l1 : Int} : ∀ (n : Nat) (l2 : Int) (S : SS) (q : SS), fX3_both_L7 rc l1 n l2 S = some q → At G mX3_both (d + 1) 49 [] [] (mm q) 0 0 Φ → At G mX3_both (d + 1) 7 [(0, vr 19), (1, vi l1), (2, vi l2)] [] (mm S) 0 0 Φ := by
  intro n
  induction n with
  | zero =>
    intro _ _ _ h
    cases h
  | succ n ih =>
    intro l2 S q h K49
    unfold fX3_both_L7 at h
    rcases ite_e h with ⟨c6, h⟩ | ⟨c6, h⟩
    · refine At.iloadn dX3_both_7 rfl <| At.sipush dX3_both_8 (by decide) <| At.icmp_ge_t (tgt := 49) dX3_both_11 (by decide) c6 <| ?_
      obtain rfl := Option.some.inj h
      exact At.sub [] rfl K49
    · refine At.iloadn dX3_both_7 rfl <| At.sipush dX3_both_8 (by decide) <| At.icmp_ge_f (tgt := 49) dX3_both_11 (by decide) c6 <| ?_
      rcases ite_e h with ⟨c5, h⟩ | ⟨c5, h⟩
      · refine At.aloadn dX3_both_14 rfl <| At.getI fl_X3_64 sh_19 (le149 sh_19) dX3_both_15 <| At.sipush dX3_both_18 (by decide) <| At.icmp_ne_f (tgt := 49) dX3_both_21 (by decide) c5 <| ?_
        refine At.aloadn dX3_both_24 rfl <| ?_
        obtain ⟨q1, hq1, h⟩ := bnd_e h
        refine At.cV0 (av := []) (rest := []) mv_X3_advance lk_X3_47 dX3_both_25 rfl rfl sh_19 (Nat.le_of_ble_eq_true rfl) (by omega) ⟨rfl, rfl⟩ (rX3_advance hq1) <| At.aloadn dX3_both_28 rfl <| At.iloadn dX3_both_29 rfl <| ?_
        obtain ⟨q2, hq2, h⟩ := bnd_e h
        refine At.cV0 (av := [vi l1]) (rest := []) mv_X3_unit lk_X3_186 dX3_both_30 rfl rfl sh_19 (Nat.le_of_ble_eq_true rfl) (Nat.le_refl _) ⟨rfl, rfl⟩ (hrc.2.2.1 _ _ _ hq2) <| At.aloadn dX3_both_33 rfl <| At.getR fl_X3_18 sh_19 (le149 sh_19) rf_19_1 dX3_both_34 <| At.sipush dX3_both_37 (by decide) <| ?_
        obtain ⟨q3, hq3, h⟩ := bnd_e h
        refine At.cV0 (av := [vi 3016]) (rest := []) mv_X8_addCode lk_X3_183 dX3_both_40 rfl rfl sh_21 (Nat.le_of_ble_eq_true rfl) (by omega) ⟨rfl, rfl⟩ (rX8_addCode sh_21 hq3) <| ?_
        obtain ⟨x4, hx4, h⟩ := lt_e h
        refine At.iinc (ls' := [(2, vi x4), (0, vr 19), (1, vi l1)]) dX3_both_43 rfl (by decide) (by rw [hx4]; rfl) <| At.goto (tgt := 7) dX3_both_46 (by decide) <| ?_
        exact At.sub [1, 2, 0] rfl (ih _ _ _ h K49)
      · refine At.aloadn dX3_both_14 rfl <| At.getI fl_X3_64 sh_19 (le149 sh_19) dX3_both_15 <| At.sipush dX3_both_18 (by decide) <| At.icmp_ne_t (tgt := 49) dX3_both_21 (by decide) c5 <| ?_
        obtain rfl := Option.some.inj h
        exact At.sub [] rfl K49
set_option maxRecDepth 100000 in
set_option maxHeartbeats 4000000 in
theorem rX3_both {G : GG} {rc : Nat → Int → SS → Option SS} {d : Nat} (hrc : RCX3_truth G rc d) (hd0 : 9 ≤ d) {p1 : Int} {S : SS} {rr : SS} (h : fX3_both rc p1 S = some rr) : RD G mX3_both (d + 1) [vr 19, vi p1] S none rr := by
  unfold fX3_both at h
  refine Runs.of pl_X3 (Nat.le_of_ble_eq_true rfl) ?_
  show At G mX3_both (d + 1) 0 [(0, vr 19), (1, vi p1)] [] (mm S) 0 0 (EQ none rr)
  refine At.aloadn dX3_both_0 rfl <| At.iloadn dX3_both_1 rfl <| ?_
  obtain ⟨q1, hq1, h⟩ := bnd_e h
  refine At.cV0 (av := [vi p1]) (rest := []) mv_X3_unit lk_X3_186 dX3_both_2 rfl rfl sh_19 (Nat.le_of_ble_eq_true rfl) (Nat.le_refl _) ⟨rfl, rfl⟩ (hrc.2.2.1 _ _ _ hq1) <| At.iconst dX3_both_5 (by decide) <| At.istoren (ls' := [(2, vi 0), (0, vr 19), (1, vi p1)]) dX3_both_6 (by decide) rfl <| ?_
  obtain ⟨q2, ho3, h⟩ := bnd_e h
  refine At.sub [1, 2, 0] rfl (lX3_both_L7 hrc hd0 FU _ _ q2 ho3 ?_)
  obtain rfl := Option.some.inj h
  exact At.vret rfl (Nat.zero_le _) (Nat.zero_le _) ⟨rfl, rfl⟩ dX3_both_49
def fX3_unit (rc : Nat → Int → SS → Option SS) (p1 : Int) (S : SS) : Option SS :=
  if (S 19 5) = 1015 then (
    Option.bind (fX3_goesDeeper p1 S) fun q1 =>
    if q1.1 = true then (
      Option.bind (rc 2 (w32 (p1 + 1)) q1.2) fun q2 =>
      Option.bind (fX8_addCode 21 3015 q2) fun q3 =>
      some q3
    ) else (
      some q1.2
    )
  ) else (
    if (S 19 5) = 91 then (
      Option.bind (fX3_goesDeeper p1 S) fun q5 =>
      if q5.1 = true then (
        Option.bind (rc 0 (w32 (p1 + 1)) q5.2) fun q6 =>
        Option.bind (fX3_expect 93 q6) fun q7 =>
        some q7
      ) else (
        some q5.2
      )
    ) else (
      Option.bind (rc 3 p1 S) fun q9 =>
      some q9
    )
  )
set_option maxRecDepth 100000 in
set_option maxHeartbeats 4000000 in
theorem rX3_unit {G : GG} {rc : Nat → Int → SS → Option SS} {d : Nat} (hrc : RCX3_truth G rc d) (hd0 : 9 ≤ d) {p1 : Int} {S : SS} {rr : SS} (h : fX3_unit rc p1 S = some rr) : RD G mX3_unit (d + 1) [vr 19, vi p1] S none rr := by
  unfold fX3_unit at h
  refine Runs.of pl_X3 (Nat.le_of_ble_eq_true rfl) ?_
  show At G mX3_unit (d + 1) 0 [(0, vr 19), (1, vi p1)] [] (mm S) 0 0 (EQ none rr)
  rcases ite_e h with ⟨c11, h⟩ | ⟨c11, h⟩
  · refine At.aloadn dX3_unit_0 rfl <| At.getI fl_X3_64 sh_19 (le149 sh_19) dX3_unit_1 <| At.sipush dX3_unit_4 (by decide) <| At.icmp_ne_f (tgt := 38) dX3_unit_7 (by decide) c11 <| ?_
    refine At.aloadn dX3_unit_10 rfl <| At.iloadn dX3_unit_11 rfl <| ?_
    obtain ⟨q1, hq1, h⟩ := bnd_e h
    rcases ite_e h with ⟨c4, h⟩ | ⟨c4, h⟩
    · refine At.cV1 (av := [vi p1]) (rest := []) mv_X3_goesDeeper lk_X3_189 dX3_unit_12 rfl rfl sh_19 (Nat.le_of_ble_eq_true rfl) (by omega) ⟨rfl, rfl⟩ (rX3_goesDeeper hq1) <| At.bifeq_f (tgt := 76) dX3_unit_15 (by decide) c4 <| ?_
      refine At.aloadn dX3_unit_18 rfl <| At.iloadn dX3_unit_19 rfl <| At.iconst dX3_unit_20 (by decide) <| At.iadd dX3_unit_21 <| ?_
      obtain ⟨q2, hq2, h⟩ := bnd_e h
      refine At.cV0 (av := [vi (w32 (p1 + 1))]) (rest := []) mv_X3_unit lk_X3_186 dX3_unit_22 rfl rfl sh_19 (Nat.le_of_ble_eq_true rfl) (Nat.le_refl _) ⟨rfl, rfl⟩ (hrc.2.2.1 _ _ _ hq2) <| At.aloadn dX3_unit_25 rfl <| At.getR fl_X3_18 sh_19 (le149 sh_19) rf_19_1 dX3_unit_26 <| At.sipush dX3_unit_29 (by decide) <| ?_
      obtain ⟨q3, hq3, h⟩ := bnd_e h
      refine At.cV0 (av := [vi 3015]) (rest := []) mv_X8_addCode lk_X3_183 dX3_unit_32 rfl rfl sh_21 (Nat.le_of_ble_eq_true rfl) (by omega) ⟨rfl, rfl⟩ (rX8_addCode sh_21 hq3) <| At.goto (tgt := 76) dX3_unit_35 (by decide) <| ?_
      obtain rfl := Option.some.inj h
      exact At.vret rfl (Nat.zero_le _) (Nat.zero_le _) ⟨rfl, rfl⟩ dX3_unit_76
    · refine At.cV1 (av := [vi p1]) (rest := []) mv_X3_goesDeeper lk_X3_189 dX3_unit_12 rfl rfl sh_19 (Nat.le_of_ble_eq_true rfl) (by omega) ⟨rfl, rfl⟩ (rX3_goesDeeper hq1) <| At.bifeq_t (tgt := 76) dX3_unit_15 (by decide) c4 <| ?_
      obtain rfl := Option.some.inj h
      exact At.vret rfl (Nat.zero_le _) (Nat.zero_le _) ⟨rfl, rfl⟩ dX3_unit_76
  · refine At.aloadn dX3_unit_0 rfl <| At.getI fl_X3_64 sh_19 (le149 sh_19) dX3_unit_1 <| At.sipush dX3_unit_4 (by decide) <| At.icmp_ne_t (tgt := 38) dX3_unit_7 (by decide) c11 <| ?_
    rcases ite_e h with ⟨c10, h⟩ | ⟨c10, h⟩
    · refine At.aloadn dX3_unit_38 rfl <| At.getI fl_X3_64 sh_19 (le149 sh_19) dX3_unit_39 <| At.bipush dX3_unit_42 (by decide) <| At.icmp_ne_f (tgt := 71) dX3_unit_44 (by decide) c10 <| ?_
      refine At.aloadn dX3_unit_47 rfl <| At.iloadn dX3_unit_48 rfl <| ?_
      obtain ⟨q5, hq5, h⟩ := bnd_e h
      rcases ite_e h with ⟨c8, h⟩ | ⟨c8, h⟩
      · refine At.cV1 (av := [vi p1]) (rest := []) mv_X3_goesDeeper lk_X3_189 dX3_unit_49 rfl rfl sh_19 (Nat.le_of_ble_eq_true rfl) (by omega) ⟨rfl, rfl⟩ (rX3_goesDeeper hq5) <| At.bifeq_f (tgt := 76) dX3_unit_52 (by decide) c8 <| ?_
        refine At.aloadn dX3_unit_55 rfl <| At.iloadn dX3_unit_56 rfl <| At.iconst dX3_unit_57 (by decide) <| At.iadd dX3_unit_58 <| ?_
        obtain ⟨q6, hq6, h⟩ := bnd_e h
        refine At.cV0 (av := [vi (w32 (p1 + 1))]) (rest := []) mv_X3_truth lk_X3_174 dX3_unit_59 rfl rfl sh_19 (Nat.le_of_ble_eq_true rfl) (Nat.le_refl _) ⟨rfl, rfl⟩ (hrc.1 _ _ _ hq6) <| At.aloadn dX3_unit_62 rfl <| At.bipush dX3_unit_63 (by decide) <| ?_
        obtain ⟨q7, hq7, h⟩ := bnd_e h
        refine At.cV0 (av := [vi 93]) (rest := []) mv_X3_expect lk_X3_50 dX3_unit_65 rfl rfl sh_19 (Nat.le_of_ble_eq_true rfl) (by omega) ⟨rfl, rfl⟩ (rX3_expect hq7) <| At.goto (tgt := 76) dX3_unit_68 (by decide) <| ?_
        obtain rfl := Option.some.inj h
        exact At.vret rfl (Nat.zero_le _) (Nat.zero_le _) ⟨rfl, rfl⟩ dX3_unit_76
      · refine At.cV1 (av := [vi p1]) (rest := []) mv_X3_goesDeeper lk_X3_189 dX3_unit_49 rfl rfl sh_19 (Nat.le_of_ble_eq_true rfl) (by omega) ⟨rfl, rfl⟩ (rX3_goesDeeper hq5) <| At.bifeq_t (tgt := 76) dX3_unit_52 (by decide) c8 <| ?_
        obtain rfl := Option.some.inj h
        exact At.vret rfl (Nat.zero_le _) (Nat.zero_le _) ⟨rfl, rfl⟩ dX3_unit_76
    · refine At.aloadn dX3_unit_38 rfl <| At.getI fl_X3_64 sh_19 (le149 sh_19) dX3_unit_39 <| At.bipush dX3_unit_42 (by decide) <| At.icmp_ne_t (tgt := 71) dX3_unit_44 (by decide) c10 <| ?_
      refine At.aloadn dX3_unit_71 rfl <| At.iloadn dX3_unit_72 rfl <| ?_
      obtain ⟨q9, hq9, h⟩ := bnd_e h
      refine At.cV0 (av := [vi p1]) (rest := []) mv_X3_comparison lk_X3_193 dX3_unit_73 rfl rfl sh_19 (Nat.le_of_ble_eq_true rfl) (Nat.le_refl _) ⟨rfl, rfl⟩ (hrc.2.2.2.1 _ _ _ hq9) <| ?_
      obtain rfl := Option.some.inj h
      exact At.vret rfl (Nat.zero_le _) (Nat.zero_le _) ⟨rfl, rfl⟩ dX3_unit_76
def fX3_comparison (rc : Nat → Int → SS → Option SS) (p1 : Int) (S : SS) : Option SS :=
  Option.bind (rc 4 p1 S) fun q1 =>
  lt (q1 19 5) fun x2 =>
  if x2 = 61 then (
    Option.bind (fX3_advance  q1) fun q3 =>
    Option.bind (rc 4 p1 q3) fun q4 =>
    Option.bind (fX8_addCode 21 (w32 (2000 + x2)) q4) fun q5 =>
    some q5
  ) else (
    if x2 = 60 then (
      Option.bind (fX3_advance  q1) fun q6 =>
      Option.bind (rc 4 p1 q6) fun q7 =>
      Option.bind (fX8_addCode 21 (w32 (2000 + x2)) q7) fun q8 =>
      some q8
    ) else (
      if x2 = 62 then (
        Option.bind (fX3_advance  q1) fun q9 =>
        Option.bind (rc 4 p1 q9) fun q10 =>
        Option.bind (fX8_addCode 21 (w32 (2000 + x2)) q10) fun q11 =>
        some q11
      ) else (
        Option.bind (fX3_fail 2 q1) fun q12 =>
        some q12
      )
    )
  )
set_option maxRecDepth 100000 in
set_option maxHeartbeats 4000000 in
theorem rX3_comparison {G : GG} {rc : Nat → Int → SS → Option SS} {d : Nat} (hrc : RCX3_truth G rc d) (hd0 : 9 ≤ d) {p1 : Int} {S : SS} {rr : SS} (h : fX3_comparison rc p1 S = some rr) : RD G mX3_comparison (d + 1) [vr 19, vi p1] S none rr := by
  unfold fX3_comparison at h
  refine Runs.of pl_X3 (Nat.le_of_ble_eq_true rfl) ?_
  show At G mX3_comparison (d + 1) 0 [(0, vr 19), (1, vi p1)] [] (mm S) 0 0 (EQ none rr)
  refine At.aloadn dX3_comparison_0 rfl <| At.iloadn dX3_comparison_1 rfl <| ?_
  obtain ⟨q1, hq1, h⟩ := bnd_e h
  refine At.cV0 (av := [vi p1]) (rest := []) mv_X3_sum lk_X3_165 dX3_comparison_2 rfl rfl sh_19 (Nat.le_of_ble_eq_true rfl) (Nat.le_refl _) ⟨rfl, rfl⟩ (hrc.2.2.2.2.1 _ _ _ hq1) <| At.aloadn dX3_comparison_5 rfl <| At.getI fl_X3_64 sh_19 (le149 sh_19) dX3_comparison_6 <| ?_
  obtain ⟨x2, hx2, h⟩ := lt_e h
  rcases ite_e h with ⟨c15, h⟩ | ⟨c15, h⟩
  · refine At.nm hx2 <| At.istoren (ls' := [(2, vi x2), (0, vr 19), (1, vi p1)]) dX3_comparison_9 (by decide) rfl <| At.iloadn dX3_comparison_10 rfl <| At.bipush dX3_comparison_11 (by decide) <| At.icmp_eq_t (tgt := 34) dX3_comparison_13 (by decide) c15 <| ?_
    refine At.aloadn dX3_comparison_34 rfl <| ?_
    obtain ⟨q3, hq3, h⟩ := bnd_e h
    refine At.cV0 (av := []) (rest := []) mv_X3_advance lk_X3_47 dX3_comparison_35 rfl rfl sh_19 (Nat.le_of_ble_eq_true rfl) (by omega) ⟨rfl, rfl⟩ (rX3_advance hq3) <| At.aloadn dX3_comparison_38 rfl <| At.iloadn dX3_comparison_39 rfl <| ?_
    obtain ⟨q4, hq4, h⟩ := bnd_e h
    refine At.cV0 (av := [vi p1]) (rest := []) mv_X3_sum lk_X3_165 dX3_comparison_40 rfl rfl sh_19 (Nat.le_of_ble_eq_true rfl) (Nat.le_refl _) ⟨rfl, rfl⟩ (hrc.2.2.2.2.1 _ _ _ hq4) <| At.aloadn dX3_comparison_43 rfl <| At.getR fl_X3_18 sh_19 (le149 sh_19) rf_19_1 dX3_comparison_44 <| At.sipush dX3_comparison_47 (by decide) <| At.iloadn dX3_comparison_50 rfl <| At.iadd dX3_comparison_51 <| ?_
    obtain ⟨q5, hq5, h⟩ := bnd_e h
    refine At.cV0 (av := [vi (w32 (2000 + x2))]) (rest := []) mv_X8_addCode lk_X3_183 dX3_comparison_52 rfl rfl sh_21 (Nat.le_of_ble_eq_true rfl) (by omega) ⟨rfl, rfl⟩ (rX8_addCode sh_21 hq5) <| ?_
    obtain rfl := Option.some.inj h
    exact At.vret rfl (Nat.zero_le _) (Nat.zero_le _) ⟨rfl, rfl⟩ dX3_comparison_55
  · refine At.nm hx2 <| At.istoren (ls' := [(2, vi x2), (0, vr 19), (1, vi p1)]) dX3_comparison_9 (by decide) rfl <| At.iloadn dX3_comparison_10 rfl <| At.bipush dX3_comparison_11 (by decide) <| At.icmp_eq_f (tgt := 34) dX3_comparison_13 (by decide) c15 <| ?_
    rcases ite_e h with ⟨c14, h⟩ | ⟨c14, h⟩
    · refine At.iloadn dX3_comparison_16 rfl <| At.bipush dX3_comparison_17 (by decide) <| At.icmp_eq_t (tgt := 34) dX3_comparison_19 (by decide) c14 <| ?_
      refine At.aloadn dX3_comparison_34 rfl <| ?_
      obtain ⟨q6, hq6, h⟩ := bnd_e h
      refine At.cV0 (av := []) (rest := []) mv_X3_advance lk_X3_47 dX3_comparison_35 rfl rfl sh_19 (Nat.le_of_ble_eq_true rfl) (by omega) ⟨rfl, rfl⟩ (rX3_advance hq6) <| At.aloadn dX3_comparison_38 rfl <| At.iloadn dX3_comparison_39 rfl <| ?_
      obtain ⟨q7, hq7, h⟩ := bnd_e h
      refine At.cV0 (av := [vi p1]) (rest := []) mv_X3_sum lk_X3_165 dX3_comparison_40 rfl rfl sh_19 (Nat.le_of_ble_eq_true rfl) (Nat.le_refl _) ⟨rfl, rfl⟩ (hrc.2.2.2.2.1 _ _ _ hq7) <| At.aloadn dX3_comparison_43 rfl <| At.getR fl_X3_18 sh_19 (le149 sh_19) rf_19_1 dX3_comparison_44 <| At.sipush dX3_comparison_47 (by decide) <| At.iloadn dX3_comparison_50 rfl <| At.iadd dX3_comparison_51 <| ?_
      obtain ⟨q8, hq8, h⟩ := bnd_e h
      refine At.cV0 (av := [vi (w32 (2000 + x2))]) (rest := []) mv_X8_addCode lk_X3_183 dX3_comparison_52 rfl rfl sh_21 (Nat.le_of_ble_eq_true rfl) (by omega) ⟨rfl, rfl⟩ (rX8_addCode sh_21 hq8) <| ?_
      obtain rfl := Option.some.inj h
      exact At.vret rfl (Nat.zero_le _) (Nat.zero_le _) ⟨rfl, rfl⟩ dX3_comparison_55
    · refine At.iloadn dX3_comparison_16 rfl <| At.bipush dX3_comparison_17 (by decide) <| At.icmp_eq_f (tgt := 34) dX3_comparison_19 (by decide) c14 <| ?_
      rcases ite_e h with ⟨c13, h⟩ | ⟨c13, h⟩
      · refine At.iloadn dX3_comparison_22 rfl <| At.bipush dX3_comparison_23 (by decide) <| At.icmp_eq_t (tgt := 34) dX3_comparison_25 (by decide) c13 <| ?_
        refine At.aloadn dX3_comparison_34 rfl <| ?_
        obtain ⟨q9, hq9, h⟩ := bnd_e h
        refine At.cV0 (av := []) (rest := []) mv_X3_advance lk_X3_47 dX3_comparison_35 rfl rfl sh_19 (Nat.le_of_ble_eq_true rfl) (by omega) ⟨rfl, rfl⟩ (rX3_advance hq9) <| At.aloadn dX3_comparison_38 rfl <| At.iloadn dX3_comparison_39 rfl <| ?_
        obtain ⟨q10, hq10, h⟩ := bnd_e h
        refine At.cV0 (av := [vi p1]) (rest := []) mv_X3_sum lk_X3_165 dX3_comparison_40 rfl rfl sh_19 (Nat.le_of_ble_eq_true rfl) (Nat.le_refl _) ⟨rfl, rfl⟩ (hrc.2.2.2.2.1 _ _ _ hq10) <| At.aloadn dX3_comparison_43 rfl <| At.getR fl_X3_18 sh_19 (le149 sh_19) rf_19_1 dX3_comparison_44 <| At.sipush dX3_comparison_47 (by decide) <| At.iloadn dX3_comparison_50 rfl <| At.iadd dX3_comparison_51 <| ?_
        obtain ⟨q11, hq11, h⟩ := bnd_e h
        refine At.cV0 (av := [vi (w32 (2000 + x2))]) (rest := []) mv_X8_addCode lk_X3_183 dX3_comparison_52 rfl rfl sh_21 (Nat.le_of_ble_eq_true rfl) (by omega) ⟨rfl, rfl⟩ (rX8_addCode sh_21 hq11) <| ?_
        obtain rfl := Option.some.inj h
        exact At.vret rfl (Nat.zero_le _) (Nat.zero_le _) ⟨rfl, rfl⟩ dX3_comparison_55
      · refine At.iloadn dX3_comparison_22 rfl <| At.bipush dX3_comparison_23 (by decide) <| At.icmp_eq_f (tgt := 34) dX3_comparison_25 (by decide) c13 <| ?_
        refine At.aloadn dX3_comparison_28 rfl <| At.iconst dX3_comparison_29 (by decide) <| ?_
        obtain ⟨q12, hq12, h⟩ := bnd_e h
        refine At.cV0 (av := [vi 2]) (rest := []) mv_X3_fail lk_X3_80 dX3_comparison_30 rfl rfl sh_19 (Nat.le_of_ble_eq_true rfl) (by omega) ⟨rfl, rfl⟩ (rX3_fail hq12) <| ?_
        obtain rfl := Option.some.inj h
        exact At.vret rfl (Nat.zero_le _) (Nat.zero_le _) ⟨rfl, rfl⟩ dX3_comparison_33
def fX3_sum_L7 (rc : Nat → Int → SS → Option SS) (l1 : Int) : Nat → Int → SS → Option (SS)
  | 0, _, _ => none
  | n + 1, l2, S =>
    if 900 ≤ l2 then (
      some S
    ) else (
      if (S 19 5) = 43 then (
        lt (S 19 5) fun x1 =>
        Option.bind (fX3_advance  S) fun q2 =>
        Option.bind (rc 5 l1 q2) fun q3 =>
        Option.bind (fX8_addCode 21 (w32 (2000 + x1)) q3) fun q4 =>
        lt (w32 (l2 + 1)) fun x5 =>
        fX3_sum_L7 rc l1 n x5 q4
      ) else (
        if (S 19 5) = 45 then (
          lt (S 19 5) fun x6 =>
          Option.bind (fX3_advance  S) fun q7 =>
          Option.bind (rc 5 l1 q7) fun q8 =>
          Option.bind (fX8_addCode 21 (w32 (2000 + x6)) q8) fun q9 =>
          lt (w32 (l2 + 1)) fun x10 =>
          fX3_sum_L7 rc l1 n x10 q9
        ) else (
          some S
        )
      )
    )
def fX3_sum (rc : Nat → Int → SS → Option SS) (p1 : Int) (S : SS) : Option SS :=
  Option.bind (rc 5 p1 S) fun q1 =>
  Option.bind (fX3_sum_L7 rc p1 FU 0 q1) fun q2 =>
  some q2
set_option maxRecDepth 100000 in
set_option maxHeartbeats 4000000 in
theorem lX3_sum_L7 {G : GG} {Φ : Option VV → MM → Prop} {rc : Nat → Int → SS → Option SS} {d : Nat} (hrc : RCX3_truth G rc d) (hd0 : 9 ≤ d) {l1 : Int} : ∀ (n : Nat) (l2 : Int) (S : SS) (q : SS), fX3_sum_L7 rc l1 n l2 S = some q → At G mX3_sum (d + 1) 64 [] [] (mm q) 0 0 Φ → At G mX3_sum (d + 1) 7 [(0, vr 19), (1, vi l1), (2, vi l2)] [] (mm S) 0 0 Φ := by
  intro n
  induction n with
  | zero =>
    intro _ _ _ h
    cases h
  | succ n ih =>
    intro l2 S q h K64
    unfold fX3_sum_L7 at h
    rcases ite_e h with ⟨c13, h⟩ | ⟨c13, h⟩
    · refine At.iloadn dX3_sum_7 rfl <| At.sipush dX3_sum_8 (by decide) <| At.icmp_ge_t (tgt := 64) dX3_sum_11 (by decide) c13 <| ?_
      obtain rfl := Option.some.inj h
      exact At.sub [] rfl K64
    · refine At.iloadn dX3_sum_7 rfl <| At.sipush dX3_sum_8 (by decide) <| At.icmp_ge_f (tgt := 64) dX3_sum_11 (by decide) c13 <| ?_
      rcases ite_e h with ⟨c12, h⟩ | ⟨c12, h⟩
      · refine At.aloadn dX3_sum_14 rfl <| At.getI fl_X3_64 sh_19 (le149 sh_19) dX3_sum_15 <| At.bipush dX3_sum_18 (by decide) <| At.icmp_eq_t (tgt := 32) dX3_sum_20 (by decide) c12 <| ?_
        refine At.aloadn dX3_sum_32 rfl <| At.getI fl_X3_64 sh_19 (le149 sh_19) dX3_sum_33 <| ?_
        obtain ⟨x1, hx1, h⟩ := lt_e h
        refine At.nm hx1 <| At.istoren (ls' := [(3, vi x1), (0, vr 19), (1, vi l1), (2, vi l2)]) dX3_sum_36 (by decide) rfl <| At.aloadn dX3_sum_37 rfl <| ?_
        obtain ⟨q2, hq2, h⟩ := bnd_e h
        refine At.cV0 (av := []) (rest := []) mv_X3_advance lk_X3_47 dX3_sum_38 rfl rfl sh_19 (Nat.le_of_ble_eq_true rfl) (by omega) ⟨rfl, rfl⟩ (rX3_advance hq2) <| At.aloadn dX3_sum_41 rfl <| At.iloadn dX3_sum_42 rfl <| ?_
        obtain ⟨q3, hq3, h⟩ := bnd_e h
        refine At.cV0 (av := [vi l1]) (rest := []) mv_X3_term lk_X3_196 dX3_sum_43 rfl rfl sh_19 (Nat.le_of_ble_eq_true rfl) (Nat.le_refl _) ⟨rfl, rfl⟩ (hrc.2.2.2.2.2.1 _ _ _ hq3) <| At.aloadn dX3_sum_46 rfl <| At.getR fl_X3_18 sh_19 (le149 sh_19) rf_19_1 dX3_sum_47 <| At.sipush dX3_sum_50 (by decide) <| At.iloadn dX3_sum_53 rfl <| At.iadd dX3_sum_54 <| ?_
        obtain ⟨q4, hq4, h⟩ := bnd_e h
        refine At.cV0 (av := [vi (w32 (2000 + x1))]) (rest := []) mv_X8_addCode lk_X3_183 dX3_sum_55 rfl rfl sh_21 (Nat.le_of_ble_eq_true rfl) (by omega) ⟨rfl, rfl⟩ (rX8_addCode sh_21 hq4) <| ?_
        obtain ⟨x5, hx5, h⟩ := lt_e h
        refine At.iinc (ls' := [(2, vi x5), (3, vi x1), (0, vr 19), (1, vi l1)]) dX3_sum_58 rfl (by decide) (by rw [hx5]; rfl) <| At.goto (tgt := 7) dX3_sum_61 (by decide) <| ?_
        exact At.sub [2, 3, 0] rfl (ih _ _ _ h K64)
      · refine At.aloadn dX3_sum_14 rfl <| At.getI fl_X3_64 sh_19 (le149 sh_19) dX3_sum_15 <| At.bipush dX3_sum_18 (by decide) <| At.icmp_eq_f (tgt := 32) dX3_sum_20 (by decide) c12 <| ?_
        rcases ite_e h with ⟨c11, h⟩ | ⟨c11, h⟩
        · refine At.aloadn dX3_sum_23 rfl <| At.getI fl_X3_64 sh_19 (le149 sh_19) dX3_sum_24 <| At.bipush dX3_sum_27 (by decide) <| At.icmp_ne_f (tgt := 64) dX3_sum_29 (by decide) c11 <| ?_
          refine At.aloadn dX3_sum_32 rfl <| At.getI fl_X3_64 sh_19 (le149 sh_19) dX3_sum_33 <| ?_
          obtain ⟨x6, hx6, h⟩ := lt_e h
          refine At.nm hx6 <| At.istoren (ls' := [(3, vi x6), (0, vr 19), (1, vi l1), (2, vi l2)]) dX3_sum_36 (by decide) rfl <| At.aloadn dX3_sum_37 rfl <| ?_
          obtain ⟨q7, hq7, h⟩ := bnd_e h
          refine At.cV0 (av := []) (rest := []) mv_X3_advance lk_X3_47 dX3_sum_38 rfl rfl sh_19 (Nat.le_of_ble_eq_true rfl) (by omega) ⟨rfl, rfl⟩ (rX3_advance hq7) <| At.aloadn dX3_sum_41 rfl <| At.iloadn dX3_sum_42 rfl <| ?_
          obtain ⟨q8, hq8, h⟩ := bnd_e h
          refine At.cV0 (av := [vi l1]) (rest := []) mv_X3_term lk_X3_196 dX3_sum_43 rfl rfl sh_19 (Nat.le_of_ble_eq_true rfl) (Nat.le_refl _) ⟨rfl, rfl⟩ (hrc.2.2.2.2.2.1 _ _ _ hq8) <| At.aloadn dX3_sum_46 rfl <| At.getR fl_X3_18 sh_19 (le149 sh_19) rf_19_1 dX3_sum_47 <| At.sipush dX3_sum_50 (by decide) <| At.iloadn dX3_sum_53 rfl <| At.iadd dX3_sum_54 <| ?_
          obtain ⟨q9, hq9, h⟩ := bnd_e h
          refine At.cV0 (av := [vi (w32 (2000 + x6))]) (rest := []) mv_X8_addCode lk_X3_183 dX3_sum_55 rfl rfl sh_21 (Nat.le_of_ble_eq_true rfl) (by omega) ⟨rfl, rfl⟩ (rX8_addCode sh_21 hq9) <| ?_
          obtain ⟨x10, hx10, h⟩ := lt_e h
          refine At.iinc (ls' := [(2, vi x10), (3, vi x6), (0, vr 19), (1, vi l1)]) dX3_sum_58 rfl (by decide) (by rw [hx10]; rfl) <| At.goto (tgt := 7) dX3_sum_61 (by decide) <| ?_
          exact At.sub [2, 3, 0] rfl (ih _ _ _ h K64)
        · refine At.aloadn dX3_sum_23 rfl <| At.getI fl_X3_64 sh_19 (le149 sh_19) dX3_sum_24 <| At.bipush dX3_sum_27 (by decide) <| At.icmp_ne_t (tgt := 64) dX3_sum_29 (by decide) c11 <| ?_
          obtain rfl := Option.some.inj h
          exact At.sub [] rfl K64
set_option maxRecDepth 100000 in
set_option maxHeartbeats 4000000 in
theorem rX3_sum {G : GG} {rc : Nat → Int → SS → Option SS} {d : Nat} (hrc : RCX3_truth G rc d) (hd0 : 9 ≤ d) {p1 : Int} {S : SS} {rr : SS} (h : fX3_sum rc p1 S = some rr) : RD G mX3_sum (d + 1) [vr 19, vi p1] S none rr := by
  unfold fX3_sum at h
  refine Runs.of pl_X3 (Nat.le_of_ble_eq_true rfl) ?_
  show At G mX3_sum (d + 1) 0 [(0, vr 19), (1, vi p1)] [] (mm S) 0 0 (EQ none rr)
  refine At.aloadn dX3_sum_0 rfl <| At.iloadn dX3_sum_1 rfl <| ?_
  obtain ⟨q1, hq1, h⟩ := bnd_e h
  refine At.cV0 (av := [vi p1]) (rest := []) mv_X3_term lk_X3_196 dX3_sum_2 rfl rfl sh_19 (Nat.le_of_ble_eq_true rfl) (Nat.le_refl _) ⟨rfl, rfl⟩ (hrc.2.2.2.2.2.1 _ _ _ hq1) <| At.iconst dX3_sum_5 (by decide) <| At.istoren (ls' := [(2, vi 0), (0, vr 19), (1, vi p1)]) dX3_sum_6 (by decide) rfl <| ?_
  obtain ⟨q2, ho3, h⟩ := bnd_e h
  refine At.sub [1, 2, 0] rfl (lX3_sum_L7 hrc hd0 FU _ _ q2 ho3 ?_)
  obtain rfl := Option.some.inj h
  exact At.vret rfl (Nat.zero_le _) (Nat.zero_le _) ⟨rfl, rfl⟩ dX3_sum_64
def fX3_term_L7 (rc : Nat → Int → SS → Option SS) (l1 : Int) : Nat → Int → SS → Option (SS)
  | 0, _, _ => none
  | n + 1, l2, S =>
    if 900 ≤ l2 then (
      some S
    ) else (
      if (S 19 5) = 42 then (
        Option.bind (fX3_advance  S) fun q1 =>
        Option.bind (rc 6 l1 q1) fun q2 =>
        Option.bind (fX8_addCode 21 2042 q2) fun q3 =>
        lt (w32 (l2 + 1)) fun x4 =>
        fX3_term_L7 rc l1 n x4 q3
      ) else (
        some S
      )
    )
def fX3_term (rc : Nat → Int → SS → Option SS) (p1 : Int) (S : SS) : Option SS :=
  Option.bind (rc 6 p1 S) fun q1 =>
  Option.bind (fX3_term_L7 rc p1 FU 0 q1) fun q2 =>
  some q2
set_option maxRecDepth 100000 in
set_option maxHeartbeats 4000000 in
theorem lX3_term_L7 {G : GG} {Φ : Option VV → MM → Prop} {rc : Nat → Int → SS → Option SS} {d : Nat} (hrc : RCX3_truth G rc d) (hd0 : 9 ≤ d) {l1 : Int} : ∀ (n : Nat) (l2 : Int) (S : SS) (q : SS), fX3_term_L7 rc l1 n l2 S = some q → At G mX3_term (d + 1) 48 [] [] (mm q) 0 0 Φ → At G mX3_term (d + 1) 7 [(0, vr 19), (1, vi l1), (2, vi l2)] [] (mm S) 0 0 Φ := by
  intro n
  induction n with
  | zero =>
    intro _ _ _ h
    cases h
  | succ n ih =>
    intro l2 S q h K48
    unfold fX3_term_L7 at h
    rcases ite_e h with ⟨c6, h⟩ | ⟨c6, h⟩
    · refine At.iloadn dX3_term_7 rfl <| At.sipush dX3_term_8 (by decide) <| At.icmp_ge_t (tgt := 48) dX3_term_11 (by decide) c6 <| ?_
      obtain rfl := Option.some.inj h
      exact At.sub [] rfl K48
    · refine At.iloadn dX3_term_7 rfl <| At.sipush dX3_term_8 (by decide) <| At.icmp_ge_f (tgt := 48) dX3_term_11 (by decide) c6 <| ?_
      rcases ite_e h with ⟨c5, h⟩ | ⟨c5, h⟩
      · refine At.aloadn dX3_term_14 rfl <| At.getI fl_X3_64 sh_19 (le149 sh_19) dX3_term_15 <| At.bipush dX3_term_18 (by decide) <| At.icmp_ne_f (tgt := 48) dX3_term_20 (by decide) c5 <| ?_
        refine At.aloadn dX3_term_23 rfl <| ?_
        obtain ⟨q1, hq1, h⟩ := bnd_e h
        refine At.cV0 (av := []) (rest := []) mv_X3_advance lk_X3_47 dX3_term_24 rfl rfl sh_19 (Nat.le_of_ble_eq_true rfl) (by omega) ⟨rfl, rfl⟩ (rX3_advance hq1) <| At.aloadn dX3_term_27 rfl <| At.iloadn dX3_term_28 rfl <| ?_
        obtain ⟨q2, hq2, h⟩ := bnd_e h
        refine At.cV0 (av := [vi l1]) (rest := []) mv_X3_atom lk_X3_199 dX3_term_29 rfl rfl sh_19 (Nat.le_of_ble_eq_true rfl) (Nat.le_refl _) ⟨rfl, rfl⟩ (hrc.2.2.2.2.2.2.1 _ _ _ hq2) <| At.aloadn dX3_term_32 rfl <| At.getR fl_X3_18 sh_19 (le149 sh_19) rf_19_1 dX3_term_33 <| At.sipush dX3_term_36 (by decide) <| ?_
        obtain ⟨q3, hq3, h⟩ := bnd_e h
        refine At.cV0 (av := [vi 2042]) (rest := []) mv_X8_addCode lk_X3_183 dX3_term_39 rfl rfl sh_21 (Nat.le_of_ble_eq_true rfl) (by omega) ⟨rfl, rfl⟩ (rX8_addCode sh_21 hq3) <| ?_
        obtain ⟨x4, hx4, h⟩ := lt_e h
        refine At.iinc (ls' := [(2, vi x4), (0, vr 19), (1, vi l1)]) dX3_term_42 rfl (by decide) (by rw [hx4]; rfl) <| At.goto (tgt := 7) dX3_term_45 (by decide) <| ?_
        exact At.sub [1, 2, 0] rfl (ih _ _ _ h K48)
      · refine At.aloadn dX3_term_14 rfl <| At.getI fl_X3_64 sh_19 (le149 sh_19) dX3_term_15 <| At.bipush dX3_term_18 (by decide) <| At.icmp_ne_t (tgt := 48) dX3_term_20 (by decide) c5 <| ?_
        obtain rfl := Option.some.inj h
        exact At.sub [] rfl K48
set_option maxRecDepth 100000 in
set_option maxHeartbeats 4000000 in
theorem rX3_term {G : GG} {rc : Nat → Int → SS → Option SS} {d : Nat} (hrc : RCX3_truth G rc d) (hd0 : 9 ≤ d) {p1 : Int} {S : SS} {rr : SS} (h : fX3_term rc p1 S = some rr) : RD G mX3_term (d + 1) [vr 19, vi p1] S none rr := by
  unfold fX3_term at h
  refine Runs.of pl_X3 (Nat.le_of_ble_eq_true rfl) ?_
  show At G mX3_term (d + 1) 0 [(0, vr 19), (1, vi p1)] [] (mm S) 0 0 (EQ none rr)
  refine At.aloadn dX3_term_0 rfl <| At.iloadn dX3_term_1 rfl <| ?_
  obtain ⟨q1, hq1, h⟩ := bnd_e h
  refine At.cV0 (av := [vi p1]) (rest := []) mv_X3_atom lk_X3_199 dX3_term_2 rfl rfl sh_19 (Nat.le_of_ble_eq_true rfl) (Nat.le_refl _) ⟨rfl, rfl⟩ (hrc.2.2.2.2.2.2.1 _ _ _ hq1) <| At.iconst dX3_term_5 (by decide) <| At.istoren (ls' := [(2, vi 0), (0, vr 19), (1, vi p1)]) dX3_term_6 (by decide) rfl <| ?_
  obtain ⟨q2, ho3, h⟩ := bnd_e h
  refine At.sub [1, 2, 0] rfl (lX3_term_L7 hrc hd0 FU _ _ q2 ho3 ?_)
  obtain rfl := Option.some.inj h
  exact At.vret rfl (Nat.zero_le _) (Nat.zero_le _) ⟨rfl, rfl⟩ dX3_term_48
def fX3_atom (rc : Nat → Int → SS → Option SS) (p1 : Int) (S : SS) : Option SS :=
  if (S 19 5) = 256 then (
    Option.bind (fX8_addCode 21 (S 19 7) S) fun q1 =>
    Option.bind (fX3_advance  q1) fun q2 =>
    some q2
  ) else (
    if (S 19 5) = 40 then (
      Option.bind (fX3_goesDeeper p1 S) fun q3 =>
      if q3.1 = true then (
        Option.bind (rc 4 (w32 (p1 + 1)) q3.2) fun q4 =>
        Option.bind (fX3_expect 41 q4) fun q5 =>
        some q5
      ) else (
        some q3.2
      )
    ) else (
      if (S 19 5) = 1010 then (
        Option.bind (fX3_goesDeeper p1 S) fun q7 =>
        if q7.1 = true then (
          Option.bind (rc 7 (w32 (p1 + 1)) q7.2) fun q8 =>
          some q8
        ) else (
          some q7.2
        )
      ) else (
        Option.bind (fX3_isNameOfNumber  S) fun q10 =>
        if q10 = true then (
          Option.bind (fX8_addCode 21 (S 19 5) S) fun q11 =>
          Option.bind (fX3_advance  q11) fun q12 =>
          some q12
        ) else (
          Option.bind (fX3_fail 2 S) fun q13 =>
          some q13
        )
      )
    )
  )
set_option maxRecDepth 100000 in
set_option maxHeartbeats 4000000 in
theorem rX3_atom {G : GG} {rc : Nat → Int → SS → Option SS} {d : Nat} (hrc : RCX3_truth G rc d) (hd0 : 9 ≤ d) {p1 : Int} {S : SS} {rr : SS} (h : fX3_atom rc p1 S = some rr) : RD G mX3_atom (d + 1) [vr 19, vi p1] S none rr := by
  unfold fX3_atom at h
  refine Runs.of pl_X3 (Nat.le_of_ble_eq_true rfl) ?_
  show At G mX3_atom (d + 1) 0 [(0, vr 19), (1, vi p1)] [] (mm S) 0 0 (EQ none rr)
  rcases ite_e h with ⟨c17, h⟩ | ⟨c17, h⟩
  · refine At.aloadn dX3_atom_0 rfl <| At.getI fl_X3_64 sh_19 (le149 sh_19) dX3_atom_1 <| At.sipush dX3_atom_4 (by decide) <| At.icmp_ne_f (tgt := 28) dX3_atom_7 (by decide) c17 <| ?_
    refine At.aloadn dX3_atom_10 rfl <| At.getR fl_X3_18 sh_19 (le149 sh_19) rf_19_1 dX3_atom_11 <| At.aloadn dX3_atom_14 rfl <| At.getI fl_X3_77 sh_19 (le149 sh_19) dX3_atom_15 <| ?_
    obtain ⟨q1, hq1, h⟩ := bnd_e h
    refine At.cV0 (av := [vi (S 19 7)]) (rest := []) mv_X8_addCode lk_X3_183 dX3_atom_18 rfl rfl sh_21 (Nat.le_of_ble_eq_true rfl) (by omega) ⟨rfl, rfl⟩ (rX8_addCode sh_21 hq1) <| At.aloadn dX3_atom_21 rfl <| ?_
    obtain ⟨q2, hq2, h⟩ := bnd_e h
    refine At.cV0 (av := []) (rest := []) mv_X3_advance lk_X3_47 dX3_atom_22 rfl rfl sh_19 (Nat.le_of_ble_eq_true rfl) (by omega) ⟨rfl, rfl⟩ (rX3_advance hq2) <| At.goto (tgt := 119) dX3_atom_25 (by decide) <| ?_
    obtain rfl := Option.some.inj h
    exact At.vret rfl (Nat.zero_le _) (Nat.zero_le _) ⟨rfl, rfl⟩ dX3_atom_119
  · refine At.aloadn dX3_atom_0 rfl <| At.getI fl_X3_64 sh_19 (le149 sh_19) dX3_atom_1 <| At.sipush dX3_atom_4 (by decide) <| At.icmp_ne_t (tgt := 28) dX3_atom_7 (by decide) c17 <| ?_
    rcases ite_e h with ⟨c16, h⟩ | ⟨c16, h⟩
    · refine At.aloadn dX3_atom_28 rfl <| At.getI fl_X3_64 sh_19 (le149 sh_19) dX3_atom_29 <| At.bipush dX3_atom_32 (by decide) <| At.icmp_ne_f (tgt := 61) dX3_atom_34 (by decide) c16 <| ?_
      refine At.aloadn dX3_atom_37 rfl <| At.iloadn dX3_atom_38 rfl <| ?_
      obtain ⟨q3, hq3, h⟩ := bnd_e h
      rcases ite_e h with ⟨c6, h⟩ | ⟨c6, h⟩
      · refine At.cV1 (av := [vi p1]) (rest := []) mv_X3_goesDeeper lk_X3_189 dX3_atom_39 rfl rfl sh_19 (Nat.le_of_ble_eq_true rfl) (by omega) ⟨rfl, rfl⟩ (rX3_goesDeeper hq3) <| At.bifeq_f (tgt := 119) dX3_atom_42 (by decide) c6 <| ?_
        refine At.aloadn dX3_atom_45 rfl <| At.iloadn dX3_atom_46 rfl <| At.iconst dX3_atom_47 (by decide) <| At.iadd dX3_atom_48 <| ?_
        obtain ⟨q4, hq4, h⟩ := bnd_e h
        refine At.cV0 (av := [vi (w32 (p1 + 1))]) (rest := []) mv_X3_sum lk_X3_165 dX3_atom_49 rfl rfl sh_19 (Nat.le_of_ble_eq_true rfl) (Nat.le_refl _) ⟨rfl, rfl⟩ (hrc.2.2.2.2.1 _ _ _ hq4) <| At.aloadn dX3_atom_52 rfl <| At.bipush dX3_atom_53 (by decide) <| ?_
        obtain ⟨q5, hq5, h⟩ := bnd_e h
        refine At.cV0 (av := [vi 41]) (rest := []) mv_X3_expect lk_X3_50 dX3_atom_55 rfl rfl sh_19 (Nat.le_of_ble_eq_true rfl) (by omega) ⟨rfl, rfl⟩ (rX3_expect hq5) <| At.goto (tgt := 119) dX3_atom_58 (by decide) <| ?_
        obtain rfl := Option.some.inj h
        exact At.vret rfl (Nat.zero_le _) (Nat.zero_le _) ⟨rfl, rfl⟩ dX3_atom_119
      · refine At.cV1 (av := [vi p1]) (rest := []) mv_X3_goesDeeper lk_X3_189 dX3_atom_39 rfl rfl sh_19 (Nat.le_of_ble_eq_true rfl) (by omega) ⟨rfl, rfl⟩ (rX3_goesDeeper hq3) <| At.bifeq_t (tgt := 119) dX3_atom_42 (by decide) c6 <| ?_
        obtain rfl := Option.some.inj h
        exact At.vret rfl (Nat.zero_le _) (Nat.zero_le _) ⟨rfl, rfl⟩ dX3_atom_119
    · refine At.aloadn dX3_atom_28 rfl <| At.getI fl_X3_64 sh_19 (le149 sh_19) dX3_atom_29 <| At.bipush dX3_atom_32 (by decide) <| At.icmp_ne_t (tgt := 61) dX3_atom_34 (by decide) c16 <| ?_
      rcases ite_e h with ⟨c15, h⟩ | ⟨c15, h⟩
      · refine At.aloadn dX3_atom_61 rfl <| At.getI fl_X3_64 sh_19 (le149 sh_19) dX3_atom_62 <| At.sipush dX3_atom_65 (by decide) <| At.icmp_ne_f (tgt := 89) dX3_atom_68 (by decide) c15 <| ?_
        refine At.aloadn dX3_atom_71 rfl <| At.iloadn dX3_atom_72 rfl <| ?_
        obtain ⟨q7, hq7, h⟩ := bnd_e h
        rcases ite_e h with ⟨c9, h⟩ | ⟨c9, h⟩
        · refine At.cV1 (av := [vi p1]) (rest := []) mv_X3_goesDeeper lk_X3_189 dX3_atom_73 rfl rfl sh_19 (Nat.le_of_ble_eq_true rfl) (by omega) ⟨rfl, rfl⟩ (rX3_goesDeeper hq7) <| At.bifeq_f (tgt := 119) dX3_atom_76 (by decide) c9 <| ?_
          refine At.aloadn dX3_atom_79 rfl <| At.iloadn dX3_atom_80 rfl <| At.iconst dX3_atom_81 (by decide) <| At.iadd dX3_atom_82 <| ?_
          obtain ⟨q8, hq8, h⟩ := bnd_e h
          refine At.cV0 (av := [vi (w32 (p1 + 1))]) (rest := []) mv_X3_choice lk_X3_202 dX3_atom_83 rfl rfl sh_19 (Nat.le_of_ble_eq_true rfl) (Nat.le_refl _) ⟨rfl, rfl⟩ (hrc.2.2.2.2.2.2.2 _ _ _ hq8) <| At.goto (tgt := 119) dX3_atom_86 (by decide) <| ?_
          obtain rfl := Option.some.inj h
          exact At.vret rfl (Nat.zero_le _) (Nat.zero_le _) ⟨rfl, rfl⟩ dX3_atom_119
        · refine At.cV1 (av := [vi p1]) (rest := []) mv_X3_goesDeeper lk_X3_189 dX3_atom_73 rfl rfl sh_19 (Nat.le_of_ble_eq_true rfl) (by omega) ⟨rfl, rfl⟩ (rX3_goesDeeper hq7) <| At.bifeq_t (tgt := 119) dX3_atom_76 (by decide) c9 <| ?_
          obtain rfl := Option.some.inj h
          exact At.vret rfl (Nat.zero_le _) (Nat.zero_le _) ⟨rfl, rfl⟩ dX3_atom_119
      · refine At.aloadn dX3_atom_61 rfl <| At.getI fl_X3_64 sh_19 (le149 sh_19) dX3_atom_62 <| At.sipush dX3_atom_65 (by decide) <| At.icmp_ne_t (tgt := 89) dX3_atom_68 (by decide) c15 <| ?_
        refine At.aloadn dX3_atom_89 rfl <| ?_
        obtain ⟨q10, hq10, h⟩ := bnd_e h
        rcases ite_e h with ⟨c14, h⟩ | ⟨c14, h⟩
        · refine At.cV1 (av := []) (rest := []) mv_X3_isNameOfNumber lk_X3_205 dX3_atom_90 rfl rfl sh_19 (Nat.le_of_ble_eq_true rfl) (by omega) ⟨rfl, rfl⟩ (rX3_isNameOfNumber hq10) <| At.bifeq_f (tgt := 114) dX3_atom_93 (by decide) c14 <| ?_
          refine At.aloadn dX3_atom_96 rfl <| At.getR fl_X3_18 sh_19 (le149 sh_19) rf_19_1 dX3_atom_97 <| At.aloadn dX3_atom_100 rfl <| At.getI fl_X3_64 sh_19 (le149 sh_19) dX3_atom_101 <| ?_
          obtain ⟨q11, hq11, h⟩ := bnd_e h
          refine At.cV0 (av := [vi (S 19 5)]) (rest := []) mv_X8_addCode lk_X3_183 dX3_atom_104 rfl rfl sh_21 (Nat.le_of_ble_eq_true rfl) (by omega) ⟨rfl, rfl⟩ (rX8_addCode sh_21 hq11) <| At.aloadn dX3_atom_107 rfl <| ?_
          obtain ⟨q12, hq12, h⟩ := bnd_e h
          refine At.cV0 (av := []) (rest := []) mv_X3_advance lk_X3_47 dX3_atom_108 rfl rfl sh_19 (Nat.le_of_ble_eq_true rfl) (by omega) ⟨rfl, rfl⟩ (rX3_advance hq12) <| At.goto (tgt := 119) dX3_atom_111 (by decide) <| ?_
          obtain rfl := Option.some.inj h
          exact At.vret rfl (Nat.zero_le _) (Nat.zero_le _) ⟨rfl, rfl⟩ dX3_atom_119
        · refine At.cV1 (av := []) (rest := []) mv_X3_isNameOfNumber lk_X3_205 dX3_atom_90 rfl rfl sh_19 (Nat.le_of_ble_eq_true rfl) (by omega) ⟨rfl, rfl⟩ (rX3_isNameOfNumber hq10) <| At.bifeq_t (tgt := 114) dX3_atom_93 (by decide) c14 <| ?_
          refine At.aloadn dX3_atom_114 rfl <| At.iconst dX3_atom_115 (by decide) <| ?_
          obtain ⟨q13, hq13, h⟩ := bnd_e h
          refine At.cV0 (av := [vi 2]) (rest := []) mv_X3_fail lk_X3_80 dX3_atom_116 rfl rfl sh_19 (Nat.le_of_ble_eq_true rfl) (by omega) ⟨rfl, rfl⟩ (rX3_fail hq13) <| ?_
          obtain rfl := Option.some.inj h
          exact At.vret rfl (Nat.zero_le _) (Nat.zero_le _) ⟨rfl, rfl⟩ dX3_atom_119
def fX3_choice (rc : Nat → Int → SS → Option SS) (p1 : Int) (S : SS) : Option SS :=
  Option.bind (rc 0 p1 S) fun q1 =>
  Option.bind (fX3_expect 1011 q1) fun q2 =>
  Option.bind (rc 4 p1 q2) fun q3 =>
  Option.bind (fX3_expect 1012 q3) fun q4 =>
  Option.bind (rc 4 p1 q4) fun q5 =>
  Option.bind (fX3_expect 1013 q5) fun q6 =>
  Option.bind (fX8_addCode 21 3010 q6) fun q7 =>
  some q7
set_option maxRecDepth 100000 in
set_option maxHeartbeats 4000000 in
theorem rX3_choice {G : GG} {rc : Nat → Int → SS → Option SS} {d : Nat} (hrc : RCX3_truth G rc d) (hd0 : 9 ≤ d) {p1 : Int} {S : SS} {rr : SS} (h : fX3_choice rc p1 S = some rr) : RD G mX3_choice (d + 1) [vr 19, vi p1] S none rr := by
  unfold fX3_choice at h
  refine Runs.of pl_X3 (Nat.le_of_ble_eq_true rfl) ?_
  show At G mX3_choice (d + 1) 0 [(0, vr 19), (1, vi p1)] [] (mm S) 0 0 (EQ none rr)
  refine At.aloadn dX3_choice_0 rfl <| At.iloadn dX3_choice_1 rfl <| ?_
  obtain ⟨q1, hq1, h⟩ := bnd_e h
  refine At.cV0 (av := [vi p1]) (rest := []) mv_X3_truth lk_X3_174 dX3_choice_2 rfl rfl sh_19 (Nat.le_of_ble_eq_true rfl) (Nat.le_refl _) ⟨rfl, rfl⟩ (hrc.1 _ _ _ hq1) <| At.aloadn dX3_choice_5 rfl <| At.sipush dX3_choice_6 (by decide) <| ?_
  obtain ⟨q2, hq2, h⟩ := bnd_e h
  refine At.cV0 (av := [vi 1011]) (rest := []) mv_X3_expect lk_X3_50 dX3_choice_9 rfl rfl sh_19 (Nat.le_of_ble_eq_true rfl) (by omega) ⟨rfl, rfl⟩ (rX3_expect hq2) <| At.aloadn dX3_choice_12 rfl <| At.iloadn dX3_choice_13 rfl <| ?_
  obtain ⟨q3, hq3, h⟩ := bnd_e h
  refine At.cV0 (av := [vi p1]) (rest := []) mv_X3_sum lk_X3_165 dX3_choice_14 rfl rfl sh_19 (Nat.le_of_ble_eq_true rfl) (Nat.le_refl _) ⟨rfl, rfl⟩ (hrc.2.2.2.2.1 _ _ _ hq3) <| At.aloadn dX3_choice_17 rfl <| At.sipush dX3_choice_18 (by decide) <| ?_
  obtain ⟨q4, hq4, h⟩ := bnd_e h
  refine At.cV0 (av := [vi 1012]) (rest := []) mv_X3_expect lk_X3_50 dX3_choice_21 rfl rfl sh_19 (Nat.le_of_ble_eq_true rfl) (by omega) ⟨rfl, rfl⟩ (rX3_expect hq4) <| At.aloadn dX3_choice_24 rfl <| At.iloadn dX3_choice_25 rfl <| ?_
  obtain ⟨q5, hq5, h⟩ := bnd_e h
  refine At.cV0 (av := [vi p1]) (rest := []) mv_X3_sum lk_X3_165 dX3_choice_26 rfl rfl sh_19 (Nat.le_of_ble_eq_true rfl) (Nat.le_refl _) ⟨rfl, rfl⟩ (hrc.2.2.2.2.1 _ _ _ hq5) <| At.aloadn dX3_choice_29 rfl <| At.sipush dX3_choice_30 (by decide) <| ?_
  obtain ⟨q6, hq6, h⟩ := bnd_e h
  refine At.cV0 (av := [vi 1013]) (rest := []) mv_X3_expect lk_X3_50 dX3_choice_33 rfl rfl sh_19 (Nat.le_of_ble_eq_true rfl) (by omega) ⟨rfl, rfl⟩ (rX3_expect hq6) <| At.aloadn dX3_choice_36 rfl <| At.getR fl_X3_18 sh_19 (le149 sh_19) rf_19_1 dX3_choice_37 <| At.sipush dX3_choice_40 (by decide) <| ?_
  obtain ⟨q7, hq7, h⟩ := bnd_e h
  refine At.cV0 (av := [vi 3010]) (rest := []) mv_X8_addCode lk_X3_183 dX3_choice_43 rfl rfl sh_21 (Nat.le_of_ble_eq_true rfl) (by omega) ⟨rfl, rfl⟩ (rX8_addCode sh_21 hq7) <| ?_
  obtain rfl := Option.some.inj h
  exact At.vret rfl (Nat.zero_le _) (Nat.zero_le _) ⟨rfl, rfl⟩ dX3_choice_46
def fGX3_truth : Nat → Nat → Int → SS → Option SS
  | 0 => fun _ _ _ => none
  | n + 1 => fun tg a0 S => if tg = 0 then fX3_truth (fGX3_truth n) a0 S else if tg = 1 then fX3_both (fGX3_truth n) a0 S else if tg = 2 then fX3_unit (fGX3_truth n) a0 S else if tg = 3 then fX3_comparison (fGX3_truth n) a0 S else if tg = 4 then fX3_sum (fGX3_truth n) a0 S else if tg = 5 then fX3_term (fGX3_truth n) a0 S else if tg = 6 then fX3_atom (fGX3_truth n) a0 S else fX3_choice (fGX3_truth n) a0 S
set_option maxRecDepth 100000 in
set_option maxHeartbeats 4000000 in
theorem rGX3_truth {G : GG} : ∀ n : Nat, RCX3_truth G (fGX3_truth n) (n + 9) := by
  intro n
  induction n with
  | zero => exact ⟨(fun _ _ _ h => by cases h), (fun _ _ _ h => by cases h), (fun _ _ _ h => by cases h), (fun _ _ _ h => by cases h), (fun _ _ _ h => by cases h), (fun _ _ _ h => by cases h), (fun _ _ _ h => by cases h), (fun _ _ _ h => by cases h)⟩
  | succ n ih =>
    have e : n + 1 + 9 = (n + 9) + 1 := by omega
    rw [e]
    exact ⟨(fun p1 S rr h => rX3_truth ih (Nat.le_add_left _ _) (show fX3_truth (fGX3_truth n) p1 S = some rr from h)),
      (fun p1 S rr h => rX3_both ih (Nat.le_add_left _ _) (show fX3_both (fGX3_truth n) p1 S = some rr from h)),
      (fun p1 S rr h => rX3_unit ih (Nat.le_add_left _ _) (show fX3_unit (fGX3_truth n) p1 S = some rr from h)),
      (fun p1 S rr h => rX3_comparison ih (Nat.le_add_left _ _) (show fX3_comparison (fGX3_truth n) p1 S = some rr from h)),
      (fun p1 S rr h => rX3_sum ih (Nat.le_add_left _ _) (show fX3_sum (fGX3_truth n) p1 S = some rr from h)),
      (fun p1 S rr h => rX3_term ih (Nat.le_add_left _ _) (show fX3_term (fGX3_truth n) p1 S = some rr from h)),
      (fun p1 S rr h => rX3_atom ih (Nat.le_add_left _ _) (show fX3_atom (fGX3_truth n) p1 S = some rr from h)),
      (fun p1 S rr h => rX3_choice ih (Nat.le_add_left _ _) (show fX3_choice (fGX3_truth n) p1 S = some rr from h))⟩
def gX3_truth (p1 : Int) (S : SS) : Option SS := fGX3_truth 60 0 p1 S
set_option maxRecDepth 100000 in
set_option maxHeartbeats 4000000 in
theorem rgX3_truth {G : GG} {p1 : Int} {S : SS} {rr : SS} (h : gX3_truth p1 S = some rr) : RD G mX3_truth 69 [vr 19, vi p1] S none rr := (rGX3_truth 60).1 _ _ _ h
def gX3_both (p1 : Int) (S : SS) : Option SS := fGX3_truth 60 1 p1 S
set_option maxRecDepth 100000 in
set_option maxHeartbeats 4000000 in
theorem rgX3_both {G : GG} {p1 : Int} {S : SS} {rr : SS} (h : gX3_both p1 S = some rr) : RD G mX3_both 69 [vr 19, vi p1] S none rr := (rGX3_truth 60).2.1 _ _ _ h
def gX3_unit (p1 : Int) (S : SS) : Option SS := fGX3_truth 60 2 p1 S
set_option maxRecDepth 100000 in
set_option maxHeartbeats 4000000 in
theorem rgX3_unit {G : GG} {p1 : Int} {S : SS} {rr : SS} (h : gX3_unit p1 S = some rr) : RD G mX3_unit 69 [vr 19, vi p1] S none rr := (rGX3_truth 60).2.2.1 _ _ _ h
def gX3_comparison (p1 : Int) (S : SS) : Option SS := fGX3_truth 60 3 p1 S
set_option maxRecDepth 100000 in
set_option maxHeartbeats 4000000 in
theorem rgX3_comparison {G : GG} {p1 : Int} {S : SS} {rr : SS} (h : gX3_comparison p1 S = some rr) : RD G mX3_comparison 69 [vr 19, vi p1] S none rr := (rGX3_truth 60).2.2.2.1 _ _ _ h
def gX3_sum (p1 : Int) (S : SS) : Option SS := fGX3_truth 60 4 p1 S
set_option maxRecDepth 100000 in
set_option maxHeartbeats 4000000 in
theorem rgX3_sum {G : GG} {p1 : Int} {S : SS} {rr : SS} (h : gX3_sum p1 S = some rr) : RD G mX3_sum 69 [vr 19, vi p1] S none rr := (rGX3_truth 60).2.2.2.2.1 _ _ _ h
def gX3_term (p1 : Int) (S : SS) : Option SS := fGX3_truth 60 5 p1 S
set_option maxRecDepth 100000 in
set_option maxHeartbeats 4000000 in
theorem rgX3_term {G : GG} {p1 : Int} {S : SS} {rr : SS} (h : gX3_term p1 S = some rr) : RD G mX3_term 69 [vr 19, vi p1] S none rr := (rGX3_truth 60).2.2.2.2.2.1 _ _ _ h
def gX3_atom (p1 : Int) (S : SS) : Option SS := fGX3_truth 60 6 p1 S
set_option maxRecDepth 100000 in
set_option maxHeartbeats 4000000 in
theorem rgX3_atom {G : GG} {p1 : Int} {S : SS} {rr : SS} (h : gX3_atom p1 S = some rr) : RD G mX3_atom 69 [vr 19, vi p1] S none rr := (rGX3_truth 60).2.2.2.2.2.2.1 _ _ _ h
def gX3_choice (p1 : Int) (S : SS) : Option SS := fGX3_truth 60 7 p1 S
set_option maxRecDepth 100000 in
set_option maxHeartbeats 4000000 in
theorem rgX3_choice {G : GG} {p1 : Int} {S : SS} {rr : SS} (h : gX3_choice p1 S = some rr) : RD G mX3_choice 69 [vr 19, vi p1] S none rr := (rGX3_truth 60).2.2.2.2.2.2.2 _ _ _ h
def fX3_shiftsLine (S : SS) : Option SS :=
  Option.bind (fX3_advance  S) fun q1 =>
  Option.bind (fX3_expect 58 q1) fun q2 =>
  lt (up q2 19 8 0) fun S3 =>
  lt (up S3 21 10 (S3 21 9)) fun S4 =>
  Option.bind (gX3_sum 0 S4) fun q5 =>
  lt (up q5 21 11 (q5 21 9)) fun S6 =>
  some S6
set_option maxRecDepth 100000 in
set_option maxHeartbeats 4000000 in
theorem rX3_shiftsLine {G : GG} {S : SS} {rr : SS} (h : fX3_shiftsLine  S = some rr) : RD G mX3_shiftsLine 70 [vr 19] S none rr := by
  unfold fX3_shiftsLine at h
  refine Runs.of pl_X3 (Nat.le_of_ble_eq_true rfl) ?_
  show At G mX3_shiftsLine 70 0 [(0, vr 19)] [] (mm S) 0 0 (EQ none rr)
  refine At.aloadn dX3_shiftsLine_0 rfl <| ?_
  obtain ⟨q1, hq1, h⟩ := bnd_e h
  refine At.cV0 (av := []) (rest := []) mv_X3_advance lk_X3_47 dX3_shiftsLine_1 rfl rfl sh_19 (Nat.le_of_ble_eq_true rfl) (by decide) ⟨rfl, rfl⟩ (rX3_advance hq1) <| At.aloadn dX3_shiftsLine_4 rfl <| At.bipush dX3_shiftsLine_5 (by decide) <| ?_
  obtain ⟨q2, hq2, h⟩ := bnd_e h
  refine At.cV0 (av := [vi 58]) (rest := []) mv_X3_expect lk_X3_50 dX3_shiftsLine_7 rfl rfl sh_19 (Nat.le_of_ble_eq_true rfl) (by decide) ⟨rfl, rfl⟩ (rX3_expect hq2) <| At.aloadn dX3_shiftsLine_10 rfl <| At.iconst dX3_shiftsLine_11 (by decide) <| ?_
  obtain ⟨S3, hS3, h⟩ := lt_e h
  refine At.putZ (by decide) fw_X3_155 sh_19 (le149 sh_19) dX3_shiftsLine_12 <| At.nmS hS3 <| At.aloadn dX3_shiftsLine_15 rfl <| At.getR fl_X3_18 sh_19 (le149 sh_19) rf_19_1 dX3_shiftsLine_16 <| At.aloadn dX3_shiftsLine_19 rfl <| At.getR fl_X3_18 sh_19 (le149 sh_19) rf_19_1 dX3_shiftsLine_20 <| At.getI fl_X3_159 sh_21 (le149 sh_21) dX3_shiftsLine_23 <| ?_
  obtain ⟨S4, hS4, h⟩ := lt_e h
  refine At.putI fw_X3_162 sh_21 (le149 sh_21) dX3_shiftsLine_26 <| At.nmS hS4 <| At.aloadn dX3_shiftsLine_29 rfl <| At.iconst dX3_shiftsLine_30 (by decide) <| ?_
  obtain ⟨q5, hq5, h⟩ := bnd_e h
  refine At.cV0 (av := [vi 0]) (rest := []) mv_X3_sum lk_X3_165 dX3_shiftsLine_31 rfl rfl sh_19 (Nat.le_of_ble_eq_true rfl) (by decide) ⟨rfl, rfl⟩ (rgX3_sum hq5) <| At.aloadn dX3_shiftsLine_34 rfl <| At.getR fl_X3_18 sh_19 (le149 sh_19) rf_19_1 dX3_shiftsLine_35 <| At.aloadn dX3_shiftsLine_38 rfl <| At.getR fl_X3_18 sh_19 (le149 sh_19) rf_19_1 dX3_shiftsLine_39 <| At.getI fl_X3_159 sh_21 (le149 sh_21) dX3_shiftsLine_42 <| ?_
  obtain ⟨S6, hS6, h⟩ := lt_e h
  refine At.putI fw_X3_168 sh_21 (le149 sh_21) dX3_shiftsLine_45 <| At.nmS hS6 <| ?_
  obtain rfl := Option.some.inj h
  exact At.vret rfl (Nat.zero_le _) (Nat.zero_le _) ⟨rfl, rfl⟩ dX3_shiftsLine_48
def fX3_mayLine (S : SS) : Option SS :=
  Option.bind (fX3_advance  S) fun q1 =>
  Option.bind (fX3_expect 58 q1) fun q2 =>
  lt (up q2 19 8 1) fun S3 =>
  lt (up S3 21 12 (S3 21 9)) fun S4 =>
  Option.bind (gX3_truth 0 S4) fun q5 =>
  lt (up q5 21 13 (q5 21 9)) fun S6 =>
  some S6
set_option maxRecDepth 100000 in
set_option maxHeartbeats 4000000 in
theorem rX3_mayLine {G : GG} {S : SS} {rr : SS} (h : fX3_mayLine  S = some rr) : RD G mX3_mayLine 70 [vr 19] S none rr := by
  unfold fX3_mayLine at h
  refine Runs.of pl_X3 (Nat.le_of_ble_eq_true rfl) ?_
  show At G mX3_mayLine 70 0 [(0, vr 19)] [] (mm S) 0 0 (EQ none rr)
  refine At.aloadn dX3_mayLine_0 rfl <| ?_
  obtain ⟨q1, hq1, h⟩ := bnd_e h
  refine At.cV0 (av := []) (rest := []) mv_X3_advance lk_X3_47 dX3_mayLine_1 rfl rfl sh_19 (Nat.le_of_ble_eq_true rfl) (by decide) ⟨rfl, rfl⟩ (rX3_advance hq1) <| At.aloadn dX3_mayLine_4 rfl <| At.bipush dX3_mayLine_5 (by decide) <| ?_
  obtain ⟨q2, hq2, h⟩ := bnd_e h
  refine At.cV0 (av := [vi 58]) (rest := []) mv_X3_expect lk_X3_50 dX3_mayLine_7 rfl rfl sh_19 (Nat.le_of_ble_eq_true rfl) (by decide) ⟨rfl, rfl⟩ (rX3_expect hq2) <| At.aloadn dX3_mayLine_10 rfl <| At.iconst dX3_mayLine_11 (by decide) <| ?_
  obtain ⟨S3, hS3, h⟩ := lt_e h
  refine At.putZ (by decide) fw_X3_155 sh_19 (le149 sh_19) dX3_mayLine_12 <| At.nmS hS3 <| At.aloadn dX3_mayLine_15 rfl <| At.getR fl_X3_18 sh_19 (le149 sh_19) rf_19_1 dX3_mayLine_16 <| At.aloadn dX3_mayLine_19 rfl <| At.getR fl_X3_18 sh_19 (le149 sh_19) rf_19_1 dX3_mayLine_20 <| At.getI fl_X3_159 sh_21 (le149 sh_21) dX3_mayLine_23 <| ?_
  obtain ⟨S4, hS4, h⟩ := lt_e h
  refine At.putI fw_X3_171 sh_21 (le149 sh_21) dX3_mayLine_26 <| At.nmS hS4 <| At.aloadn dX3_mayLine_29 rfl <| At.iconst dX3_mayLine_30 (by decide) <| ?_
  obtain ⟨q5, hq5, h⟩ := bnd_e h
  refine At.cV0 (av := [vi 0]) (rest := []) mv_X3_truth lk_X3_174 dX3_mayLine_31 rfl rfl sh_19 (Nat.le_of_ble_eq_true rfl) (by decide) ⟨rfl, rfl⟩ (rgX3_truth hq5) <| At.aloadn dX3_mayLine_34 rfl <| At.getR fl_X3_18 sh_19 (le149 sh_19) rf_19_1 dX3_mayLine_35 <| At.aloadn dX3_mayLine_38 rfl <| At.getR fl_X3_18 sh_19 (le149 sh_19) rf_19_1 dX3_mayLine_39 <| At.getI fl_X3_159 sh_21 (le149 sh_21) dX3_mayLine_42 <| ?_
  obtain ⟨S6, hS6, h⟩ := lt_e h
  refine At.putI fw_X3_177 sh_21 (le149 sh_21) dX3_mayLine_45 <| At.nmS hS6 <| ?_
  obtain rfl := Option.some.inj h
  exact At.vret rfl (Nat.zero_le _) (Nat.zero_le _) ⟨rfl, rfl⟩ dX3_mayLine_48
def fX3_line (S : SS) : Option SS :=
  Option.bind (
    if S 19 5 = 1001 then (
      Option.bind (fX3_streetLine  S) fun q3 =>
      some q3
    ) else (
      if S 19 5 = 1002 then (
        Option.bind (fX3_goerLine  S) fun q5 =>
        some q5
      ) else (
        if S 19 5 = 1004 then (
          Option.bind (fX3_advance  S) fun q7 =>
          Option.bind (fX3_number 0 9 ((-1)) q7) fun q8 =>
          lt (up q8.2 26 3 q8.1) fun S9 =>
          some S9
        ) else (
          if S 19 5 = 1005 then (
            Option.bind (fX3_shiftsLine  S) fun q11 =>
            some q11
          ) else (
            if S 19 5 = 1006 then (
              Option.bind (fX3_mayLine  S) fun q13 =>
              some q13
            ) else (
              Option.bind (fX3_fail 2 S) fun q14 =>
              some q14
            )
          )
        )
      )
    )
    : Option (SS)) fun q1 =>
  Option.bind (fX3_expect 59 q1) fun q15 =>
  lt (up q15 21 8 (w32 ((q15 21 8) + 1))) fun S16 =>
  some S16
set_option maxRecDepth 100000 in
set_option maxHeartbeats 4000000 in
theorem rX3_line {G : GG} {S : SS} {rr : SS} (h : fX3_line  S = some rr) : RD G mX3_line 71 [vr 19] S none rr := by
  unfold fX3_line at h
  refine Runs.of pl_X3 (Nat.le_of_ble_eq_true rfl) ?_
  show At G mX3_line 71 0 [(0, vr 19)] [] (mm S) 0 0 (EQ none rr)
  obtain ⟨q1, hj102, h⟩ := bnd_e h
  have K102 : At G mX3_line 71 102 [(0, vr 19)] [] (mm q1) 0 0 (EQ none rr) := by
    refine At.aloadn dX3_line_102 rfl <| At.bipush dX3_line_103 (by decide) <| ?_
    obtain ⟨q15, hq15, h⟩ := bnd_e h
    refine At.cV0 (av := [vi 59]) (rest := []) mv_X3_expect lk_X3_50 dX3_line_105 rfl rfl sh_19 (Nat.le_of_ble_eq_true rfl) (by decide) ⟨rfl, rfl⟩ (rX3_expect hq15) <| At.aloadn dX3_line_108 rfl <| At.getR fl_X3_18 sh_19 (le149 sh_19) rf_19_1 dX3_line_109 <| At.dup rfl dX3_line_112 <| At.getI fl_X3_61 sh_21 (le149 sh_21) dX3_line_113 <| At.iconst dX3_line_116 (by decide) <| At.iadd dX3_line_117 <| ?_
    obtain ⟨S16, hS16, h⟩ := lt_e h
    refine At.putI fw_X3_61 sh_21 (le149 sh_21) dX3_line_118 <| At.nmS hS16 <| ?_
    obtain rfl := Option.some.inj h
    exact At.vret rfl (Nat.zero_le _) (Nat.zero_le _) ⟨rfl, rfl⟩ dX3_line_121
  clear h; have h := hj102; clear hj102
  rcases ite_e h with ⟨c2, h⟩ | ⟨c2, h⟩
  · refine At.aloadn dX3_line_0 rfl <| At.getI fl_X3_64 sh_19 (le149 sh_19) dX3_line_1 <| At.tsIn (off := 40) (tgt := 44) dX3_line_4 (by omega) (by omega) (by rw [c2] <;> rfl) (by decide) <| ?_
    refine At.aloadn dX3_line_44 rfl <| ?_
    obtain ⟨q3, hq3, h⟩ := bnd_e h
    refine At.cV0 (av := []) (rest := []) mv_X3_streetLine lk_X3_107 dX3_line_45 rfl rfl sh_19 (Nat.le_of_ble_eq_true rfl) (by decide) ⟨rfl, rfl⟩ (rX3_streetLine hq3) <| At.goto (tgt := 102) dX3_line_48 (by decide) <| ?_
    obtain rfl := Option.some.inj h
    exact At.sub [0] rfl K102
  · rcases ite_e h with ⟨c4, h⟩ | ⟨c4, h⟩
    · refine At.aloadn dX3_line_0 rfl <| At.getI fl_X3_64 sh_19 (le149 sh_19) dX3_line_1 <| At.tsIn (off := 47) (tgt := 51) dX3_line_4 (by omega) (by omega) (by rw [c4] <;> rfl) (by decide) <| ?_
      refine At.aloadn dX3_line_51 rfl <| ?_
      obtain ⟨q5, hq5, h⟩ := bnd_e h
      refine At.cV0 (av := []) (rest := []) mv_X3_goerLine lk_X3_110 dX3_line_52 rfl rfl sh_19 (Nat.le_of_ble_eq_true rfl) (by decide) ⟨rfl, rfl⟩ (rX3_goerLine hq5) <| At.goto (tgt := 102) dX3_line_55 (by decide) <| ?_
      obtain rfl := Option.some.inj h
      exact At.sub [0] rfl K102
    · rcases ite_e h with ⟨c6, h⟩ | ⟨c6, h⟩
      · refine At.aloadn dX3_line_0 rfl <| At.getI fl_X3_64 sh_19 (le149 sh_19) dX3_line_1 <| At.tsIn (off := 54) (tgt := 58) dX3_line_4 (by omega) (by omega) (by rw [c6] <;> rfl) (by decide) <| ?_
        refine At.aloadn dX3_line_58 rfl <| ?_
        obtain ⟨q7, hq7, h⟩ := bnd_e h
        refine At.cV0 (av := []) (rest := []) mv_X3_advance lk_X3_47 dX3_line_59 rfl rfl sh_19 (Nat.le_of_ble_eq_true rfl) (by decide) ⟨rfl, rfl⟩ (rX3_advance hq7) <| At.aloadn dX3_line_62 rfl <| At.getR fl_X3_18 sh_19 (le149 sh_19) rf_19_1 dX3_line_63 <| At.getR fl_X3_113 sh_21 (le149 sh_21) rf_21_4 dX3_line_66 <| At.aloadn dX3_line_69 rfl <| At.iconst dX3_line_70 (by decide) <| At.bipush dX3_line_71 (by decide) <| At.iconst dX3_line_73 (by decide) <| ?_
        obtain ⟨q8, hq8, h⟩ := bnd_e h
        refine At.cV1 (av := [vi 0, vi 9, vi ((-1))]) (rest := [vr 26]) mv_X3_number lk_X3_54 dX3_line_74 rfl rfl sh_19 (Nat.le_of_ble_eq_true rfl) (by decide) ⟨rfl, rfl⟩ (rX3_number hq8) <| ?_
        obtain ⟨S9, hS9, h⟩ := lt_e h
        refine At.putI fw_X3_117 sh_26 (le149 sh_26) dX3_line_77 <| At.nmS hS9 <| At.goto (tgt := 102) dX3_line_80 (by decide) <| ?_
        obtain rfl := Option.some.inj h
        exact At.sub [0] rfl K102
      · rcases ite_e h with ⟨c10, h⟩ | ⟨c10, h⟩
        · refine At.aloadn dX3_line_0 rfl <| At.getI fl_X3_64 sh_19 (le149 sh_19) dX3_line_1 <| At.tsIn (off := 79) (tgt := 83) dX3_line_4 (by omega) (by omega) (by rw [c10] <;> rfl) (by decide) <| ?_
          refine At.aloadn dX3_line_83 rfl <| ?_
          obtain ⟨q11, hq11, h⟩ := bnd_e h
          refine At.cV0 (av := []) (rest := []) mv_X3_shiftsLine lk_X3_122 dX3_line_84 rfl rfl sh_19 (Nat.le_of_ble_eq_true rfl) (by decide) ⟨rfl, rfl⟩ (rX3_shiftsLine hq11) <| At.goto (tgt := 102) dX3_line_87 (by decide) <| ?_
          obtain rfl := Option.some.inj h
          exact At.sub [0] rfl K102
        · rcases ite_e h with ⟨c12, h⟩ | ⟨c12, h⟩
          · refine At.aloadn dX3_line_0 rfl <| At.getI fl_X3_64 sh_19 (le149 sh_19) dX3_line_1 <| At.tsIn (off := 86) (tgt := 90) dX3_line_4 (by omega) (by omega) (by rw [c12] <;> rfl) (by decide) <| ?_
            refine At.aloadn dX3_line_90 rfl <| ?_
            obtain ⟨q13, hq13, h⟩ := bnd_e h
            refine At.cV0 (av := []) (rest := []) mv_X3_mayLine lk_X3_125 dX3_line_91 rfl rfl sh_19 (Nat.le_of_ble_eq_true rfl) (by decide) ⟨rfl, rfl⟩ (rX3_mayLine hq13) <| At.goto (tgt := 102) dX3_line_94 (by decide) <| ?_
            obtain rfl := Option.some.inj h
            exact At.sub [0] rfl K102
          · rcases (show (S 19 5 < 1001 ∨ 1006 < S 19 5) ∨ S 19 5 = 1003 by omega) with hz | hz
            · refine At.aloadn dX3_line_0 rfl <| At.getI fl_X3_64 sh_19 (le149 sh_19) dX3_line_1 <| At.tsOut (tgt := 97) dX3_line_4 hz (by decide) <| ?_
              refine At.aloadn dX3_line_97 rfl <| At.iconst dX3_line_98 (by decide) <| ?_
              obtain ⟨q14, hq14, h⟩ := bnd_e h
              refine At.cV0 (av := [vi 2]) (rest := []) mv_X3_fail lk_X3_80 dX3_line_99 rfl rfl sh_19 (Nat.le_of_ble_eq_true rfl) (by decide) ⟨rfl, rfl⟩ (rX3_fail hq14) <| ?_
              obtain rfl := Option.some.inj h
              exact At.sub [0] rfl K102
            · refine At.aloadn dX3_line_0 rfl <| At.getI fl_X3_64 sh_19 (le149 sh_19) dX3_line_1 <| At.tsIn (off := 93) (tgt := 97) dX3_line_4 (by omega) (by omega) (by rw [hz] <;> rfl) (by decide) <| ?_
              refine At.aloadn dX3_line_97 rfl <| At.iconst dX3_line_98 (by decide) <| ?_
              obtain ⟨q14, hq14, h⟩ := bnd_e h
              refine At.cV0 (av := [vi 2]) (rest := []) mv_X3_fail lk_X3_80 dX3_line_99 rfl rfl sh_19 (Nat.le_of_ble_eq_true rfl) (by decide) ⟨rfl, rfl⟩ (rX3_fail hq14) <| ?_
              obtain rfl := Option.some.inj h
              exact At.sub [0] rfl K102
def fX3_read_L76 : Nat → Int → SS → Option (SS)
  | 0, _, _ => none
  | n + 1, l2, S =>
    if 900 ≤ l2 then (
      some S
    ) else (
      if (S 19 5) = 0 then (
        some S
      ) else (
        if (S 19 5) = 1 then (
          some S
        ) else (
          Option.bind (fX3_line  S) fun q1 =>
          lt (w32 (l2 + 1)) fun x2 =>
          fX3_read_L76 n x2 q1
        )
      )
    )
def fX3_read (p1 : Int) (S : SS) : Option SS :=
  lt (up S 19 9 0) fun S1 =>
  lt (up S1 19 10 ((-1))) fun S2 =>
  lt (if (S2 19 2) < p1 then S2 19 2 else p1) fun x3 =>
  lt (up S2 19 3 x3) fun S4 =>
  lt (up S4 19 4 0) fun S5 =>
  Option.bind (fX8_clear 21 S5) fun q6 =>
  Option.bind (fX3_advance  q6) fun q7 =>
  Option.bind (fX3_expect 1000 q7) fun q8 =>
  Option.bind (fX3_number 1 6 ((-1)) q8) fun q9 =>
  lt (up q9.2 21 5 q9.1) fun S10 =>
  Option.bind (fX3_expect 59 S10) fun q11 =>
  lt (up q11 21 8 1) fun S12 =>
  Option.bind (fX3_read_L76 FU 0 S12) fun q13 =>
  lt (up q13 19 2 0) fun S15 =>
  some S15
set_option maxRecDepth 100000 in
set_option maxHeartbeats 4000000 in
theorem lX3_read_L76 {G : GG} {Φ : Option VV → MM → Prop} : ∀ (n : Nat) (l2 : Int) (S : SS) (q : SS), fX3_read_L76 n l2 S = some q → At G mX3_read 72 108 [(0, vr 19)] [] (mm q) 0 0 Φ → At G mX3_read 72 76 [(0, vr 19), (2, vi l2)] [] (mm S) 0 0 Φ := by
  intro n
  induction n with
  | zero =>
    intro _ _ _ h
    cases h
  | succ n ih =>
    intro l2 S q h K108
    unfold fX3_read_L76 at h
    rcases ite_e h with ⟨c5, h⟩ | ⟨c5, h⟩
    · refine At.iloadn dX3_read_76 rfl <| At.sipush dX3_read_77 (by decide) <| At.icmp_ge_t (tgt := 108) dX3_read_80 (by decide) c5 <| ?_
      obtain rfl := Option.some.inj h
      exact At.sub [0] rfl K108
    · refine At.iloadn dX3_read_76 rfl <| At.sipush dX3_read_77 (by decide) <| At.icmp_ge_f (tgt := 108) dX3_read_80 (by decide) c5 <| ?_
      rcases ite_e h with ⟨c4, h⟩ | ⟨c4, h⟩
      · refine At.aloadn dX3_read_83 rfl <| At.getI fl_X3_64 sh_19 (le149 sh_19) dX3_read_84 <| At.if_eq_t (tgt := 108) dX3_read_87 (by decide) c4 <| ?_
        obtain rfl := Option.some.inj h
        exact At.sub [0] rfl K108
      · refine At.aloadn dX3_read_83 rfl <| At.getI fl_X3_64 sh_19 (le149 sh_19) dX3_read_84 <| At.if_eq_f (tgt := 108) dX3_read_87 (by decide) c4 <| ?_
        rcases ite_e h with ⟨c3, h⟩ | ⟨c3, h⟩
        · refine At.aloadn dX3_read_90 rfl <| At.getI fl_X3_64 sh_19 (le149 sh_19) dX3_read_91 <| At.iconst dX3_read_94 (by decide) <| At.icmp_eq_t (tgt := 108) dX3_read_95 (by decide) c3 <| ?_
          obtain rfl := Option.some.inj h
          exact At.sub [0] rfl K108
        · refine At.aloadn dX3_read_90 rfl <| At.getI fl_X3_64 sh_19 (le149 sh_19) dX3_read_91 <| At.iconst dX3_read_94 (by decide) <| At.icmp_eq_f (tgt := 108) dX3_read_95 (by decide) c3 <| ?_
          refine At.aloadn dX3_read_98 rfl <| ?_
          obtain ⟨q1, hq1, h⟩ := bnd_e h
          refine At.cV0 (av := []) (rest := []) mv_X3_line lk_X3_67 dX3_read_99 rfl rfl sh_19 (Nat.le_of_ble_eq_true rfl) (by decide) ⟨rfl, rfl⟩ (rX3_line hq1) <| ?_
          obtain ⟨x2, hx2, h⟩ := lt_e h
          refine At.iinc (ls' := [(2, vi x2), (0, vr 19)]) dX3_read_102 rfl (by decide) (by rw [hx2]; rfl) <| At.goto (tgt := 76) dX3_read_105 (by decide) <| ?_
          exact At.sub [1, 0] rfl (ih _ _ _ h K108)
set_option maxRecDepth 100000 in
set_option maxHeartbeats 4000000 in
theorem rX3_read {G : GG} {p1 : Int} {S : SS} {rr : SS} (h : fX3_read p1 S = some rr) : RD G mX3_read 72 [vr 19, vi p1] S none rr := by
  unfold fX3_read at h
  refine Runs.of pl_X3 (Nat.le_of_ble_eq_true rfl) ?_
  show At G mX3_read 72 0 [(0, vr 19), (1, vi p1)] [] (mm S) 0 0 (EQ none rr)
  refine At.aloadn dX3_read_0 rfl <| At.iconst dX3_read_1 (by decide) <| ?_
  obtain ⟨S1, hS1, h⟩ := lt_e h
  refine At.putI fw_X3_29 sh_19 (le149 sh_19) dX3_read_2 <| At.nmS hS1 <| At.aloadn dX3_read_5 rfl <| At.iconst dX3_read_6 (by decide) <| ?_
  obtain ⟨S2, hS2, h⟩ := lt_e h
  refine At.putI fw_X3_22 sh_19 (le149 sh_19) dX3_read_7 <| At.nmS hS2 <| At.aloadn dX3_read_10 rfl <| At.iloadn dX3_read_11 rfl <| At.aloadn dX3_read_12 rfl <| At.getI fl_X3_26 sh_19 (le149 sh_19) dX3_read_13 <| ?_
  obtain ⟨x3, hx3, h⟩ := lt_e h
  refine At.mmin ln_X3_32 (Nat.le_of_ble_eq_true rfl) (by decide) dX3_read_16 <| At.nm hx3 <| ?_
  obtain ⟨S4, hS4, h⟩ := lt_e h
  refine At.putI fw_X3_38 sh_19 (le149 sh_19) dX3_read_19 <| At.nmS hS4 <| At.aloadn dX3_read_22 rfl <| At.iconst dX3_read_23 (by decide) <| ?_
  obtain ⟨S5, hS5, h⟩ := lt_e h
  refine At.putI fw_X3_41 sh_19 (le149 sh_19) dX3_read_24 <| At.nmS hS5 <| At.aloadn dX3_read_27 rfl <| At.getR fl_X3_18 sh_19 (le149 sh_19) rf_19_1 dX3_read_28 <| ?_
  obtain ⟨q6, hq6, h⟩ := bnd_e h
  refine At.cV0 (av := []) (rest := []) mv_X8_clear lk_X3_44 dX3_read_31 rfl rfl sh_21 (Nat.le_of_ble_eq_true rfl) (by decide) ⟨rfl, rfl⟩ (rX8_clear sh_21 hq6) <| At.aloadn dX3_read_34 rfl <| ?_
  obtain ⟨q7, hq7, h⟩ := bnd_e h
  refine At.cV0 (av := []) (rest := []) mv_X3_advance lk_X3_47 dX3_read_35 rfl rfl sh_19 (Nat.le_of_ble_eq_true rfl) (by decide) ⟨rfl, rfl⟩ (rX3_advance hq7) <| At.aloadn dX3_read_38 rfl <| At.sipush dX3_read_39 (by decide) <| ?_
  obtain ⟨q8, hq8, h⟩ := bnd_e h
  refine At.cV0 (av := [vi 1000]) (rest := []) mv_X3_expect lk_X3_50 dX3_read_42 rfl rfl sh_19 (Nat.le_of_ble_eq_true rfl) (by decide) ⟨rfl, rfl⟩ (rX3_expect hq8) <| At.aloadn dX3_read_45 rfl <| At.getR fl_X3_18 sh_19 (le149 sh_19) rf_19_1 dX3_read_46 <| At.aloadn dX3_read_49 rfl <| At.iconst dX3_read_50 (by decide) <| At.bipush dX3_read_51 (by decide) <| At.iconst dX3_read_53 (by decide) <| ?_
  obtain ⟨q9, hq9, h⟩ := bnd_e h
  refine At.cV1 (av := [vi 1, vi 6, vi ((-1))]) (rest := [vr 21]) mv_X3_number lk_X3_54 dX3_read_54 rfl rfl sh_19 (Nat.le_of_ble_eq_true rfl) (by decide) ⟨rfl, rfl⟩ (rX3_number hq9) <| ?_
  obtain ⟨S10, hS10, h⟩ := lt_e h
  refine At.putI fw_X3_58 sh_21 (le149 sh_21) dX3_read_57 <| At.nmS hS10 <| At.aloadn dX3_read_60 rfl <| At.bipush dX3_read_61 (by decide) <| ?_
  obtain ⟨q11, hq11, h⟩ := bnd_e h
  refine At.cV0 (av := [vi 59]) (rest := []) mv_X3_expect lk_X3_50 dX3_read_63 rfl rfl sh_19 (Nat.le_of_ble_eq_true rfl) (by decide) ⟨rfl, rfl⟩ (rX3_expect hq11) <| At.aloadn dX3_read_66 rfl <| At.getR fl_X3_18 sh_19 (le149 sh_19) rf_19_1 dX3_read_67 <| At.iconst dX3_read_70 (by decide) <| ?_
  obtain ⟨S12, hS12, h⟩ := lt_e h
  refine At.putI fw_X3_61 sh_21 (le149 sh_21) dX3_read_71 <| At.nmS hS12 <| At.iconst dX3_read_74 (by decide) <| At.istoren (ls' := [(2, vi 0), (0, vr 19), (1, vi p1)]) dX3_read_75 (by decide) rfl <| ?_
  obtain ⟨q13, ho14, h⟩ := bnd_e h
  refine At.sub [1, 0] rfl (lX3_read_L76 FU _ _ q13 ho14 ?_)
  refine At.aloadn dX3_read_108 rfl <| At.iconst dX3_read_109 (by decide) <| ?_
  obtain ⟨S15, hS15, h⟩ := lt_e h
  refine At.putI fw_X3_26 sh_19 (le149 sh_19) dX3_read_110 <| At.nmS hS15 <| ?_
  obtain rfl := Option.some.inj h
  exact At.vret rfl (Nat.zero_le _) (Nat.zero_le _) ⟨rfl, rfl⟩ dX3_read_113
def fX11_town (p1 : Int) (S : SS) : Option (Int × SS) :=
  if p1 < 0 then (
    some ((-3), S)
  ) else (
    if p1 ≤ (S 19 2) then (
      Option.bind (fX3_read p1 S) fun q1 =>
      if (q1 19 9) = 0 then (
        Option.bind (fX11_becomes 21 q1) fun q2 =>
        some (q2 2 8, q2)
      ) else (
        some (w32 (((-30)) - (q1 19 9)), q1)
      )
    ) else (
      some ((-3), S)
    )
  )
set_option maxRecDepth 100000 in
set_option maxHeartbeats 4000000 in
theorem rX11_town {G : GG} {p1 : Int} {S : SS} {rr : (Int × SS)} (h : fX11_town p1 S = some rr) : RD G mX11_town 73 [vr 1, vi p1] S (some (vi rr.1)) rr.2 := by
  unfold fX11_town at h
  refine Runs.of pl_X11 (Nat.le_of_ble_eq_true rfl) ?_
  show At G mX11_town 73 0 [(0, vr 1), (1, vi p1)] [] (mm S) 0 0 (EQ (some (vi rr.1)) rr.2)
  rcases ite_e h with ⟨c5, h⟩ | ⟨c5, h⟩
  · refine At.iloadn dX11_town_0 rfl <| At.if_lt_t (tgt := 15) dX11_town_1 (by decide) c5 <| ?_
    refine At.bipush dX11_town_15 (by decide) <| ?_
    obtain rfl := Option.some.inj h
    exact At.iret rfl (Nat.zero_le _) (Nat.zero_le _) ⟨rfl, rfl⟩ dX11_town_17
  · refine At.iloadn dX11_town_0 rfl <| At.if_lt_f (tgt := 15) dX11_town_1 (by decide) c5 <| ?_
    rcases ite_e h with ⟨c4, h⟩ | ⟨c4, h⟩
    · refine At.iloadn dX11_town_4 rfl <| At.aloadn dX11_town_5 rfl <| At.getR fl_X11_35 sh_1 (le149 sh_1) rf_1_4 dX11_town_6 <| At.getI fl_X11_105 sh_19 (le149 sh_19) dX11_town_9 <| At.icmp_le_t (tgt := 18) dX11_town_12 (by decide) c4 <| ?_
      refine At.aloadn dX11_town_18 rfl <| At.getR fl_X11_35 sh_1 (le149 sh_1) rf_1_4 dX11_town_19 <| At.iloadn dX11_town_22 rfl <| ?_
      obtain ⟨q1, hq1, h⟩ := bnd_e h
      rcases ite_e h with ⟨c3, h⟩ | ⟨c3, h⟩
      · refine At.cV0 (av := [vi p1]) (rest := []) mv_X3_read lk_X11_113 dX11_town_23 rfl rfl sh_19 (Nat.le_of_ble_eq_true rfl) (by decide) ⟨rfl, rfl⟩ (rX3_read hq1) <| At.aloadn dX11_town_26 rfl <| At.getR fl_X11_35 sh_1 (le149 sh_1) rf_1_4 dX11_town_27 <| At.getI fl_X11_116 sh_19 (le149 sh_19) dX11_town_30 <| At.if_eq_t (tgt := 47) dX11_town_33 (by decide) c3 <| ?_
        refine At.aloadn dX11_town_47 rfl <| At.aloadn dX11_town_48 rfl <| At.getR fl_X11_35 sh_1 (le149 sh_1) rf_1_4 dX11_town_49 <| At.getR fl_X11_119 sh_19 (le149 sh_19) rf_19_1 dX11_town_52 <| ?_
        obtain ⟨q2, hq2, h⟩ := bnd_e h
        refine At.cV0 (av := [vr 21]) (rest := []) mv_X11_becomes lk_X11_122 dX11_town_55 rfl rfl sh_1 (Nat.le_of_ble_eq_true rfl) (by decide) ⟨rfl, rfl⟩ (rX11_becomes sh_21 hq2) <| At.aloadn dX11_town_58 rfl <| At.getR fl_X11_12 sh_1 (le149 sh_1) rf_1_0 dX11_town_59 <| At.getI fl_X11_125 sh_2 (le149 sh_2) dX11_town_62 <| ?_
        obtain rfl := Option.some.inj h
        exact At.iret rfl (Nat.zero_le _) (Nat.zero_le _) ⟨rfl, rfl⟩ dX11_town_65
      · refine At.cV0 (av := [vi p1]) (rest := []) mv_X3_read lk_X11_113 dX11_town_23 rfl rfl sh_19 (Nat.le_of_ble_eq_true rfl) (by decide) ⟨rfl, rfl⟩ (rX3_read hq1) <| At.aloadn dX11_town_26 rfl <| At.getR fl_X11_35 sh_1 (le149 sh_1) rf_1_4 dX11_town_27 <| At.getI fl_X11_116 sh_19 (le149 sh_19) dX11_town_30 <| At.if_eq_f (tgt := 47) dX11_town_33 (by decide) c3 <| ?_
        refine At.bipush dX11_town_36 (by decide) <| At.aloadn dX11_town_38 rfl <| At.getR fl_X11_35 sh_1 (le149 sh_1) rf_1_4 dX11_town_39 <| At.getI fl_X11_116 sh_19 (le149 sh_19) dX11_town_42 <| At.isub dX11_town_45 <| ?_
        obtain rfl := Option.some.inj h
        exact At.iret rfl (Nat.zero_le _) (Nat.zero_le _) ⟨rfl, rfl⟩ dX11_town_46
    · refine At.iloadn dX11_town_4 rfl <| At.aloadn dX11_town_5 rfl <| At.getR fl_X11_35 sh_1 (le149 sh_1) rf_1_4 dX11_town_6 <| At.getI fl_X11_105 sh_19 (le149 sh_19) dX11_town_9 <| At.icmp_le_f (tgt := 18) dX11_town_12 (by decide) c4 <| ?_
      refine At.bipush dX11_town_15 (by decide) <| ?_
      obtain rfl := Option.some.inj h
      exact At.iret rfl (Nat.zero_le _) (Nat.zero_le _) ⟨rfl, rfl⟩ dX11_town_17
def fX12_keyAt_L15 (l1 : Int) (l2 : Int) (S : SS) : Nat → Int → Option (Int)
  | 0, _ => none
  | n + 1, l3 =>
    rdX 2 (w32 (l2 + l3)) fun v1 =>
    if v1 = 32 then (
      some l3
    ) else (
      if (S 130 7) ≤ (w32 ((S 130 6) + l3)) then (
        some l3
      ) else (
        rdA S 133 900 (w32 ((S 130 6) + l3)) fun v3 =>
        rdX 2 (w32 (l2 + l3)) fun v5 =>
        if v3 = v5 then (
          lt (w32 (l3 + 1)) fun x7 =>
          fX12_keyAt_L15 l1 l2 S n x7
        ) else (
          some l3
        )
      )
    )
def fX12_keyAt_L97 (l1 : Int) (S : SS) : Nat → Int → Option (Int)
  | 0, _ => none
  | n + 1, l2 =>
    rdX 2 l2 fun v1 =>
    if v1 = 32 then (
      some l2
    ) else (
      lt (w32 (l2 + 1)) fun x3 =>
      fX12_keyAt_L97 l1 S n x3
    )
def fX12_keyAt_L4 (S : SS) : Nat → Int → Int → Option (Nat × Int)
  | 0, _, _ => none
  | n + 1, l1, l2 =>
    if 95 ≤ l2 then (
      some (1, 0)
    ) else (
      Option.bind (fX12_keyAt_L15 l1 l2 S FU 0) fun q1 =>
      rdX 2 (w32 (l2 + q1)) fun v3 =>
      if v3 = 32 then (
        if (w32 ((S 130 6) + q1)) = (S 130 7) then (
          some (0, l1)
        ) else (
          Option.bind (fX12_keyAt_L97 l1 S FU l2) fun q5 =>
          lt (w32 (q5 + 1)) fun x7 =>
          lt (w32 (l1 + 1)) fun x8 =>
          fX12_keyAt_L4 S n x8 x7
        )
      ) else (
        Option.bind (fX12_keyAt_L97 l1 S FU l2) fun q10 =>
        lt (w32 (q10 + 1)) fun x12 =>
        lt (w32 (l1 + 1)) fun x13 =>
        fX12_keyAt_L4 S n x13 x12
      )
    )
def fX12_keyAt (S : SS) : Option Int :=
  Option.bind (fX12_keyAt_L4 S FU 0 1) fun q1 =>
  if q1.1 = 0 then (
    some q1.2
  ) else (
    some 22
  )
set_option maxRecDepth 100000 in
set_option maxHeartbeats 4000000 in
theorem lX12_keyAt_L15 {G : GG} {Φ : Option VV → MM → Prop} {l1 : Int} {l2 : Int} {S : SS} : ∀ (n : Nat) (l3 : Int) (q : Int), fX12_keyAt_L15 l1 l2 S n l3 = some q → At G mX12_keyAt 6 69 [(0, vr 130), (1, vi l1), (2, vi l2), (3, vi q)] [] (mm S) 0 0 Φ → At G mX12_keyAt 6 15 [(0, vr 130), (1, vi l1), (2, vi l2), (3, vi l3)] [] (mm S) 0 0 Φ := by
  intro n
  induction n with
  | zero =>
    intro _ _ h
    cases h
  | succ n ih =>
    intro l3 q h K69
    unfold fX12_keyAt_L15 at h
    refine At.ldcS st_X12_86 dX12_keyAt_15 <| At.iloadn dX12_keyAt_17 rfl <| At.iloadn dX12_keyAt_18 rfl <| At.iadd dX12_keyAt_19 <| ?_
    obtain ⟨v1, hv1, g2, h⟩ := rdX_e h
    rcases ite_e h with ⟨c10, h⟩ | ⟨c10, h⟩
    · refine At.schar2 ln_X12_94 g2 (Nat.le_of_ble_eq_true rfl) (by decide) dX12_keyAt_20 <| At.nm hv1 <| At.bipush dX12_keyAt_23 (by decide) <| At.icmp_eq_t (tgt := 69) dX12_keyAt_25 (by decide) c10 <| ?_
      obtain rfl := Option.some.inj h
      exact At.sub [0, 1, 2, 3] rfl K69
    · refine At.schar2 ln_X12_94 g2 (Nat.le_of_ble_eq_true rfl) (by decide) dX12_keyAt_20 <| At.nm hv1 <| At.bipush dX12_keyAt_23 (by decide) <| At.icmp_eq_f (tgt := 69) dX12_keyAt_25 (by decide) c10 <| ?_
      rcases ite_e h with ⟨c9, h⟩ | ⟨c9, h⟩
      · refine At.aloadn dX12_keyAt_28 rfl <| At.getI fl_X12_98 sh_130 (le149 sh_130) dX12_keyAt_29 <| At.iloadn dX12_keyAt_32 rfl <| At.iadd dX12_keyAt_33 <| At.aloadn dX12_keyAt_34 rfl <| At.getI fl_X12_101 sh_130 (le149 sh_130) dX12_keyAt_35 <| At.icmp_ge_t (tgt := 69) dX12_keyAt_38 (by decide) c9 <| ?_
        obtain rfl := Option.some.inj h
        exact At.sub [0, 1, 2, 3] rfl K69
      · refine At.aloadn dX12_keyAt_28 rfl <| At.getI fl_X12_98 sh_130 (le149 sh_130) dX12_keyAt_29 <| At.iloadn dX12_keyAt_32 rfl <| At.iadd dX12_keyAt_33 <| At.aloadn dX12_keyAt_34 rfl <| At.getI fl_X12_101 sh_130 (le149 sh_130) dX12_keyAt_35 <| At.icmp_ge_f (tgt := 69) dX12_keyAt_38 (by decide) c9 <| ?_
        refine At.aloadn dX12_keyAt_41 rfl <| At.getR fl_X12_21 sh_130 (le149 sh_130) rf_130_3 dX12_keyAt_42 <| At.aloadn dX12_keyAt_45 rfl <| At.getI fl_X12_98 sh_130 (le149 sh_130) dX12_keyAt_46 <| At.iloadn dX12_keyAt_49 rfl <| At.iadd dX12_keyAt_50 <| ?_
        obtain ⟨v3, hv3, g4, h⟩ := rdA_e h
        refine At.iald sh_133 (le149 sh_133) g4.1 g4.2 dX12_keyAt_51 <| At.nm hv3 <| At.ldcS st_X12_86 dX12_keyAt_52 <| At.iloadn dX12_keyAt_54 rfl <| At.iloadn dX12_keyAt_55 rfl <| At.iadd dX12_keyAt_56 <| ?_
        obtain ⟨v5, hv5, g6, h⟩ := rdX_e h
        rcases ite_e h with ⟨c8, h⟩ | ⟨c8, h⟩
        · refine At.schar2 ln_X12_94 g6 (Nat.le_of_ble_eq_true rfl) (by decide) dX12_keyAt_57 <| At.nm hv5 <| At.icmp_ne_f (tgt := 69) dX12_keyAt_60 (by decide) c8 <| ?_
          obtain ⟨x7, hx7, h⟩ := lt_e h
          refine At.iinc (ls' := [(3, vi x7), (0, vr 130), (1, vi l1), (2, vi l2)]) dX12_keyAt_63 rfl (by decide) (by rw [hx7]; rfl) <| At.goto (tgt := 15) dX12_keyAt_66 (by decide) <| ?_
          exact At.sub [1, 2, 3, 0] rfl (ih _ _ h K69)
        · refine At.schar2 ln_X12_94 g6 (Nat.le_of_ble_eq_true rfl) (by decide) dX12_keyAt_57 <| At.nm hv5 <| At.icmp_ne_t (tgt := 69) dX12_keyAt_60 (by decide) c8 <| ?_
          obtain rfl := Option.some.inj h
          exact At.sub [0, 1, 2, 3] rfl K69
set_option maxRecDepth 100000 in
set_option maxHeartbeats 4000000 in
theorem lX12_keyAt_L97 {G : GG} {Φ : Option VV → MM → Prop} {l1 : Int} {S : SS} : ∀ (n : Nat) (l2 : Int) (q : Int), fX12_keyAt_L97 l1 S n l2 = some q → At G mX12_keyAt 6 114 [(0, vr 130), (1, vi l1), (2, vi q)] [] (mm S) 0 0 Φ → At G mX12_keyAt 6 97 [(0, vr 130), (1, vi l1), (2, vi l2)] [] (mm S) 0 0 Φ := by
  intro n
  induction n with
  | zero =>
    intro _ _ h
    cases h
  | succ n ih =>
    intro l2 q h K114
    unfold fX12_keyAt_L97 at h
    refine At.ldcS st_X12_86 dX12_keyAt_97 <| At.iloadn dX12_keyAt_99 rfl <| ?_
    obtain ⟨v1, hv1, g2, h⟩ := rdX_e h
    rcases ite_e h with ⟨c4, h⟩ | ⟨c4, h⟩
    · refine At.schar2 ln_X12_94 g2 (Nat.le_of_ble_eq_true rfl) (by decide) dX12_keyAt_100 <| At.nm hv1 <| At.bipush dX12_keyAt_103 (by decide) <| At.icmp_eq_t (tgt := 114) dX12_keyAt_105 (by decide) c4 <| ?_
      obtain rfl := Option.some.inj h
      exact At.sub [0, 1, 2] rfl K114
    · refine At.schar2 ln_X12_94 g2 (Nat.le_of_ble_eq_true rfl) (by decide) dX12_keyAt_100 <| At.nm hv1 <| At.bipush dX12_keyAt_103 (by decide) <| At.icmp_eq_f (tgt := 114) dX12_keyAt_105 (by decide) c4 <| ?_
      obtain ⟨x3, hx3, h⟩ := lt_e h
      refine At.iinc (ls' := [(2, vi x3), (0, vr 130), (1, vi l1)]) dX12_keyAt_108 rfl (by decide) (by rw [hx3]; rfl) <| At.goto (tgt := 97) dX12_keyAt_111 (by decide) <| ?_
      exact At.sub [1, 2, 0] rfl (ih _ _ h K114)
set_option maxRecDepth 100000 in
set_option maxHeartbeats 4000000 in
theorem lX12_keyAt_L4 {G : GG} {Φ : Option VV → MM → Prop} {S : SS} : ∀ (n : Nat) (l1 : Int) (l2 : Int) (q : Nat × Int), fX12_keyAt_L4 S n l1 l2 = some q → (q.1 = 0 → At G mX12_keyAt 6 95 [(1, vi q.2)] [] (mm S) 0 0 Φ) → (q.1 = 1 → At G mX12_keyAt 6 123 [] [] (mm S) 0 0 Φ) → At G mX12_keyAt 6 4 [(0, vr 130), (1, vi l1), (2, vi l2)] [] (mm S) 0 0 Φ := by
  intro n
  induction n with
  | zero =>
    intro _ _ _ h
    cases h
  | succ n ih =>
    intro l1 l2 q h K95 K123
    unfold fX12_keyAt_L4 at h
    refine At.iloadn dX12_keyAt_4 rfl <| At.ldcS st_X12_86 dX12_keyAt_5 <| ?_
    rcases ite_e h with ⟨c15, h⟩ | ⟨c15, h⟩
    · refine At.slen2 ln_X12_88 (Nat.le_of_ble_eq_true rfl) (by decide) dX12_keyAt_7 <| At.icmp_ge_t (tgt := 123) dX12_keyAt_10 (by decide) c15 <| ?_
      obtain rfl := Option.some.inj h
      exact At.sub [] rfl (K123 rfl)
    · refine At.slen2 ln_X12_88 (Nat.le_of_ble_eq_true rfl) (by decide) dX12_keyAt_7 <| At.icmp_ge_f (tgt := 123) dX12_keyAt_10 (by decide) c15 <| ?_
      refine At.iconst dX12_keyAt_13 (by decide) <| At.istoren (ls' := [(3, vi 0), (0, vr 130), (1, vi l1), (2, vi l2)]) dX12_keyAt_14 (by decide) rfl <| ?_
      obtain ⟨q1, ho2, h⟩ := bnd_e h
      refine At.sub [1, 2, 3, 0] rfl (lX12_keyAt_L15 FU _ q1 ho2 ?_)
      refine At.ldcS st_X12_86 dX12_keyAt_69 <| At.iloadn dX12_keyAt_71 rfl <| At.iloadn dX12_keyAt_72 rfl <| At.iadd dX12_keyAt_73 <| ?_
      obtain ⟨v3, hv3, g4, h⟩ := rdX_e h
      rcases ite_e h with ⟨c14, h⟩ | ⟨c14, h⟩
      · refine At.schar2 ln_X12_94 g4 (Nat.le_of_ble_eq_true rfl) (by decide) dX12_keyAt_74 <| At.nm hv3 <| At.bipush dX12_keyAt_77 (by decide) <| At.icmp_ne_f (tgt := 97) dX12_keyAt_79 (by decide) c14 <| ?_
        rcases ite_e h with ⟨c9, h⟩ | ⟨c9, h⟩
        · refine At.aloadn dX12_keyAt_82 rfl <| At.getI fl_X12_98 sh_130 (le149 sh_130) dX12_keyAt_83 <| At.iloadn dX12_keyAt_86 rfl <| At.iadd dX12_keyAt_87 <| At.aloadn dX12_keyAt_88 rfl <| At.getI fl_X12_101 sh_130 (le149 sh_130) dX12_keyAt_89 <| At.icmp_ne_f (tgt := 97) dX12_keyAt_92 (by decide) c9 <| ?_
          obtain rfl := Option.some.inj h
          exact At.sub [1] rfl (K95 rfl)
        · refine At.aloadn dX12_keyAt_82 rfl <| At.getI fl_X12_98 sh_130 (le149 sh_130) dX12_keyAt_83 <| At.iloadn dX12_keyAt_86 rfl <| At.iadd dX12_keyAt_87 <| At.aloadn dX12_keyAt_88 rfl <| At.getI fl_X12_101 sh_130 (le149 sh_130) dX12_keyAt_89 <| At.icmp_ne_t (tgt := 97) dX12_keyAt_92 (by decide) c9 <| ?_
          obtain ⟨q5, ho6, h⟩ := bnd_e h
          refine At.sub [0, 1, 2] rfl (lX12_keyAt_L97 FU _ q5 ho6 ?_)
          obtain ⟨x7, hx7, h⟩ := lt_e h
          refine At.iinc (ls' := [(2, vi x7), (0, vr 130), (1, vi l1)]) dX12_keyAt_114 rfl (by decide) (by rw [hx7]; rfl) <| ?_
          obtain ⟨x8, hx8, h⟩ := lt_e h
          refine At.iinc (ls' := [(1, vi x8), (2, vi x7), (0, vr 130)]) dX12_keyAt_117 rfl (by decide) (by rw [hx8]; rfl) <| At.goto (tgt := 4) dX12_keyAt_120 (by decide) <| ?_
          exact At.sub [2, 0, 1] rfl (ih _ _ _ h K95 K123)
      · refine At.schar2 ln_X12_94 g4 (Nat.le_of_ble_eq_true rfl) (by decide) dX12_keyAt_74 <| At.nm hv3 <| At.bipush dX12_keyAt_77 (by decide) <| At.icmp_ne_t (tgt := 97) dX12_keyAt_79 (by decide) c14 <| ?_
        obtain ⟨q10, ho11, h⟩ := bnd_e h
        refine At.sub [0, 1, 2] rfl (lX12_keyAt_L97 FU _ q10 ho11 ?_)
        obtain ⟨x12, hx12, h⟩ := lt_e h
        refine At.iinc (ls' := [(2, vi x12), (0, vr 130), (1, vi l1)]) dX12_keyAt_114 rfl (by decide) (by rw [hx12]; rfl) <| ?_
        obtain ⟨x13, hx13, h⟩ := lt_e h
        refine At.iinc (ls' := [(1, vi x13), (2, vi x12), (0, vr 130)]) dX12_keyAt_117 rfl (by decide) (by rw [hx13]; rfl) <| At.goto (tgt := 4) dX12_keyAt_120 (by decide) <| ?_
        exact At.sub [2, 0, 1] rfl (ih _ _ _ h K95 K123)
set_option maxRecDepth 100000 in
set_option maxHeartbeats 4000000 in
theorem rX12_keyAt {G : GG} {S : SS} {rr : Int} (h : fX12_keyAt  S = some rr) : RD G mX12_keyAt 6 [vr 130] S (some (vi rr)) S := by
  unfold fX12_keyAt at h
  refine Runs.of pl_X12 (Nat.le_of_ble_eq_true rfl) ?_
  show At G mX12_keyAt 6 0 [(0, vr 130)] [] (mm S) 0 0 (EQ (some (vi rr)) S)
  refine At.iconst dX12_keyAt_0 (by decide) <| At.istoren (ls' := [(1, vi 0), (0, vr 130)]) dX12_keyAt_1 (by decide) rfl <| At.iconst dX12_keyAt_2 (by decide) <| At.istoren (ls' := [(2, vi 1), (1, vi 0), (0, vr 130)]) dX12_keyAt_3 (by decide) rfl <| ?_
  obtain ⟨q1, ho2, h⟩ := bnd_e h
  refine At.sub [2, 1, 0] rfl (lX12_keyAt_L4 FU _ _ q1 ho2 (fun hq => ?_) (fun hq => ?_))
  · rw [if_pos hq] at h
    refine At.iloadn dX12_keyAt_95 rfl <| ?_
    obtain rfl := Option.some.inj h
    exact At.iret rfl (Nat.zero_le _) (Nat.zero_le _) ⟨rfl, rfl⟩ dX12_keyAt_96
  · rw [if_neg (by omega)] at h
    refine At.bipush dX12_keyAt_123 (by decide) <| ?_
    obtain rfl := Option.some.inj h
    exact At.iret rfl (Nat.zero_le _) (Nat.zero_le _) ⟨rfl, rfl⟩ dX12_keyAt_125
def fX12_next_L8 : Nat → SS → Option (SS)
  | 0, _ => none
  | n + 1, S =>
    Option.bind (fX12_see (S 130 6) S) fun q1 =>
    if q1 = 10 then (
      lt (up S 130 6 (w32 ((S 130 6) + 1))) fun S2 =>
      fX12_next_L8 n  S2
    ) else (
      Option.bind (fX12_see (S 130 6) S) fun q3 =>
      if q3 = 32 then (
        lt (up S 130 6 (w32 ((S 130 6) + 1))) fun S4 =>
        fX12_next_L8 n  S4
      ) else (
        some S
      )
    )
def fX12_next_L89 : Nat → SS → Option (SS)
  | 0, _ => none
  | n + 1, S =>
    Option.bind (fX12_see (S 130 7) S) fun q1 =>
    Option.bind (fX12_isSmall q1) fun q2 =>
    if q2 = true then (
      lt (up S 130 7 (w32 ((S 130 7) + 1))) fun S3 =>
      fX12_next_L89 n  S3
    ) else (
      some S
    )
def fX12_next_L146 : Nat → SS → Option (SS)
  | 0, _ => none
  | n + 1, S =>
    Option.bind (fX12_see (S 130 7) S) fun q1 =>
    Option.bind (fX12_isDigit q1) fun q2 =>
    if q2 = true then (
      Option.bind (
        if 3 ≤ (w32 ((S 130 7) - (S 130 6))) then (
          some S
        ) else (
          Option.bind (fX12_see (S 130 7) S) fun q4 =>
          lt (up S 130 10 (w32 ((w32 ((w32 (10 * (S 130 10))) + q4)) - 48))) fun S5 =>
          some S5
        )
        : Option (SS)) fun q3 =>
      lt (up q3 130 7 (w32 ((q3 130 7) + 1))) fun S7 =>
      fX12_next_L146 n  S7
    ) else (
      some S
    )
def fX12_next_L254 : Nat → Int → SS → Option (SS)
  | 0, _, _ => none
  | n + 1, l1, S =>
    if 12 ≤ l1 then (
      some S
    ) else (
      Option.bind (fX12_see (S 130 6) S) fun q1 =>
      rdX 1 l1 fun v2 =>
      Option.bind (
        if q1 = v2 then (
          lt (up S 130 9 (w32 (30 + l1))) fun S5 =>
          some S5
        ) else (
          some S
        )
        : Option (SS)) fun q4 =>
      lt (w32 (l1 + 1)) fun x7 =>
      fX12_next_L254 n x7 q4
    )
def fX12_next (S : SS) : Option SS :=
  lt (up S 130 6 (S 130 7)) fun S1 =>
  Option.bind (fX12_next_L8 FU  S1) fun q2 =>
  lt (up q2 130 7 (q2 130 6)) fun S4 =>
  if (S4 130 6) < (S4 130 8) then (
    Option.bind (fX12_see (S4 130 6) S4) fun q5 =>
    Option.bind (fX12_isSmall q5) fun q6 =>
    if q6 = true then (
      Option.bind (fX12_next_L89 FU  S4) fun q7 =>
      Option.bind (fX12_keyAt  q7) fun q9 =>
      lt (up q7 130 9 q9) fun S10 =>
      some S10
    ) else (
      Option.bind (fX12_see (S4 130 6) S4) fun q11 =>
      Option.bind (fX12_isDigit q11) fun q12 =>
      if q12 = true then (
        lt (up S4 130 10 0) fun S13 =>
        Option.bind (fX12_next_L146 FU  S13) fun q14 =>
        Option.bind (
          if (w32 ((q14 130 7) - (q14 130 6))) ≤ 3 then (
            some 23
          ) else (
            some 25
          )
          : Option (Int)) fun q16 =>
        lt (up q14 130 9 q16) fun S18 =>
        some S18
      ) else (
        lt (up S4 130 7 (w32 ((S4 130 7) + 1))) fun S19 =>
        lt (up S19 130 9 25) fun S20 =>
        Option.bind (fX12_next_L254 FU 0 S20) fun q21 =>
        some q21
      )
    )
  ) else (
    lt (up S4 130 9 24) fun S25 =>
    some S25
  )
set_option maxRecDepth 100000 in
set_option maxHeartbeats 4000000 in
theorem lX12_next_L8 {G : GG} {Φ : Option VV → MM → Prop} : ∀ (n : Nat) (S : SS) (q : SS), fX12_next_L8 n S = some q → At G mX12_next 7 47 [(0, vr 130)] [] (mm q) 0 0 Φ → At G mX12_next 7 8 [(0, vr 130)] [] (mm S) 0 0 Φ := by
  intro n
  induction n with
  | zero =>
    intro _ _ h
    cases h
  | succ n ih =>
    intro S q h K47
    unfold fX12_next_L8 at h
    refine At.aloadn dX12_next_8 rfl <| At.aloadn dX12_next_9 rfl <| At.getI fl_X12_98 sh_130 (le149 sh_130) dX12_next_10 <| ?_
    obtain ⟨q1, hq1, h⟩ := bnd_e h
    rcases ite_e h with ⟨c6, h⟩ | ⟨c6, h⟩
    · refine At.cV1 (av := [vi (S 130 6)]) (rest := []) mv_X12_see lk_X12_104 dX12_next_13 rfl rfl sh_130 (Nat.le_of_ble_eq_true rfl) (by decide) ⟨rfl, rfl⟩ (rX12_see hq1) <| At.bipush dX12_next_16 (by decide) <| At.icmp_eq_t (tgt := 34) dX12_next_18 (by decide) c6 <| ?_
      refine At.aloadn dX12_next_34 rfl <| At.dup rfl dX12_next_35 <| At.getI fl_X12_98 sh_130 (le149 sh_130) dX12_next_36 <| At.iconst dX12_next_39 (by decide) <| At.iadd dX12_next_40 <| ?_
      obtain ⟨S2, hS2, h⟩ := lt_e h
      refine At.putI fw_X12_98 sh_130 (le149 sh_130) dX12_next_41 <| At.nmS hS2 <| At.goto (tgt := 8) dX12_next_44 (by decide) <| ?_
      exact At.sub [0] rfl (ih _ _ h K47)
    · refine At.cV1 (av := [vi (S 130 6)]) (rest := []) mv_X12_see lk_X12_104 dX12_next_13 rfl rfl sh_130 (Nat.le_of_ble_eq_true rfl) (by decide) ⟨rfl, rfl⟩ (rX12_see hq1) <| At.bipush dX12_next_16 (by decide) <| At.icmp_eq_f (tgt := 34) dX12_next_18 (by decide) c6 <| ?_
      refine At.aloadn dX12_next_21 rfl <| At.aloadn dX12_next_22 rfl <| At.getI fl_X12_98 sh_130 (le149 sh_130) dX12_next_23 <| ?_
      obtain ⟨q3, hq3, h⟩ := bnd_e h
      rcases ite_e h with ⟨c5, h⟩ | ⟨c5, h⟩
      · refine At.cV1 (av := [vi (S 130 6)]) (rest := []) mv_X12_see lk_X12_104 dX12_next_26 rfl rfl sh_130 (Nat.le_of_ble_eq_true rfl) (by decide) ⟨rfl, rfl⟩ (rX12_see hq3) <| At.bipush dX12_next_29 (by decide) <| At.icmp_ne_f (tgt := 47) dX12_next_31 (by decide) c5 <| ?_
        refine At.aloadn dX12_next_34 rfl <| At.dup rfl dX12_next_35 <| At.getI fl_X12_98 sh_130 (le149 sh_130) dX12_next_36 <| At.iconst dX12_next_39 (by decide) <| At.iadd dX12_next_40 <| ?_
        obtain ⟨S4, hS4, h⟩ := lt_e h
        refine At.putI fw_X12_98 sh_130 (le149 sh_130) dX12_next_41 <| At.nmS hS4 <| At.goto (tgt := 8) dX12_next_44 (by decide) <| ?_
        exact At.sub [0] rfl (ih _ _ h K47)
      · refine At.cV1 (av := [vi (S 130 6)]) (rest := []) mv_X12_see lk_X12_104 dX12_next_26 rfl rfl sh_130 (Nat.le_of_ble_eq_true rfl) (by decide) ⟨rfl, rfl⟩ (rX12_see hq3) <| At.bipush dX12_next_29 (by decide) <| At.icmp_ne_t (tgt := 47) dX12_next_31 (by decide) c5 <| ?_
        obtain rfl := Option.some.inj h
        exact At.sub [0] rfl K47
set_option maxRecDepth 100000 in
set_option maxHeartbeats 4000000 in
theorem lX12_next_L89 {G : GG} {Φ : Option VV → MM → Prop} : ∀ (n : Nat) (S : SS) (q : SS), fX12_next_L89 n S = some q → At G mX12_next 7 116 [(0, vr 130)] [] (mm q) 0 0 Φ → At G mX12_next 7 89 [(0, vr 130)] [] (mm S) 0 0 Φ := by
  intro n
  induction n with
  | zero =>
    intro _ _ h
    cases h
  | succ n ih =>
    intro S q h K116
    unfold fX12_next_L89 at h
    refine At.aloadn dX12_next_89 rfl <| At.aloadn dX12_next_90 rfl <| At.getI fl_X12_101 sh_130 (le149 sh_130) dX12_next_91 <| ?_
    obtain ⟨q1, hq1, h⟩ := bnd_e h
    refine At.cV1 (av := [vi (S 130 7)]) (rest := []) mv_X12_see lk_X12_104 dX12_next_94 rfl rfl sh_130 (Nat.le_of_ble_eq_true rfl) (by decide) ⟨rfl, rfl⟩ (rX12_see hq1) <| ?_
    obtain ⟨q2, hq2, h⟩ := bnd_e h
    rcases ite_e h with ⟨c4, h⟩ | ⟨c4, h⟩
    · refine At.cS1 (av := [vi q1]) (rest := []) ms_X12_isSmall lk_X12_111 dX12_next_97 rfl rfl (Nat.le_of_ble_eq_true rfl) (by decide) ⟨rfl, rfl⟩ (rX12_isSmall hq2) <| At.bifeq_f (tgt := 116) dX12_next_100 (by decide) c4 <| ?_
      refine At.aloadn dX12_next_103 rfl <| At.dup rfl dX12_next_104 <| At.getI fl_X12_101 sh_130 (le149 sh_130) dX12_next_105 <| At.iconst dX12_next_108 (by decide) <| At.iadd dX12_next_109 <| ?_
      obtain ⟨S3, hS3, h⟩ := lt_e h
      refine At.putI fw_X12_101 sh_130 (le149 sh_130) dX12_next_110 <| At.nmS hS3 <| At.goto (tgt := 89) dX12_next_113 (by decide) <| ?_
      exact At.sub [0] rfl (ih _ _ h K116)
    · refine At.cS1 (av := [vi q1]) (rest := []) ms_X12_isSmall lk_X12_111 dX12_next_97 rfl rfl (Nat.le_of_ble_eq_true rfl) (by decide) ⟨rfl, rfl⟩ (rX12_isSmall hq2) <| At.bifeq_t (tgt := 116) dX12_next_100 (by decide) c4 <| ?_
      obtain rfl := Option.some.inj h
      exact At.sub [0] rfl K116
set_option maxRecDepth 100000 in
set_option maxHeartbeats 4000000 in
theorem lX12_next_L146 {G : GG} {Φ : Option VV → MM → Prop} : ∀ (n : Nat) (S : SS) (q : SS), fX12_next_L146 n S = some q → At G mX12_next 7 209 [(0, vr 130)] [] (mm q) 0 0 Φ → At G mX12_next 7 146 [(0, vr 130)] [] (mm S) 0 0 Φ := by
  intro n
  induction n with
  | zero =>
    intro _ _ h
    cases h
  | succ n ih =>
    intro S q h K209
    unfold fX12_next_L146 at h
    refine At.aloadn dX12_next_146 rfl <| At.aloadn dX12_next_147 rfl <| At.getI fl_X12_101 sh_130 (le149 sh_130) dX12_next_148 <| ?_
    obtain ⟨q1, hq1, h⟩ := bnd_e h
    refine At.cV1 (av := [vi (S 130 7)]) (rest := []) mv_X12_see lk_X12_104 dX12_next_151 rfl rfl sh_130 (Nat.le_of_ble_eq_true rfl) (by decide) ⟨rfl, rfl⟩ (rX12_see hq1) <| ?_
    obtain ⟨q2, hq2, h⟩ := bnd_e h
    rcases ite_e h with ⟨c8, h⟩ | ⟨c8, h⟩
    · refine At.cS1 (av := [vi q1]) (rest := []) ms_X12_isDigit lk_X12_118 dX12_next_154 rfl rfl (Nat.le_of_ble_eq_true rfl) (by decide) ⟨rfl, rfl⟩ (rX12_isDigit hq2) <| At.bifeq_f (tgt := 209) dX12_next_157 (by decide) c8 <| ?_
      obtain ⟨q3, hj196, h⟩ := bnd_e h
      have K196 : At G mX12_next 7 196 [(0, vr 130)] [] (mm q3) 0 0 Φ := by
        refine At.aloadn dX12_next_196 rfl <| At.dup rfl dX12_next_197 <| At.getI fl_X12_101 sh_130 (le149 sh_130) dX12_next_198 <| At.iconst dX12_next_201 (by decide) <| At.iadd dX12_next_202 <| ?_
        obtain ⟨S7, hS7, h⟩ := lt_e h
        refine At.putI fw_X12_101 sh_130 (le149 sh_130) dX12_next_203 <| At.nmS hS7 <| At.goto (tgt := 146) dX12_next_206 (by decide) <| ?_
        exact At.sub [0] rfl (ih _ _ h K209)
      clear h; have h := hj196; clear hj196
      rcases ite_e h with ⟨c6, h⟩ | ⟨c6, h⟩
      · refine At.aloadn dX12_next_160 rfl <| At.getI fl_X12_101 sh_130 (le149 sh_130) dX12_next_161 <| At.aloadn dX12_next_164 rfl <| At.getI fl_X12_98 sh_130 (le149 sh_130) dX12_next_165 <| At.isub dX12_next_168 <| At.iconst dX12_next_169 (by decide) <| At.icmp_ge_t (tgt := 196) dX12_next_170 (by decide) c6 <| ?_
        obtain rfl := Option.some.inj h
        exact At.sub [0] rfl K196
      · refine At.aloadn dX12_next_160 rfl <| At.getI fl_X12_101 sh_130 (le149 sh_130) dX12_next_161 <| At.aloadn dX12_next_164 rfl <| At.getI fl_X12_98 sh_130 (le149 sh_130) dX12_next_165 <| At.isub dX12_next_168 <| At.iconst dX12_next_169 (by decide) <| At.icmp_ge_f (tgt := 196) dX12_next_170 (by decide) c6 <| ?_
        refine At.aloadn dX12_next_173 rfl <| At.bipush dX12_next_174 (by decide) <| At.aloadn dX12_next_176 rfl <| At.getI fl_X12_121 sh_130 (le149 sh_130) dX12_next_177 <| At.imul dX12_next_180 <| At.aloadn dX12_next_181 rfl <| At.aloadn dX12_next_182 rfl <| At.getI fl_X12_101 sh_130 (le149 sh_130) dX12_next_183 <| ?_
        obtain ⟨q4, hq4, h⟩ := bnd_e h
        refine At.cV1 (av := [vi (S 130 7)]) (rest := [vi (w32 (10 * (S 130 10))), vr 130]) mv_X12_see lk_X12_104 dX12_next_186 rfl rfl sh_130 (Nat.le_of_ble_eq_true rfl) (by decide) ⟨rfl, rfl⟩ (rX12_see hq4) <| At.iadd dX12_next_189 <| At.bipush dX12_next_190 (by decide) <| At.isub dX12_next_192 <| ?_
        obtain ⟨S5, hS5, h⟩ := lt_e h
        refine At.putI fw_X12_121 sh_130 (le149 sh_130) dX12_next_193 <| At.nmS hS5 <| ?_
        obtain rfl := Option.some.inj h
        exact At.sub [0] rfl K196
    · refine At.cS1 (av := [vi q1]) (rest := []) ms_X12_isDigit lk_X12_118 dX12_next_154 rfl rfl (Nat.le_of_ble_eq_true rfl) (by decide) ⟨rfl, rfl⟩ (rX12_isDigit hq2) <| At.bifeq_t (tgt := 209) dX12_next_157 (by decide) c8 <| ?_
      obtain rfl := Option.some.inj h
      exact At.sub [0] rfl K209
set_option maxRecDepth 100000 in
set_option maxHeartbeats 4000000 in
theorem lX12_next_L254 {G : GG} {Φ : Option VV → MM → Prop} : ∀ (n : Nat) (l1 : Int) (S : SS) (q : SS), fX12_next_L254 n l1 S = some q → At G mX12_next 7 294 [] [] (mm q) 0 0 Φ → At G mX12_next 7 254 [(0, vr 130), (1, vi l1)] [] (mm S) 0 0 Φ := by
  intro n
  induction n with
  | zero =>
    intro _ _ _ h
    cases h
  | succ n ih =>
    intro l1 S q h K294
    unfold fX12_next_L254 at h
    refine At.iloadn dX12_next_254 rfl <| At.ldcS st_X12_124 dX12_next_255 <| ?_
    rcases ite_e h with ⟨c8, h⟩ | ⟨c8, h⟩
    · refine At.slen1 ln_X12_88 (Nat.le_of_ble_eq_true rfl) (by decide) dX12_next_257 <| At.icmp_ge_t (tgt := 294) dX12_next_260 (by decide) c8 <| ?_
      obtain rfl := Option.some.inj h
      exact At.sub [] rfl K294
    · refine At.slen1 ln_X12_88 (Nat.le_of_ble_eq_true rfl) (by decide) dX12_next_257 <| At.icmp_ge_f (tgt := 294) dX12_next_260 (by decide) c8 <| ?_
      refine At.aloadn dX12_next_263 rfl <| At.aloadn dX12_next_264 rfl <| At.getI fl_X12_98 sh_130 (le149 sh_130) dX12_next_265 <| ?_
      obtain ⟨q1, hq1, h⟩ := bnd_e h
      refine At.cV1 (av := [vi (S 130 6)]) (rest := []) mv_X12_see lk_X12_104 dX12_next_268 rfl rfl sh_130 (Nat.le_of_ble_eq_true rfl) (by decide) ⟨rfl, rfl⟩ (rX12_see hq1) <| At.ldcS st_X12_124 dX12_next_271 <| At.iloadn dX12_next_273 rfl <| ?_
      obtain ⟨v2, hv2, g3, h⟩ := rdX_e h
      obtain ⟨q4, hj288, h⟩ := bnd_e h
      have K288 : At G mX12_next 7 288 [(0, vr 130), (1, vi l1)] [] (mm q4) 0 0 Φ := by
        obtain ⟨x7, hx7, h⟩ := lt_e h
        refine At.iinc (ls' := [(1, vi x7), (0, vr 130)]) dX12_next_288 rfl (by decide) (by rw [hx7]; rfl) <| At.goto (tgt := 254) dX12_next_291 (by decide) <| ?_
        exact At.sub [1, 0] rfl (ih _ _ _ h K294)
      clear h; have h := hj288; clear hj288
      rcases ite_e h with ⟨c6, h⟩ | ⟨c6, h⟩
      · refine At.schar1 ln_X12_94 g3 (Nat.le_of_ble_eq_true rfl) (by decide) dX12_next_274 <| At.nm hv2 <| At.icmp_ne_f (tgt := 288) dX12_next_277 (by decide) c6 <| ?_
        refine At.aloadn dX12_next_280 rfl <| At.bipush dX12_next_281 (by decide) <| At.iloadn dX12_next_283 rfl <| At.iadd dX12_next_284 <| ?_
        obtain ⟨S5, hS5, h⟩ := lt_e h
        refine At.putI fw_X12_108 sh_130 (le149 sh_130) dX12_next_285 <| At.nmS hS5 <| ?_
        obtain rfl := Option.some.inj h
        exact At.sub [0, 1] rfl K288
      · refine At.schar1 ln_X12_94 g3 (Nat.le_of_ble_eq_true rfl) (by decide) dX12_next_274 <| At.nm hv2 <| At.icmp_ne_t (tgt := 288) dX12_next_277 (by decide) c6 <| ?_
        obtain rfl := Option.some.inj h
        exact At.sub [0, 1] rfl K288
set_option maxRecDepth 100000 in
set_option maxHeartbeats 4000000 in
theorem rX12_next {G : GG} {S : SS} {rr : SS} (h : fX12_next  S = some rr) : RD G mX12_next 7 [vr 130] S none rr := by
  unfold fX12_next at h
  refine Runs.of pl_X12 (Nat.le_of_ble_eq_true rfl) ?_
  show At G mX12_next 7 0 [(0, vr 130)] [] (mm S) 0 0 (EQ none rr)
  refine At.aloadn dX12_next_0 rfl <| At.aloadn dX12_next_1 rfl <| At.getI fl_X12_101 sh_130 (le149 sh_130) dX12_next_2 <| ?_
  obtain ⟨S1, hS1, h⟩ := lt_e h
  refine At.putI fw_X12_98 sh_130 (le149 sh_130) dX12_next_5 <| At.nmS hS1 <| ?_
  obtain ⟨q2, ho3, h⟩ := bnd_e h
  refine At.sub [0] rfl (lX12_next_L8 FU _ q2 ho3 ?_)
  refine At.aloadn dX12_next_47 rfl <| At.aloadn dX12_next_48 rfl <| At.getI fl_X12_98 sh_130 (le149 sh_130) dX12_next_49 <| ?_
  obtain ⟨S4, hS4, h⟩ := lt_e h
  rcases ite_e h with ⟨c26, h⟩ | ⟨c26, h⟩
  · refine At.putI fw_X12_101 sh_130 (le149 sh_130) dX12_next_52 <| At.nmS hS4 <| At.aloadn dX12_next_55 rfl <| At.getI fl_X12_98 sh_130 (le149 sh_130) dX12_next_56 <| At.aloadn dX12_next_59 rfl <| At.getI fl_X12_83 sh_130 (le149 sh_130) dX12_next_60 <| At.icmp_lt_t (tgt := 75) dX12_next_63 (by decide) c26 <| ?_
    refine At.aloadn dX12_next_75 rfl <| At.aloadn dX12_next_76 rfl <| At.getI fl_X12_98 sh_130 (le149 sh_130) dX12_next_77 <| ?_
    obtain ⟨q5, hq5, h⟩ := bnd_e h
    refine At.cV1 (av := [vi (S4 130 6)]) (rest := []) mv_X12_see lk_X12_104 dX12_next_80 rfl rfl sh_130 (Nat.le_of_ble_eq_true rfl) (by decide) ⟨rfl, rfl⟩ (rX12_see hq5) <| ?_
    obtain ⟨q6, hq6, h⟩ := bnd_e h
    rcases ite_e h with ⟨c24, h⟩ | ⟨c24, h⟩
    · refine At.cS1 (av := [vi q5]) (rest := []) ms_X12_isSmall lk_X12_111 dX12_next_83 rfl rfl (Nat.le_of_ble_eq_true rfl) (by decide) ⟨rfl, rfl⟩ (rX12_isSmall hq6) <| At.bifeq_f (tgt := 127) dX12_next_86 (by decide) c24 <| ?_
      obtain ⟨q7, ho8, h⟩ := bnd_e h
      refine At.sub [0] rfl (lX12_next_L89 FU _ q7 ho8 ?_)
      refine At.aloadn dX12_next_116 rfl <| At.aloadn dX12_next_117 rfl <| ?_
      obtain ⟨q9, hq9, h⟩ := bnd_e h
      refine At.cV1 (av := []) (rest := [vr 130]) mv_X12_keyAt lk_X12_115 dX12_next_118 rfl rfl sh_130 (Nat.le_of_ble_eq_true rfl) (by decide) ⟨rfl, rfl⟩ (rX12_keyAt hq9) <| ?_
      obtain ⟨S10, hS10, h⟩ := lt_e h
      refine At.putI fw_X12_108 sh_130 (le149 sh_130) dX12_next_121 <| At.nmS hS10 <| At.goto (tgt := 294) dX12_next_124 (by decide) <| ?_
      obtain rfl := Option.some.inj h
      exact At.vret rfl (Nat.zero_le _) (Nat.zero_le _) ⟨rfl, rfl⟩ dX12_next_294
    · refine At.cS1 (av := [vi q5]) (rest := []) ms_X12_isSmall lk_X12_111 dX12_next_83 rfl rfl (Nat.le_of_ble_eq_true rfl) (by decide) ⟨rfl, rfl⟩ (rX12_isSmall hq6) <| At.bifeq_t (tgt := 127) dX12_next_86 (by decide) c24 <| ?_
      refine At.aloadn dX12_next_127 rfl <| At.aloadn dX12_next_128 rfl <| At.getI fl_X12_98 sh_130 (le149 sh_130) dX12_next_129 <| ?_
      obtain ⟨q11, hq11, h⟩ := bnd_e h
      refine At.cV1 (av := [vi (S4 130 6)]) (rest := []) mv_X12_see lk_X12_104 dX12_next_132 rfl rfl sh_130 (Nat.le_of_ble_eq_true rfl) (by decide) ⟨rfl, rfl⟩ (rX12_see hq11) <| ?_
      obtain ⟨q12, hq12, h⟩ := bnd_e h
      rcases ite_e h with ⟨c23, h⟩ | ⟨c23, h⟩
      · refine At.cS1 (av := [vi q11]) (rest := []) ms_X12_isDigit lk_X12_118 dX12_next_135 rfl rfl (Nat.le_of_ble_eq_true rfl) (by decide) ⟨rfl, rfl⟩ (rX12_isDigit hq12) <| At.bifeq_f (tgt := 236) dX12_next_138 (by decide) c23 <| ?_
        refine At.aloadn dX12_next_141 rfl <| At.iconst dX12_next_142 (by decide) <| ?_
        obtain ⟨S13, hS13, h⟩ := lt_e h
        refine At.putI fw_X12_121 sh_130 (le149 sh_130) dX12_next_143 <| At.nmS hS13 <| ?_
        obtain ⟨q14, ho15, h⟩ := bnd_e h
        refine At.sub [0] rfl (lX12_next_L146 FU _ q14 ho15 ?_)
        obtain ⟨q16, hj230, h⟩ := bnd_e h
        have K230 : At G mX12_next 7 230 [] [vi q16, vr 130] (mm q14) 0 0 (EQ none rr) := by
          obtain ⟨S18, hS18, h⟩ := lt_e h
          refine At.putI fw_X12_108 sh_130 (le149 sh_130) dX12_next_230 <| At.nmS hS18 <| At.goto (tgt := 294) dX12_next_233 (by decide) <| ?_
          obtain rfl := Option.some.inj h
          exact At.vret rfl (Nat.zero_le _) (Nat.zero_le _) ⟨rfl, rfl⟩ dX12_next_294
        clear h; have h := hj230; clear hj230
        rcases ite_e h with ⟨c17, h⟩ | ⟨c17, h⟩
        · refine At.aloadn dX12_next_209 rfl <| At.aloadn dX12_next_210 rfl <| At.getI fl_X12_101 sh_130 (le149 sh_130) dX12_next_211 <| At.aloadn dX12_next_214 rfl <| At.getI fl_X12_98 sh_130 (le149 sh_130) dX12_next_215 <| At.isub dX12_next_218 <| At.iconst dX12_next_219 (by decide) <| At.icmp_le_t (tgt := 228) dX12_next_220 (by decide) c17 <| ?_
          refine At.bipush dX12_next_228 (by decide) <| ?_
          obtain rfl := Option.some.inj h
          exact At.sub [] rfl K230
        · refine At.aloadn dX12_next_209 rfl <| At.aloadn dX12_next_210 rfl <| At.getI fl_X12_101 sh_130 (le149 sh_130) dX12_next_211 <| At.aloadn dX12_next_214 rfl <| At.getI fl_X12_98 sh_130 (le149 sh_130) dX12_next_215 <| At.isub dX12_next_218 <| At.iconst dX12_next_219 (by decide) <| At.icmp_le_f (tgt := 228) dX12_next_220 (by decide) c17 <| ?_
          refine At.bipush dX12_next_223 (by decide) <| At.goto (tgt := 230) dX12_next_225 (by decide) <| ?_
          obtain rfl := Option.some.inj h
          exact At.sub [] rfl K230
      · refine At.cS1 (av := [vi q11]) (rest := []) ms_X12_isDigit lk_X12_118 dX12_next_135 rfl rfl (Nat.le_of_ble_eq_true rfl) (by decide) ⟨rfl, rfl⟩ (rX12_isDigit hq12) <| At.bifeq_t (tgt := 236) dX12_next_138 (by decide) c23 <| ?_
        refine At.aloadn dX12_next_236 rfl <| At.dup rfl dX12_next_237 <| At.getI fl_X12_101 sh_130 (le149 sh_130) dX12_next_238 <| At.iconst dX12_next_241 (by decide) <| At.iadd dX12_next_242 <| ?_
        obtain ⟨S19, hS19, h⟩ := lt_e h
        refine At.putI fw_X12_101 sh_130 (le149 sh_130) dX12_next_243 <| At.nmS hS19 <| At.aloadn dX12_next_246 rfl <| At.bipush dX12_next_247 (by decide) <| ?_
        obtain ⟨S20, hS20, h⟩ := lt_e h
        refine At.putI fw_X12_108 sh_130 (le149 sh_130) dX12_next_249 <| At.nmS hS20 <| At.iconst dX12_next_252 (by decide) <| At.istoren (ls' := [(1, vi 0), (0, vr 130)]) dX12_next_253 (by decide) rfl <| ?_
        obtain ⟨q21, ho22, h⟩ := bnd_e h
        refine At.sub [1, 0] rfl (lX12_next_L254 FU _ _ q21 ho22 ?_)
        obtain rfl := Option.some.inj h
        exact At.vret rfl (Nat.zero_le _) (Nat.zero_le _) ⟨rfl, rfl⟩ dX12_next_294
  · refine At.putI fw_X12_101 sh_130 (le149 sh_130) dX12_next_52 <| At.nmS hS4 <| At.aloadn dX12_next_55 rfl <| At.getI fl_X12_98 sh_130 (le149 sh_130) dX12_next_56 <| At.aloadn dX12_next_59 rfl <| At.getI fl_X12_83 sh_130 (le149 sh_130) dX12_next_60 <| At.icmp_lt_f (tgt := 75) dX12_next_63 (by decide) c26 <| ?_
    refine At.aloadn dX12_next_66 rfl <| At.bipush dX12_next_67 (by decide) <| ?_
    obtain ⟨S25, hS25, h⟩ := lt_e h
    refine At.putI fw_X12_108 sh_130 (le149 sh_130) dX12_next_69 <| At.nmS hS25 <| At.goto (tgt := 294) dX12_next_72 (by decide) <| ?_
    obtain rfl := Option.some.inj h
    exact At.vret rfl (Nat.zero_le _) (Nat.zero_le _) ⟨rfl, rfl⟩ dX12_next_294
def fX12_eats (p1 : Int) (S : SS) : Option (Bool × SS) :=
  Option.bind (fX12_is p1 S) fun q1 =>
  if q1 = true then (
    Option.bind (fX12_next  S) fun q2 =>
    some (true, q2)
  ) else (
    some (false, S)
  )
set_option maxRecDepth 100000 in
set_option maxHeartbeats 4000000 in
theorem rX12_eats {G : GG} {p1 : Int} {S : SS} {rr : (Bool × SS)} (h : fX12_eats p1 S = some rr) : RD G mX12_eats 8 [vr 130, vi p1] S (some (vi (bI rr.1))) rr.2 := by
  unfold fX12_eats at h
  refine Runs.of pl_X12 (Nat.le_of_ble_eq_true rfl) ?_
  show At G mX12_eats 8 0 [(0, vr 130), (1, vi p1)] [] (mm S) 0 0 (EQ (some (vi (bI rr.1))) rr.2)
  refine At.aloadn dX12_eats_0 rfl <| At.iloadn dX12_eats_1 rfl <| ?_
  obtain ⟨q1, hq1, h⟩ := bnd_e h
  rcases ite_e h with ⟨c3, h⟩ | ⟨c3, h⟩
  · refine At.cV1 (av := [vi p1]) (rest := []) mv_X12_is lk_X12_132 dX12_eats_2 rfl rfl sh_130 (Nat.le_of_ble_eq_true rfl) (by decide) ⟨rfl, rfl⟩ (rX12_is hq1) <| At.bifne_t (tgt := 10) dX12_eats_5 (by decide) c3 <| ?_
    refine At.aloadn dX12_eats_10 rfl <| ?_
    obtain ⟨q2, hq2, h⟩ := bnd_e h
    refine At.cV0 (av := []) (rest := []) mv_X12_next lk_X12_135 dX12_eats_11 rfl rfl sh_130 (Nat.le_of_ble_eq_true rfl) (by decide) ⟨rfl, rfl⟩ (rX12_next hq2) <| At.iconst dX12_eats_14 (by decide) <| ?_
    obtain rfl := Option.some.inj h
    exact At.zret (b := true) rfl (Nat.zero_le _) (Nat.zero_le _) ⟨rfl, rfl⟩ dX12_eats_15
  · refine At.cV1 (av := [vi p1]) (rest := []) mv_X12_is lk_X12_132 dX12_eats_2 rfl rfl sh_130 (Nat.le_of_ble_eq_true rfl) (by decide) ⟨rfl, rfl⟩ (rX12_is hq1) <| At.bifne_f (tgt := 10) dX12_eats_5 (by decide) c3 <| ?_
    refine At.iconst dX12_eats_8 (by decide) <| ?_
    obtain rfl := Option.some.inj h
    exact At.zret (b := false) rfl (Nat.zero_le _) (Nat.zero_le _) ⟨rfl, rfl⟩ dX12_eats_9
def fX12_takes (p1 : Int) (p2 : Int) (S : SS) : Option (Int × SS) :=
  Option.bind (fX12_is 23 S) fun q1 =>
  Option.bind (
    if q1 = true then (
      Option.bind (fX12_within (S 130 10) p1 p2) fun q3 =>
      if q3 = true then (
        some S
      ) else (
        Option.bind (fX12_fails 3 S) fun q4 =>
        some q4
      )
    ) else (
      Option.bind (fX12_fails 2 S) fun q6 =>
      some q6
    )
    : Option (SS)) fun q2 =>
  lt (q2 130 10) fun x8 =>
  Option.bind (
    if (q2 130 11) = 0 then (
      Option.bind (fX12_next  q2) fun q10 =>
      some q10
    ) else (
      some q2
    )
    : Option (SS)) fun q9 =>
  some (x8, q9)
set_option maxRecDepth 100000 in
set_option maxHeartbeats 4000000 in
theorem rX12_takes {G : GG} {p1 : Int} {p2 : Int} {S : SS} {rr : (Int × SS)} (h : fX12_takes p1 p2 S = some rr) : RD G mX12_takes 8 [vr 130, vi p1, vi p2] S (some (vi rr.1)) rr.2 := by
  unfold fX12_takes at h
  refine Runs.of pl_X12 (Nat.le_of_ble_eq_true rfl) ?_
  show At G mX12_takes 8 0 [(0, vr 130), (1, vi p1), (2, vi p2)] [] (mm S) 0 0 (EQ (some (vi rr.1)) rr.2)
  refine At.aloadn dX12_takes_0 rfl <| At.bipush dX12_takes_1 (by decide) <| ?_
  obtain ⟨q1, hq1, h⟩ := bnd_e h
  obtain ⟨q2, hj37, h⟩ := bnd_e h
  have K37 : At G mX12_takes 8 37 [(0, vr 130)] [] (mm q2) 0 0 (EQ (some (vi rr.1)) rr.2) := by
    refine At.aloadn dX12_takes_37 rfl <| At.getI fl_X12_121 sh_130 (le149 sh_130) dX12_takes_38 <| ?_
    obtain ⟨x8, hx8, h⟩ := lt_e h
    obtain ⟨q9, hj53, h⟩ := bnd_e h
    have K53 : At G mX12_takes 8 53 [(3, vi x8)] [] (mm q9) 0 0 (EQ (some (vi rr.1)) rr.2) := by
      refine At.iloadn dX12_takes_53 rfl <| ?_
      obtain rfl := Option.some.inj h
      exact At.iret rfl (Nat.zero_le _) (Nat.zero_le _) ⟨rfl, rfl⟩ dX12_takes_54
    clear h; have h := hj53; clear hj53
    rcases ite_e h with ⟨c11, h⟩ | ⟨c11, h⟩
    · refine At.nm hx8 <| At.istoren (ls' := [(3, vi x8), (0, vr 130)]) dX12_takes_41 (by decide) rfl <| At.aloadn dX12_takes_42 rfl <| At.getI fl_X12_126 sh_130 (le149 sh_130) dX12_takes_43 <| At.if_ne_f (tgt := 53) dX12_takes_46 (by decide) c11 <| ?_
      refine At.aloadn dX12_takes_49 rfl <| ?_
      obtain ⟨q10, hq10, h⟩ := bnd_e h
      refine At.cV0 (av := []) (rest := []) mv_X12_next lk_X12_135 dX12_takes_50 rfl rfl sh_130 (Nat.le_of_ble_eq_true rfl) (by decide) ⟨rfl, rfl⟩ (rX12_next hq10) <| ?_
      obtain rfl := Option.some.inj h
      exact At.sub [0] rfl K53
    · refine At.nm hx8 <| At.istoren (ls' := [(3, vi x8), (0, vr 130)]) dX12_takes_41 (by decide) rfl <| At.aloadn dX12_takes_42 rfl <| At.getI fl_X12_126 sh_130 (le149 sh_130) dX12_takes_43 <| At.if_ne_t (tgt := 53) dX12_takes_46 (by decide) c11 <| ?_
      obtain rfl := Option.some.inj h
      exact At.sub [0] rfl K53
  clear h; have h := hj37; clear hj37
  rcases ite_e h with ⟨c7, h⟩ | ⟨c7, h⟩
  · refine At.cV1 (av := [vi 23]) (rest := []) mv_X12_is lk_X12_132 dX12_takes_3 rfl rfl sh_130 (Nat.le_of_ble_eq_true rfl) (by decide) ⟨rfl, rfl⟩ (rX12_is hq1) <| At.bifne_t (tgt := 17) dX12_takes_6 (by decide) c7 <| ?_
    refine At.aloadn dX12_takes_17 rfl <| At.getI fl_X12_121 sh_130 (le149 sh_130) dX12_takes_18 <| At.i2l dX12_takes_21 <| At.iloadn dX12_takes_22 rfl <| At.i2l dX12_takes_23 <| At.iloadn dX12_takes_24 rfl <| At.i2l dX12_takes_25 <| ?_
    obtain ⟨q3, hq3, h⟩ := bnd_e h
    rcases ite_e h with ⟨c5, h⟩ | ⟨c5, h⟩
    · refine At.cS1 (av := [vl (S 130 10), vl p1, vl p2]) (rest := []) ms_X12_within lk_X12_142 dX12_takes_26 rfl rfl (Nat.le_of_ble_eq_true rfl) (by decide) ⟨rfl, rfl⟩ (rX12_within hq3) <| At.bifne_t (tgt := 37) dX12_takes_29 (by decide) c5 <| ?_
      obtain rfl := Option.some.inj h
      exact At.sub [0] rfl K37
    · refine At.cS1 (av := [vl (S 130 10), vl p1, vl p2]) (rest := []) ms_X12_within lk_X12_142 dX12_takes_26 rfl rfl (Nat.le_of_ble_eq_true rfl) (by decide) ⟨rfl, rfl⟩ (rX12_within hq3) <| At.bifne_f (tgt := 37) dX12_takes_29 (by decide) c5 <| ?_
      refine At.aloadn dX12_takes_32 rfl <| At.iconst dX12_takes_33 (by decide) <| ?_
      obtain ⟨q4, hq4, h⟩ := bnd_e h
      refine At.cV0 (av := [vi 3]) (rest := []) mv_X12_fails lk_X12_138 dX12_takes_34 rfl rfl sh_130 (Nat.le_of_ble_eq_true rfl) (by decide) ⟨rfl, rfl⟩ (rX12_fails hq4) <| ?_
      obtain rfl := Option.some.inj h
      exact At.sub [0] rfl K37
  · refine At.cV1 (av := [vi 23]) (rest := []) mv_X12_is lk_X12_132 dX12_takes_3 rfl rfl sh_130 (Nat.le_of_ble_eq_true rfl) (by decide) ⟨rfl, rfl⟩ (rX12_is hq1) <| At.bifne_f (tgt := 17) dX12_takes_6 (by decide) c7 <| ?_
    refine At.aloadn dX12_takes_9 rfl <| At.iconst dX12_takes_10 (by decide) <| ?_
    obtain ⟨q6, hq6, h⟩ := bnd_e h
    refine At.cV0 (av := [vi 2]) (rest := []) mv_X12_fails lk_X12_138 dX12_takes_11 rfl rfl sh_130 (Nat.le_of_ble_eq_true rfl) (by decide) ⟨rfl, rfl⟩ (rX12_fails hq6) <| At.goto (tgt := 37) dX12_takes_14 (by decide) <| ?_
    obtain rfl := Option.some.inj h
    exact At.sub [0] rfl K37
def fX12_goesIn (p1 : Int) (S : SS) : Option (Bool × SS) :=
  Option.bind (
    if p1 = 6 then (
      Option.bind (fX12_fails 4 S) fun q2 =>
      some q2
    ) else (
      some S
    )
    : Option (SS)) fun q1 =>
  Option.bind (
    if (q1 130 11) = 0 then (
      Option.bind (fX12_next  q1) fun q5 =>
      some q5
    ) else (
      some q1
    )
    : Option (SS)) fun q4 =>
  if (q4 130 11) = 0 then (
    some (true, q4)
  ) else (
    some (false, q4)
  )
set_option maxRecDepth 100000 in
set_option maxHeartbeats 4000000 in
theorem rX12_goesIn {G : GG} {p1 : Int} {S : SS} {rr : (Bool × SS)} (h : fX12_goesIn p1 S = some rr) : RD G mX12_goesIn 8 [vr 130, vi p1] S (some (vi (bI rr.1))) rr.2 := by
  unfold fX12_goesIn at h
  refine Runs.of pl_X12 (Nat.le_of_ble_eq_true rfl) ?_
  show At G mX12_goesIn 8 0 [(0, vr 130), (1, vi p1)] [] (mm S) 0 0 (EQ (some (vi (bI rr.1))) rr.2)
  obtain ⟨q1, hj11, h⟩ := bnd_e h
  have K11 : At G mX12_goesIn 8 11 [(0, vr 130)] [] (mm q1) 0 0 (EQ (some (vi (bI rr.1))) rr.2) := by
    obtain ⟨q4, hj22, h⟩ := bnd_e h
    have K22 : At G mX12_goesIn 8 22 [(0, vr 130)] [] (mm q4) 0 0 (EQ (some (vi (bI rr.1))) rr.2) := by
      rcases ite_e h with ⟨c7, h⟩ | ⟨c7, h⟩
      · refine At.aloadn dX12_goesIn_22 rfl <| At.getI fl_X12_126 sh_130 (le149 sh_130) dX12_goesIn_23 <| At.if_ne_f (tgt := 33) dX12_goesIn_26 (by decide) c7 <| ?_
        refine At.iconst dX12_goesIn_29 (by decide) <| At.goto (tgt := 34) dX12_goesIn_30 (by decide) <| ?_
        obtain rfl := Option.some.inj h
        exact At.zret (b := true) rfl (Nat.zero_le _) (Nat.zero_le _) ⟨rfl, rfl⟩ dX12_goesIn_34
      · refine At.aloadn dX12_goesIn_22 rfl <| At.getI fl_X12_126 sh_130 (le149 sh_130) dX12_goesIn_23 <| At.if_ne_t (tgt := 33) dX12_goesIn_26 (by decide) c7 <| ?_
        refine At.iconst dX12_goesIn_33 (by decide) <| ?_
        obtain rfl := Option.some.inj h
        exact At.zret (b := false) rfl (Nat.zero_le _) (Nat.zero_le _) ⟨rfl, rfl⟩ dX12_goesIn_34
    clear h; have h := hj22; clear hj22
    rcases ite_e h with ⟨c6, h⟩ | ⟨c6, h⟩
    · refine At.aloadn dX12_goesIn_11 rfl <| At.getI fl_X12_126 sh_130 (le149 sh_130) dX12_goesIn_12 <| At.if_ne_f (tgt := 22) dX12_goesIn_15 (by decide) c6 <| ?_
      refine At.aloadn dX12_goesIn_18 rfl <| ?_
      obtain ⟨q5, hq5, h⟩ := bnd_e h
      refine At.cV0 (av := []) (rest := []) mv_X12_next lk_X12_135 dX12_goesIn_19 rfl rfl sh_130 (Nat.le_of_ble_eq_true rfl) (by decide) ⟨rfl, rfl⟩ (rX12_next hq5) <| ?_
      obtain rfl := Option.some.inj h
      exact At.sub [0] rfl K22
    · refine At.aloadn dX12_goesIn_11 rfl <| At.getI fl_X12_126 sh_130 (le149 sh_130) dX12_goesIn_12 <| At.if_ne_t (tgt := 22) dX12_goesIn_15 (by decide) c6 <| ?_
      obtain rfl := Option.some.inj h
      exact At.sub [0] rfl K22
  clear h; have h := hj11; clear hj11
  rcases ite_e h with ⟨c3, h⟩ | ⟨c3, h⟩
  · refine At.iloadn dX12_goesIn_0 rfl <| At.bipush dX12_goesIn_1 (by decide) <| At.icmp_ne_f (tgt := 11) dX12_goesIn_3 (by decide) c3 <| ?_
    refine At.aloadn dX12_goesIn_6 rfl <| At.iconst dX12_goesIn_7 (by decide) <| ?_
    obtain ⟨q2, hq2, h⟩ := bnd_e h
    refine At.cV0 (av := [vi 4]) (rest := []) mv_X12_fails lk_X12_138 dX12_goesIn_8 rfl rfl sh_130 (Nat.le_of_ble_eq_true rfl) (by decide) ⟨rfl, rfl⟩ (rX12_fails hq2) <| ?_
    obtain rfl := Option.some.inj h
    exact At.sub [0] rfl K11
  · refine At.iloadn dX12_goesIn_0 rfl <| At.bipush dX12_goesIn_1 (by decide) <| At.icmp_ne_t (tgt := 11) dX12_goesIn_3 (by decide) c3 <| ?_
    obtain rfl := Option.some.inj h
    exact At.sub [0] rfl K11
def RCX12_readAtom (G : GG) (rc : Nat → Int → SS → Option SS) (d : Nat) : Prop := (∀ (p1 : Int) (S : SS) (rr : SS), rc 0 p1 S = some rr → RD G mX12_readAtom d [vr 130, vi p1] S none rr) ∧ (∀ (p1 : Int) (S : SS) (rr : SS), rc 1 p1 S = some rr → RD G mX12_readIf d [vr 130, vi p1] S none rr) ∧ (∀ (p1 : Int) (S : SS) (rr : SS), rc 2 p1 S = some rr → RD G mX12_readTerm d [vr 130, vi p1] S none rr) ∧ (∀ (p1 : Int) (S : SS) (rr : SS), rc 3 p1 S = some rr → RD G mX12_readSum d [vr 130, vi p1] S none rr) ∧ (∀ (p1 : Int) (S : SS) (rr : SS), rc 4 p1 S = some rr → RD G mX12_readUnit d [vr 130, vi p1] S none rr) ∧ (∀ (p1 : Int) (S : SS) (rr : SS), rc 5 p1 S = some rr → RD G mX12_readBoth d [vr 130, vi p1] S none rr) ∧ (∀ (p1 : Int) (S : SS) (rr : SS), rc 6 p1 S = some rr → RD G mX12_readTruth d [vr 130, vi p1] S none rr)
def fX12_readAtom (rc : Nat → Int → SS → Option SS) (p1 : Int) (S : SS) : Option SS :=
  Option.bind (fX12_is 23 S) fun q1 =>
  if q1 = true then (
    Option.bind (fX12_codes (S 130 10) S) fun q2 =>
    Option.bind (fX12_next  q2) fun q3 =>
    some q3
  ) else (
    if (S 130 11) = 0 then (
      Option.bind (fX12_wordOf (S 130 9) S) fun q4 =>
      if q4 = ((-1)) then (
        Option.bind (fX12_is 35 S) fun q5 =>
        if q5 = true then (
          Option.bind (fX12_goesIn p1 S) fun q6 =>
          if q6.1 = true then (
            Option.bind (rc 3 (w32 (p1 + 1)) q6.2) fun q7 =>
            Option.bind (fX12_eats 36 q7) fun q8 =>
            if q8.1 = true then (
              some q8.2
            ) else (
              Option.bind (fX12_fails 2 q8.2) fun q9 =>
              some q9
            )
          ) else (
            some q6.2
          )
        ) else (
          Option.bind (fX12_is 10 S) fun q12 =>
          if q12 = true then (
            Option.bind (rc 1 p1 S) fun q13 =>
            some q13
          ) else (
            Option.bind (fX12_fails 2 S) fun q14 =>
            some q14
          )
        )
      ) else (
        Option.bind (fX12_wordOf (S 130 9) S) fun q17 =>
        Option.bind (fX12_codes (w32 (1000 + q17)) S) fun q18 =>
        Option.bind (fX12_next  q18) fun q19 =>
        some q19
      )
    ) else (
      Option.bind (fX12_is 35 S) fun q21 =>
      if q21 = true then (
        Option.bind (fX12_goesIn p1 S) fun q22 =>
        if q22.1 = true then (
          Option.bind (rc 3 (w32 (p1 + 1)) q22.2) fun q23 =>
          Option.bind (fX12_eats 36 q23) fun q24 =>
          if q24.1 = true then (
            some q24.2
          ) else (
            Option.bind (fX12_fails 2 q24.2) fun q25 =>
            some q25
          )
        ) else (
          some q22.2
        )
      ) else (
        Option.bind (fX12_is 10 S) fun q28 =>
        if q28 = true then (
          Option.bind (rc 1 p1 S) fun q29 =>
          some q29
        ) else (
          Option.bind (fX12_fails 2 S) fun q30 =>
          some q30
        )
      )
    )
  )
set_option maxRecDepth 100000 in
set_option maxHeartbeats 4000000 in
theorem rX12_readAtom {G : GG} {rc : Nat → Int → SS → Option SS} {d : Nat} (hrc : RCX12_readAtom G rc d) (hd0 : 9 ≤ d) {p1 : Int} {S : SS} {rr : SS} (h : fX12_readAtom rc p1 S = some rr) : RD G mX12_readAtom (d + 1) [vr 130, vi p1] S none rr := by
  unfold fX12_readAtom at h
  refine Runs.of pl_X12 (Nat.le_of_ble_eq_true rfl) ?_
  show At G mX12_readAtom (d + 1) 0 [(0, vr 130), (1, vi p1)] [] (mm S) 0 0 (EQ none rr)
  refine At.aloadn dX12_readAtom_0 rfl <| At.bipush dX12_readAtom_1 (by decide) <| ?_
  obtain ⟨q1, hq1, h⟩ := bnd_e h
  rcases ite_e h with ⟨c34, h⟩ | ⟨c34, h⟩
  · refine At.cV1 (av := [vi 23]) (rest := []) mv_X12_is lk_X12_132 dX12_readAtom_3 rfl rfl sh_130 (Nat.le_of_ble_eq_true rfl) (by omega) ⟨rfl, rfl⟩ (rX12_is hq1) <| At.bifeq_f (tgt := 24) dX12_readAtom_6 (by decide) c34 <| ?_
    refine At.aloadn dX12_readAtom_9 rfl <| At.aloadn dX12_readAtom_10 rfl <| At.getI fl_X12_121 sh_130 (le149 sh_130) dX12_readAtom_11 <| ?_
    obtain ⟨q2, hq2, h⟩ := bnd_e h
    refine At.cV0 (av := [vi (S 130 10)]) (rest := []) mv_X12_codes lk_X12_149 dX12_readAtom_14 rfl rfl sh_130 (Nat.le_of_ble_eq_true rfl) (by omega) ⟨rfl, rfl⟩ (rX12_codes hq2) <| At.aloadn dX12_readAtom_17 rfl <| ?_
    obtain ⟨q3, hq3, h⟩ := bnd_e h
    refine At.cV0 (av := []) (rest := []) mv_X12_next lk_X12_135 dX12_readAtom_18 rfl rfl sh_130 (Nat.le_of_ble_eq_true rfl) (by omega) ⟨rfl, rfl⟩ (rX12_next hq3) <| At.goto (tgt := 130) dX12_readAtom_21 (by decide) <| ?_
    obtain rfl := Option.some.inj h
    exact At.vret rfl (Nat.zero_le _) (Nat.zero_le _) ⟨rfl, rfl⟩ dX12_readAtom_130
  · refine At.cV1 (av := [vi 23]) (rest := []) mv_X12_is lk_X12_132 dX12_readAtom_3 rfl rfl sh_130 (Nat.le_of_ble_eq_true rfl) (by omega) ⟨rfl, rfl⟩ (rX12_is hq1) <| At.bifeq_t (tgt := 24) dX12_readAtom_6 (by decide) c34 <| ?_
    rcases ite_e h with ⟨c33, h⟩ | ⟨c33, h⟩
    · refine At.aloadn dX12_readAtom_24 rfl <| At.getI fl_X12_126 sh_130 (le149 sh_130) dX12_readAtom_25 <| At.if_ne_f (tgt := 66) dX12_readAtom_28 (by decide) c33 <| ?_
      refine At.aloadn dX12_readAtom_31 rfl <| At.aloadn dX12_readAtom_32 rfl <| At.getI fl_X12_108 sh_130 (le149 sh_130) dX12_readAtom_33 <| ?_
      obtain ⟨q4, hq4, h⟩ := bnd_e h
      rcases ite_e h with ⟨c20, h⟩ | ⟨c20, h⟩
      · refine At.cV1 (av := [vi (S 130 9)]) (rest := []) mv_X12_wordOf lk_X12_152 dX12_readAtom_36 rfl rfl sh_130 (Nat.le_of_ble_eq_true rfl) (by omega) ⟨rfl, rfl⟩ (rX12_wordOf hq4) <| At.iconst dX12_readAtom_39 (by decide) <| At.icmp_eq_t (tgt := 66) dX12_readAtom_40 (by decide) c20 <| ?_
        refine At.aloadn dX12_readAtom_66 rfl <| At.bipush dX12_readAtom_67 (by decide) <| ?_
        obtain ⟨q5, hq5, h⟩ := bnd_e h
        rcases ite_e h with ⟨c16, h⟩ | ⟨c16, h⟩
        · refine At.cV1 (av := [vi 35]) (rest := []) mv_X12_is lk_X12_132 dX12_readAtom_69 rfl rfl sh_130 (Nat.le_of_ble_eq_true rfl) (by omega) ⟨rfl, rfl⟩ (rX12_is hq5) <| At.bifeq_f (tgt := 108) dX12_readAtom_72 (by decide) c16 <| ?_
          refine At.aloadn dX12_readAtom_75 rfl <| At.iloadn dX12_readAtom_76 rfl <| ?_
          obtain ⟨q6, hq6, h⟩ := bnd_e h
          rcases ite_e h with ⟨c11, h⟩ | ⟨c11, h⟩
          · refine At.cV1 (av := [vi p1]) (rest := []) mv_X12_goesIn lk_X12_155 dX12_readAtom_77 rfl rfl sh_130 (Nat.le_of_ble_eq_true rfl) (by omega) ⟨rfl, rfl⟩ (rX12_goesIn hq6) <| At.bifne_t (tgt := 84) dX12_readAtom_80 (by decide) c11 <| ?_
            refine At.aloadn dX12_readAtom_84 rfl <| At.iloadn dX12_readAtom_85 rfl <| At.iconst dX12_readAtom_86 (by decide) <| At.iadd dX12_readAtom_87 <| ?_
            obtain ⟨q7, hq7, h⟩ := bnd_e h
            refine At.cV0 (av := [vi (w32 (p1 + 1))]) (rest := []) mv_X12_readSum lk_X12_158 dX12_readAtom_88 rfl rfl sh_130 (Nat.le_of_ble_eq_true rfl) (Nat.le_refl _) ⟨rfl, rfl⟩ (hrc.2.2.2.1 _ _ _ hq7) <| At.aloadn dX12_readAtom_91 rfl <| At.bipush dX12_readAtom_92 (by decide) <| ?_
            obtain ⟨q8, hq8, h⟩ := bnd_e h
            rcases ite_e h with ⟨c10, h⟩ | ⟨c10, h⟩
            · refine At.cV1 (av := [vi 36]) (rest := []) mv_X12_eats lk_X12_161 dX12_readAtom_94 rfl rfl sh_130 (Nat.le_of_ble_eq_true rfl) (by omega) ⟨rfl, rfl⟩ (rX12_eats hq8) <| At.bifne_t (tgt := 130) dX12_readAtom_97 (by decide) c10 <| ?_
              obtain rfl := Option.some.inj h
              exact At.vret rfl (Nat.zero_le _) (Nat.zero_le _) ⟨rfl, rfl⟩ dX12_readAtom_130
            · refine At.cV1 (av := [vi 36]) (rest := []) mv_X12_eats lk_X12_161 dX12_readAtom_94 rfl rfl sh_130 (Nat.le_of_ble_eq_true rfl) (by omega) ⟨rfl, rfl⟩ (rX12_eats hq8) <| At.bifne_f (tgt := 130) dX12_readAtom_97 (by decide) c10 <| ?_
              refine At.aloadn dX12_readAtom_100 rfl <| At.iconst dX12_readAtom_101 (by decide) <| ?_
              obtain ⟨q9, hq9, h⟩ := bnd_e h
              refine At.cV0 (av := [vi 2]) (rest := []) mv_X12_fails lk_X12_138 dX12_readAtom_102 rfl rfl sh_130 (Nat.le_of_ble_eq_true rfl) (by omega) ⟨rfl, rfl⟩ (rX12_fails hq9) <| At.goto (tgt := 130) dX12_readAtom_105 (by decide) <| ?_
              obtain rfl := Option.some.inj h
              exact At.vret rfl (Nat.zero_le _) (Nat.zero_le _) ⟨rfl, rfl⟩ dX12_readAtom_130
          · refine At.cV1 (av := [vi p1]) (rest := []) mv_X12_goesIn lk_X12_155 dX12_readAtom_77 rfl rfl sh_130 (Nat.le_of_ble_eq_true rfl) (by omega) ⟨rfl, rfl⟩ (rX12_goesIn hq6) <| At.bifne_f (tgt := 84) dX12_readAtom_80 (by decide) c11 <| ?_
            obtain rfl := Option.some.inj h
            exact At.vret rfl (Nat.zero_le _) (Nat.zero_le _) ⟨rfl, rfl⟩ dX12_readAtom_83
        · refine At.cV1 (av := [vi 35]) (rest := []) mv_X12_is lk_X12_132 dX12_readAtom_69 rfl rfl sh_130 (Nat.le_of_ble_eq_true rfl) (by omega) ⟨rfl, rfl⟩ (rX12_is hq5) <| At.bifeq_t (tgt := 108) dX12_readAtom_72 (by decide) c16 <| ?_
          refine At.aloadn dX12_readAtom_108 rfl <| At.bipush dX12_readAtom_109 (by decide) <| ?_
          obtain ⟨q12, hq12, h⟩ := bnd_e h
          rcases ite_e h with ⟨c15, h⟩ | ⟨c15, h⟩
          · refine At.cV1 (av := [vi 10]) (rest := []) mv_X12_is lk_X12_132 dX12_readAtom_111 rfl rfl sh_130 (Nat.le_of_ble_eq_true rfl) (by omega) ⟨rfl, rfl⟩ (rX12_is hq12) <| At.bifeq_f (tgt := 125) dX12_readAtom_114 (by decide) c15 <| ?_
            refine At.aloadn dX12_readAtom_117 rfl <| At.iloadn dX12_readAtom_118 rfl <| ?_
            obtain ⟨q13, hq13, h⟩ := bnd_e h
            refine At.cV0 (av := [vi p1]) (rest := []) mv_X12_readIf lk_X12_164 dX12_readAtom_119 rfl rfl sh_130 (Nat.le_of_ble_eq_true rfl) (Nat.le_refl _) ⟨rfl, rfl⟩ (hrc.2.1 _ _ _ hq13) <| At.goto (tgt := 130) dX12_readAtom_122 (by decide) <| ?_
            obtain rfl := Option.some.inj h
            exact At.vret rfl (Nat.zero_le _) (Nat.zero_le _) ⟨rfl, rfl⟩ dX12_readAtom_130
          · refine At.cV1 (av := [vi 10]) (rest := []) mv_X12_is lk_X12_132 dX12_readAtom_111 rfl rfl sh_130 (Nat.le_of_ble_eq_true rfl) (by omega) ⟨rfl, rfl⟩ (rX12_is hq12) <| At.bifeq_t (tgt := 125) dX12_readAtom_114 (by decide) c15 <| ?_
            refine At.aloadn dX12_readAtom_125 rfl <| At.iconst dX12_readAtom_126 (by decide) <| ?_
            obtain ⟨q14, hq14, h⟩ := bnd_e h
            refine At.cV0 (av := [vi 2]) (rest := []) mv_X12_fails lk_X12_138 dX12_readAtom_127 rfl rfl sh_130 (Nat.le_of_ble_eq_true rfl) (by omega) ⟨rfl, rfl⟩ (rX12_fails hq14) <| ?_
            obtain rfl := Option.some.inj h
            exact At.vret rfl (Nat.zero_le _) (Nat.zero_le _) ⟨rfl, rfl⟩ dX12_readAtom_130
      · refine At.cV1 (av := [vi (S 130 9)]) (rest := []) mv_X12_wordOf lk_X12_152 dX12_readAtom_36 rfl rfl sh_130 (Nat.le_of_ble_eq_true rfl) (by omega) ⟨rfl, rfl⟩ (rX12_wordOf hq4) <| At.iconst dX12_readAtom_39 (by decide) <| At.icmp_eq_f (tgt := 66) dX12_readAtom_40 (by decide) c20 <| ?_
        refine At.aloadn dX12_readAtom_43 rfl <| At.sipush dX12_readAtom_44 (by decide) <| At.aloadn dX12_readAtom_47 rfl <| At.aloadn dX12_readAtom_48 rfl <| At.getI fl_X12_108 sh_130 (le149 sh_130) dX12_readAtom_49 <| ?_
        obtain ⟨q17, hq17, h⟩ := bnd_e h
        refine At.cV1 (av := [vi (S 130 9)]) (rest := [vi 1000, vr 130]) mv_X12_wordOf lk_X12_152 dX12_readAtom_52 rfl rfl sh_130 (Nat.le_of_ble_eq_true rfl) (by omega) ⟨rfl, rfl⟩ (rX12_wordOf hq17) <| At.iadd dX12_readAtom_55 <| ?_
        obtain ⟨q18, hq18, h⟩ := bnd_e h
        refine At.cV0 (av := [vi (w32 (1000 + q17))]) (rest := []) mv_X12_codes lk_X12_149 dX12_readAtom_56 rfl rfl sh_130 (Nat.le_of_ble_eq_true rfl) (by omega) ⟨rfl, rfl⟩ (rX12_codes hq18) <| At.aloadn dX12_readAtom_59 rfl <| ?_
        obtain ⟨q19, hq19, h⟩ := bnd_e h
        refine At.cV0 (av := []) (rest := []) mv_X12_next lk_X12_135 dX12_readAtom_60 rfl rfl sh_130 (Nat.le_of_ble_eq_true rfl) (by omega) ⟨rfl, rfl⟩ (rX12_next hq19) <| At.goto (tgt := 130) dX12_readAtom_63 (by decide) <| ?_
        obtain rfl := Option.some.inj h
        exact At.vret rfl (Nat.zero_le _) (Nat.zero_le _) ⟨rfl, rfl⟩ dX12_readAtom_130
    · refine At.aloadn dX12_readAtom_24 rfl <| At.getI fl_X12_126 sh_130 (le149 sh_130) dX12_readAtom_25 <| At.if_ne_t (tgt := 66) dX12_readAtom_28 (by decide) c33 <| ?_
      refine At.aloadn dX12_readAtom_66 rfl <| At.bipush dX12_readAtom_67 (by decide) <| ?_
      obtain ⟨q21, hq21, h⟩ := bnd_e h
      rcases ite_e h with ⟨c32, h⟩ | ⟨c32, h⟩
      · refine At.cV1 (av := [vi 35]) (rest := []) mv_X12_is lk_X12_132 dX12_readAtom_69 rfl rfl sh_130 (Nat.le_of_ble_eq_true rfl) (by omega) ⟨rfl, rfl⟩ (rX12_is hq21) <| At.bifeq_f (tgt := 108) dX12_readAtom_72 (by decide) c32 <| ?_
        refine At.aloadn dX12_readAtom_75 rfl <| At.iloadn dX12_readAtom_76 rfl <| ?_
        obtain ⟨q22, hq22, h⟩ := bnd_e h
        rcases ite_e h with ⟨c27, h⟩ | ⟨c27, h⟩
        · refine At.cV1 (av := [vi p1]) (rest := []) mv_X12_goesIn lk_X12_155 dX12_readAtom_77 rfl rfl sh_130 (Nat.le_of_ble_eq_true rfl) (by omega) ⟨rfl, rfl⟩ (rX12_goesIn hq22) <| At.bifne_t (tgt := 84) dX12_readAtom_80 (by decide) c27 <| ?_
          refine At.aloadn dX12_readAtom_84 rfl <| At.iloadn dX12_readAtom_85 rfl <| At.iconst dX12_readAtom_86 (by decide) <| At.iadd dX12_readAtom_87 <| ?_
          obtain ⟨q23, hq23, h⟩ := bnd_e h
          refine At.cV0 (av := [vi (w32 (p1 + 1))]) (rest := []) mv_X12_readSum lk_X12_158 dX12_readAtom_88 rfl rfl sh_130 (Nat.le_of_ble_eq_true rfl) (Nat.le_refl _) ⟨rfl, rfl⟩ (hrc.2.2.2.1 _ _ _ hq23) <| At.aloadn dX12_readAtom_91 rfl <| At.bipush dX12_readAtom_92 (by decide) <| ?_
          obtain ⟨q24, hq24, h⟩ := bnd_e h
          rcases ite_e h with ⟨c26, h⟩ | ⟨c26, h⟩
          · refine At.cV1 (av := [vi 36]) (rest := []) mv_X12_eats lk_X12_161 dX12_readAtom_94 rfl rfl sh_130 (Nat.le_of_ble_eq_true rfl) (by omega) ⟨rfl, rfl⟩ (rX12_eats hq24) <| At.bifne_t (tgt := 130) dX12_readAtom_97 (by decide) c26 <| ?_
            obtain rfl := Option.some.inj h
            exact At.vret rfl (Nat.zero_le _) (Nat.zero_le _) ⟨rfl, rfl⟩ dX12_readAtom_130
          · refine At.cV1 (av := [vi 36]) (rest := []) mv_X12_eats lk_X12_161 dX12_readAtom_94 rfl rfl sh_130 (Nat.le_of_ble_eq_true rfl) (by omega) ⟨rfl, rfl⟩ (rX12_eats hq24) <| At.bifne_f (tgt := 130) dX12_readAtom_97 (by decide) c26 <| ?_
            refine At.aloadn dX12_readAtom_100 rfl <| At.iconst dX12_readAtom_101 (by decide) <| ?_
            obtain ⟨q25, hq25, h⟩ := bnd_e h
            refine At.cV0 (av := [vi 2]) (rest := []) mv_X12_fails lk_X12_138 dX12_readAtom_102 rfl rfl sh_130 (Nat.le_of_ble_eq_true rfl) (by omega) ⟨rfl, rfl⟩ (rX12_fails hq25) <| At.goto (tgt := 130) dX12_readAtom_105 (by decide) <| ?_
            obtain rfl := Option.some.inj h
            exact At.vret rfl (Nat.zero_le _) (Nat.zero_le _) ⟨rfl, rfl⟩ dX12_readAtom_130
        · refine At.cV1 (av := [vi p1]) (rest := []) mv_X12_goesIn lk_X12_155 dX12_readAtom_77 rfl rfl sh_130 (Nat.le_of_ble_eq_true rfl) (by omega) ⟨rfl, rfl⟩ (rX12_goesIn hq22) <| At.bifne_f (tgt := 84) dX12_readAtom_80 (by decide) c27 <| ?_
          obtain rfl := Option.some.inj h
          exact At.vret rfl (Nat.zero_le _) (Nat.zero_le _) ⟨rfl, rfl⟩ dX12_readAtom_83
      · refine At.cV1 (av := [vi 35]) (rest := []) mv_X12_is lk_X12_132 dX12_readAtom_69 rfl rfl sh_130 (Nat.le_of_ble_eq_true rfl) (by omega) ⟨rfl, rfl⟩ (rX12_is hq21) <| At.bifeq_t (tgt := 108) dX12_readAtom_72 (by decide) c32 <| ?_
        refine At.aloadn dX12_readAtom_108 rfl <| At.bipush dX12_readAtom_109 (by decide) <| ?_
        obtain ⟨q28, hq28, h⟩ := bnd_e h
        rcases ite_e h with ⟨c31, h⟩ | ⟨c31, h⟩
        · refine At.cV1 (av := [vi 10]) (rest := []) mv_X12_is lk_X12_132 dX12_readAtom_111 rfl rfl sh_130 (Nat.le_of_ble_eq_true rfl) (by omega) ⟨rfl, rfl⟩ (rX12_is hq28) <| At.bifeq_f (tgt := 125) dX12_readAtom_114 (by decide) c31 <| ?_
          refine At.aloadn dX12_readAtom_117 rfl <| At.iloadn dX12_readAtom_118 rfl <| ?_
          obtain ⟨q29, hq29, h⟩ := bnd_e h
          refine At.cV0 (av := [vi p1]) (rest := []) mv_X12_readIf lk_X12_164 dX12_readAtom_119 rfl rfl sh_130 (Nat.le_of_ble_eq_true rfl) (Nat.le_refl _) ⟨rfl, rfl⟩ (hrc.2.1 _ _ _ hq29) <| At.goto (tgt := 130) dX12_readAtom_122 (by decide) <| ?_
          obtain rfl := Option.some.inj h
          exact At.vret rfl (Nat.zero_le _) (Nat.zero_le _) ⟨rfl, rfl⟩ dX12_readAtom_130
        · refine At.cV1 (av := [vi 10]) (rest := []) mv_X12_is lk_X12_132 dX12_readAtom_111 rfl rfl sh_130 (Nat.le_of_ble_eq_true rfl) (by omega) ⟨rfl, rfl⟩ (rX12_is hq28) <| At.bifeq_t (tgt := 125) dX12_readAtom_114 (by decide) c31 <| ?_
          refine At.aloadn dX12_readAtom_125 rfl <| At.iconst dX12_readAtom_126 (by decide) <| ?_
          obtain ⟨q30, hq30, h⟩ := bnd_e h
          refine At.cV0 (av := [vi 2]) (rest := []) mv_X12_fails lk_X12_138 dX12_readAtom_127 rfl rfl sh_130 (Nat.le_of_ble_eq_true rfl) (by omega) ⟨rfl, rfl⟩ (rX12_fails hq30) <| ?_
          obtain rfl := Option.some.inj h
          exact At.vret rfl (Nat.zero_le _) (Nat.zero_le _) ⟨rfl, rfl⟩ dX12_readAtom_130
def fX12_readIf (rc : Nat → Int → SS → Option SS) (p1 : Int) (S : SS) : Option SS :=
  Option.bind (fX12_goesIn p1 S) fun q1 =>
  if q1.1 = true then (
    Option.bind (rc 6 (w32 (p1 + 1)) q1.2) fun q2 =>
    Option.bind (fX12_eats 11 q2) fun q3 =>
    Option.bind (
      if q3.1 = true then (
        some q3.2
      ) else (
        Option.bind (fX12_fails 2 q3.2) fun q5 =>
        some q5
      )
      : Option (SS)) fun q4 =>
    Option.bind (rc 3 (w32 (p1 + 1)) q4) fun q7 =>
    Option.bind (fX12_eats 12 q7) fun q8 =>
    Option.bind (
      if q8.1 = true then (
        some q8.2
      ) else (
        Option.bind (fX12_fails 2 q8.2) fun q10 =>
        some q10
      )
      : Option (SS)) fun q9 =>
    Option.bind (rc 3 (w32 (p1 + 1)) q9) fun q12 =>
    Option.bind (fX12_eats 13 q12) fun q13 =>
    Option.bind (
      if q13.1 = true then (
        some q13.2
      ) else (
        Option.bind (fX12_fails 2 q13.2) fun q15 =>
        some q15
      )
      : Option (SS)) fun q14 =>
    Option.bind (fX12_codes 3009 q14) fun q17 =>
    some q17
  ) else (
    some q1.2
  )
set_option maxRecDepth 100000 in
set_option maxHeartbeats 4000000 in
theorem rX12_readIf {G : GG} {rc : Nat → Int → SS → Option SS} {d : Nat} (hrc : RCX12_readAtom G rc d) (hd0 : 9 ≤ d) {p1 : Int} {S : SS} {rr : SS} (h : fX12_readIf rc p1 S = some rr) : RD G mX12_readIf (d + 1) [vr 130, vi p1] S none rr := by
  unfold fX12_readIf at h
  refine Runs.of pl_X12 (Nat.le_of_ble_eq_true rfl) ?_
  show At G mX12_readIf (d + 1) 0 [(0, vr 130), (1, vi p1)] [] (mm S) 0 0 (EQ none rr)
  refine At.aloadn dX12_readIf_0 rfl <| At.iloadn dX12_readIf_1 rfl <| ?_
  obtain ⟨q1, hq1, h⟩ := bnd_e h
  rcases ite_e h with ⟨c18, h⟩ | ⟨c18, h⟩
  · refine At.cV1 (av := [vi p1]) (rest := []) mv_X12_goesIn lk_X12_155 dX12_readIf_2 rfl rfl sh_130 (Nat.le_of_ble_eq_true rfl) (by omega) ⟨rfl, rfl⟩ (rX12_goesIn hq1) <| At.bifne_t (tgt := 9) dX12_readIf_5 (by decide) c18 <| ?_
    refine At.aloadn dX12_readIf_9 rfl <| At.iloadn dX12_readIf_10 rfl <| At.iconst dX12_readIf_11 (by decide) <| At.iadd dX12_readIf_12 <| ?_
    obtain ⟨q2, hq2, h⟩ := bnd_e h
    refine At.cV0 (av := [vi (w32 (p1 + 1))]) (rest := []) mv_X12_readTruth lk_X12_167 dX12_readIf_13 rfl rfl sh_130 (Nat.le_of_ble_eq_true rfl) (Nat.le_refl _) ⟨rfl, rfl⟩ (hrc.2.2.2.2.2.2 _ _ _ hq2) <| At.aloadn dX12_readIf_16 rfl <| At.bipush dX12_readIf_17 (by decide) <| ?_
    obtain ⟨q3, hq3, h⟩ := bnd_e h
    obtain ⟨q4, hj30, h⟩ := bnd_e h
    have K30 : At G mX12_readIf (d + 1) 30 [(0, vr 130), (1, vi p1)] [] (mm q4) 0 0 (EQ none rr) := by
      refine At.aloadn dX12_readIf_30 rfl <| At.iloadn dX12_readIf_31 rfl <| At.iconst dX12_readIf_32 (by decide) <| At.iadd dX12_readIf_33 <| ?_
      obtain ⟨q7, hq7, h⟩ := bnd_e h
      refine At.cV0 (av := [vi (w32 (p1 + 1))]) (rest := []) mv_X12_readSum lk_X12_158 dX12_readIf_34 rfl rfl sh_130 (Nat.le_of_ble_eq_true rfl) (Nat.le_refl _) ⟨rfl, rfl⟩ (hrc.2.2.2.1 _ _ _ hq7) <| At.aloadn dX12_readIf_37 rfl <| At.bipush dX12_readIf_38 (by decide) <| ?_
      obtain ⟨q8, hq8, h⟩ := bnd_e h
      obtain ⟨q9, hj51, h⟩ := bnd_e h
      have K51 : At G mX12_readIf (d + 1) 51 [(0, vr 130), (1, vi p1)] [] (mm q9) 0 0 (EQ none rr) := by
        refine At.aloadn dX12_readIf_51 rfl <| At.iloadn dX12_readIf_52 rfl <| At.iconst dX12_readIf_53 (by decide) <| At.iadd dX12_readIf_54 <| ?_
        obtain ⟨q12, hq12, h⟩ := bnd_e h
        refine At.cV0 (av := [vi (w32 (p1 + 1))]) (rest := []) mv_X12_readSum lk_X12_158 dX12_readIf_55 rfl rfl sh_130 (Nat.le_of_ble_eq_true rfl) (Nat.le_refl _) ⟨rfl, rfl⟩ (hrc.2.2.2.1 _ _ _ hq12) <| At.aloadn dX12_readIf_58 rfl <| At.bipush dX12_readIf_59 (by decide) <| ?_
        obtain ⟨q13, hq13, h⟩ := bnd_e h
        obtain ⟨q14, hj72, h⟩ := bnd_e h
        have K72 : At G mX12_readIf (d + 1) 72 [(0, vr 130)] [] (mm q14) 0 0 (EQ none rr) := by
          refine At.aloadn dX12_readIf_72 rfl <| At.sipush dX12_readIf_73 (by decide) <| ?_
          obtain ⟨q17, hq17, h⟩ := bnd_e h
          refine At.cV0 (av := [vi 3009]) (rest := []) mv_X12_codes lk_X12_149 dX12_readIf_76 rfl rfl sh_130 (Nat.le_of_ble_eq_true rfl) (by omega) ⟨rfl, rfl⟩ (rX12_codes hq17) <| ?_
          obtain rfl := Option.some.inj h
          exact At.vret rfl (Nat.zero_le _) (Nat.zero_le _) ⟨rfl, rfl⟩ dX12_readIf_79
        clear h; have h := hj72; clear hj72
        rcases ite_e h with ⟨c16, h⟩ | ⟨c16, h⟩
        · refine At.cV1 (av := [vi 13]) (rest := []) mv_X12_eats lk_X12_161 dX12_readIf_61 rfl rfl sh_130 (Nat.le_of_ble_eq_true rfl) (by omega) ⟨rfl, rfl⟩ (rX12_eats hq13) <| At.bifne_t (tgt := 72) dX12_readIf_64 (by decide) c16 <| ?_
          obtain rfl := Option.some.inj h
          exact At.sub [0] rfl K72
        · refine At.cV1 (av := [vi 13]) (rest := []) mv_X12_eats lk_X12_161 dX12_readIf_61 rfl rfl sh_130 (Nat.le_of_ble_eq_true rfl) (by omega) ⟨rfl, rfl⟩ (rX12_eats hq13) <| At.bifne_f (tgt := 72) dX12_readIf_64 (by decide) c16 <| ?_
          refine At.aloadn dX12_readIf_67 rfl <| At.iconst dX12_readIf_68 (by decide) <| ?_
          obtain ⟨q15, hq15, h⟩ := bnd_e h
          refine At.cV0 (av := [vi 2]) (rest := []) mv_X12_fails lk_X12_138 dX12_readIf_69 rfl rfl sh_130 (Nat.le_of_ble_eq_true rfl) (by omega) ⟨rfl, rfl⟩ (rX12_fails hq15) <| ?_
          obtain rfl := Option.some.inj h
          exact At.sub [0] rfl K72
      clear h; have h := hj51; clear hj51
      rcases ite_e h with ⟨c11, h⟩ | ⟨c11, h⟩
      · refine At.cV1 (av := [vi 12]) (rest := []) mv_X12_eats lk_X12_161 dX12_readIf_40 rfl rfl sh_130 (Nat.le_of_ble_eq_true rfl) (by omega) ⟨rfl, rfl⟩ (rX12_eats hq8) <| At.bifne_t (tgt := 51) dX12_readIf_43 (by decide) c11 <| ?_
        obtain rfl := Option.some.inj h
        exact At.sub [0, 1] rfl K51
      · refine At.cV1 (av := [vi 12]) (rest := []) mv_X12_eats lk_X12_161 dX12_readIf_40 rfl rfl sh_130 (Nat.le_of_ble_eq_true rfl) (by omega) ⟨rfl, rfl⟩ (rX12_eats hq8) <| At.bifne_f (tgt := 51) dX12_readIf_43 (by decide) c11 <| ?_
        refine At.aloadn dX12_readIf_46 rfl <| At.iconst dX12_readIf_47 (by decide) <| ?_
        obtain ⟨q10, hq10, h⟩ := bnd_e h
        refine At.cV0 (av := [vi 2]) (rest := []) mv_X12_fails lk_X12_138 dX12_readIf_48 rfl rfl sh_130 (Nat.le_of_ble_eq_true rfl) (by omega) ⟨rfl, rfl⟩ (rX12_fails hq10) <| ?_
        obtain rfl := Option.some.inj h
        exact At.sub [0, 1] rfl K51
    clear h; have h := hj30; clear hj30
    rcases ite_e h with ⟨c6, h⟩ | ⟨c6, h⟩
    · refine At.cV1 (av := [vi 11]) (rest := []) mv_X12_eats lk_X12_161 dX12_readIf_19 rfl rfl sh_130 (Nat.le_of_ble_eq_true rfl) (by omega) ⟨rfl, rfl⟩ (rX12_eats hq3) <| At.bifne_t (tgt := 30) dX12_readIf_22 (by decide) c6 <| ?_
      obtain rfl := Option.some.inj h
      exact At.sub [0, 1] rfl K30
    · refine At.cV1 (av := [vi 11]) (rest := []) mv_X12_eats lk_X12_161 dX12_readIf_19 rfl rfl sh_130 (Nat.le_of_ble_eq_true rfl) (by omega) ⟨rfl, rfl⟩ (rX12_eats hq3) <| At.bifne_f (tgt := 30) dX12_readIf_22 (by decide) c6 <| ?_
      refine At.aloadn dX12_readIf_25 rfl <| At.iconst dX12_readIf_26 (by decide) <| ?_
      obtain ⟨q5, hq5, h⟩ := bnd_e h
      refine At.cV0 (av := [vi 2]) (rest := []) mv_X12_fails lk_X12_138 dX12_readIf_27 rfl rfl sh_130 (Nat.le_of_ble_eq_true rfl) (by omega) ⟨rfl, rfl⟩ (rX12_fails hq5) <| ?_
      obtain rfl := Option.some.inj h
      exact At.sub [0, 1] rfl K30
  · refine At.cV1 (av := [vi p1]) (rest := []) mv_X12_goesIn lk_X12_155 dX12_readIf_2 rfl rfl sh_130 (Nat.le_of_ble_eq_true rfl) (by omega) ⟨rfl, rfl⟩ (rX12_goesIn hq1) <| At.bifne_f (tgt := 9) dX12_readIf_5 (by decide) c18 <| ?_
    obtain rfl := Option.some.inj h
    exact At.vret rfl (Nat.zero_le _) (Nat.zero_le _) ⟨rfl, rfl⟩ dX12_readIf_8
def fX12_readTerm_L5 (rc : Nat → Int → SS → Option SS) (l1 : Int) : Nat → SS → Option (SS)
  | 0, _ => none
  | n + 1, S =>
    Option.bind (fX12_eats 34 S) fun q1 =>
    if q1.1 = true then (
      Option.bind (rc 0 l1 q1.2) fun q2 =>
      Option.bind (fX12_codes 3002 q2) fun q3 =>
      fX12_readTerm_L5 rc l1 n  q3
    ) else (
      some q1.2
    )
def fX12_readTerm (rc : Nat → Int → SS → Option SS) (p1 : Int) (S : SS) : Option SS :=
  Option.bind (rc 0 p1 S) fun q1 =>
  Option.bind (fX12_readTerm_L5 rc p1 FU  q1) fun q2 =>
  some q2
set_option maxRecDepth 100000 in
set_option maxHeartbeats 4000000 in
theorem lX12_readTerm_L5 {G : GG} {Φ : Option VV → MM → Prop} {rc : Nat → Int → SS → Option SS} {d : Nat} (hrc : RCX12_readAtom G rc d) (hd0 : 9 ≤ d) {l1 : Int} : ∀ (n : Nat) (S : SS) (q : SS), fX12_readTerm_L5 rc l1 n S = some q → At G mX12_readTerm (d + 1) 29 [] [] (mm q) 0 0 Φ → At G mX12_readTerm (d + 1) 5 [(0, vr 130), (1, vi l1)] [] (mm S) 0 0 Φ := by
  intro n
  induction n with
  | zero =>
    intro _ _ h
    cases h
  | succ n ih =>
    intro S q h K29
    unfold fX12_readTerm_L5 at h
    refine At.aloadn dX12_readTerm_5 rfl <| At.bipush dX12_readTerm_6 (by decide) <| ?_
    obtain ⟨q1, hq1, h⟩ := bnd_e h
    rcases ite_e h with ⟨c4, h⟩ | ⟨c4, h⟩
    · refine At.cV1 (av := [vi 34]) (rest := []) mv_X12_eats lk_X12_161 dX12_readTerm_8 rfl rfl sh_130 (Nat.le_of_ble_eq_true rfl) (by omega) ⟨rfl, rfl⟩ (rX12_eats hq1) <| At.bifeq_f (tgt := 29) dX12_readTerm_11 (by decide) c4 <| ?_
      refine At.aloadn dX12_readTerm_14 rfl <| At.iloadn dX12_readTerm_15 rfl <| ?_
      obtain ⟨q2, hq2, h⟩ := bnd_e h
      refine At.cV0 (av := [vi l1]) (rest := []) mv_X12_readAtom lk_X12_170 dX12_readTerm_16 rfl rfl sh_130 (Nat.le_of_ble_eq_true rfl) (Nat.le_refl _) ⟨rfl, rfl⟩ (hrc.1 _ _ _ hq2) <| At.aloadn dX12_readTerm_19 rfl <| At.sipush dX12_readTerm_20 (by decide) <| ?_
      obtain ⟨q3, hq3, h⟩ := bnd_e h
      refine At.cV0 (av := [vi 3002]) (rest := []) mv_X12_codes lk_X12_149 dX12_readTerm_23 rfl rfl sh_130 (Nat.le_of_ble_eq_true rfl) (by omega) ⟨rfl, rfl⟩ (rX12_codes hq3) <| At.goto (tgt := 5) dX12_readTerm_26 (by decide) <| ?_
      exact At.sub [0, 1] rfl (ih _ _ h K29)
    · refine At.cV1 (av := [vi 34]) (rest := []) mv_X12_eats lk_X12_161 dX12_readTerm_8 rfl rfl sh_130 (Nat.le_of_ble_eq_true rfl) (by omega) ⟨rfl, rfl⟩ (rX12_eats hq1) <| At.bifeq_t (tgt := 29) dX12_readTerm_11 (by decide) c4 <| ?_
      obtain rfl := Option.some.inj h
      exact At.sub [] rfl K29
set_option maxRecDepth 100000 in
set_option maxHeartbeats 4000000 in
theorem rX12_readTerm {G : GG} {rc : Nat → Int → SS → Option SS} {d : Nat} (hrc : RCX12_readAtom G rc d) (hd0 : 9 ≤ d) {p1 : Int} {S : SS} {rr : SS} (h : fX12_readTerm rc p1 S = some rr) : RD G mX12_readTerm (d + 1) [vr 130, vi p1] S none rr := by
  unfold fX12_readTerm at h
  refine Runs.of pl_X12 (Nat.le_of_ble_eq_true rfl) ?_
  show At G mX12_readTerm (d + 1) 0 [(0, vr 130), (1, vi p1)] [] (mm S) 0 0 (EQ none rr)
  refine At.aloadn dX12_readTerm_0 rfl <| At.iloadn dX12_readTerm_1 rfl <| ?_
  obtain ⟨q1, hq1, h⟩ := bnd_e h
  refine At.cV0 (av := [vi p1]) (rest := []) mv_X12_readAtom lk_X12_170 dX12_readTerm_2 rfl rfl sh_130 (Nat.le_of_ble_eq_true rfl) (Nat.le_refl _) ⟨rfl, rfl⟩ (hrc.1 _ _ _ hq1) <| ?_
  obtain ⟨q2, ho3, h⟩ := bnd_e h
  refine At.sub [0, 1] rfl (lX12_readTerm_L5 hrc hd0 FU _ q2 ho3 ?_)
  obtain rfl := Option.some.inj h
  exact At.vret rfl (Nat.zero_le _) (Nat.zero_le _) ⟨rfl, rfl⟩ dX12_readTerm_29
def fX12_readSum_L5 (rc : Nat → Int → SS → Option SS) (l1 : Int) : Nat → SS → Option (SS)
  | 0, _ => none
  | n + 1, S =>
    Option.bind (fX12_is 32 S) fun q1 =>
    if q1 = true then (
      Option.bind (
        if (S 130 9) = 32 then (
          some 3000
        ) else (
          some 3001
        )
        : Option (Int)) fun q2 =>
      Option.bind (fX12_next  S) fun q4 =>
      Option.bind (rc 2 l1 q4) fun q5 =>
      Option.bind (fX12_codes q2 q5) fun q6 =>
      fX12_readSum_L5 rc l1 n  q6
    ) else (
      Option.bind (fX12_is 33 S) fun q7 =>
      if q7 = true then (
        Option.bind (
          if (S 130 9) = 32 then (
            some 3000
          ) else (
            some 3001
          )
          : Option (Int)) fun q8 =>
        Option.bind (fX12_next  S) fun q10 =>
        Option.bind (rc 2 l1 q10) fun q11 =>
        Option.bind (fX12_codes q8 q11) fun q12 =>
        fX12_readSum_L5 rc l1 n  q12
      ) else (
        some S
      )
    )
def fX12_readSum (rc : Nat → Int → SS → Option SS) (p1 : Int) (S : SS) : Option SS :=
  Option.bind (rc 2 p1 S) fun q1 =>
  Option.bind (fX12_readSum_L5 rc p1 FU  q1) fun q2 =>
  some q2
set_option maxRecDepth 100000 in
set_option maxHeartbeats 4000000 in
theorem lX12_readSum_L5 {G : GG} {Φ : Option VV → MM → Prop} {rc : Nat → Int → SS → Option SS} {d : Nat} (hrc : RCX12_readAtom G rc d) (hd0 : 9 ≤ d) {l1 : Int} : ∀ (n : Nat) (S : SS) (q : SS), fX12_readSum_L5 rc l1 n S = some q → At G mX12_readSum (d + 1) 59 [] [] (mm q) 0 0 Φ → At G mX12_readSum (d + 1) 5 [(0, vr 130), (1, vi l1)] [] (mm S) 0 0 Φ := by
  intro n
  induction n with
  | zero =>
    intro _ _ h
    cases h
  | succ n ih =>
    intro S q h K59
    unfold fX12_readSum_L5 at h
    refine At.aloadn dX12_readSum_5 rfl <| At.bipush dX12_readSum_6 (by decide) <| ?_
    obtain ⟨q1, hq1, h⟩ := bnd_e h
    rcases ite_e h with ⟨c14, h⟩ | ⟨c14, h⟩
    · refine At.cV1 (av := [vi 32]) (rest := []) mv_X12_is lk_X12_132 dX12_readSum_8 rfl rfl sh_130 (Nat.le_of_ble_eq_true rfl) (by omega) ⟨rfl, rfl⟩ (rX12_is hq1) <| At.bifne_t (tgt := 23) dX12_readSum_11 (by decide) c14 <| ?_
      obtain ⟨q2, hj41, h⟩ := bnd_e h
      have K41 : At G mX12_readSum (d + 1) 41 [(0, vr 130), (1, vi l1)] [vi q2] (mm S) 0 0 Φ := by
        refine At.istoren (ls' := [(2, vi q2), (0, vr 130), (1, vi l1)]) dX12_readSum_41 (by decide) rfl <| At.aloadn dX12_readSum_42 rfl <| ?_
        obtain ⟨q4, hq4, h⟩ := bnd_e h
        refine At.cV0 (av := []) (rest := []) mv_X12_next lk_X12_135 dX12_readSum_43 rfl rfl sh_130 (Nat.le_of_ble_eq_true rfl) (by omega) ⟨rfl, rfl⟩ (rX12_next hq4) <| At.aloadn dX12_readSum_46 rfl <| At.iloadn dX12_readSum_47 rfl <| ?_
        obtain ⟨q5, hq5, h⟩ := bnd_e h
        refine At.cV0 (av := [vi l1]) (rest := []) mv_X12_readTerm lk_X12_173 dX12_readSum_48 rfl rfl sh_130 (Nat.le_of_ble_eq_true rfl) (Nat.le_refl _) ⟨rfl, rfl⟩ (hrc.2.2.1 _ _ _ hq5) <| At.aloadn dX12_readSum_51 rfl <| At.iloadn dX12_readSum_52 rfl <| ?_
        obtain ⟨q6, hq6, h⟩ := bnd_e h
        refine At.cV0 (av := [vi q2]) (rest := []) mv_X12_codes lk_X12_149 dX12_readSum_53 rfl rfl sh_130 (Nat.le_of_ble_eq_true rfl) (by omega) ⟨rfl, rfl⟩ (rX12_codes hq6) <| At.goto (tgt := 5) dX12_readSum_56 (by decide) <| ?_
        exact At.sub [1, 2] rfl (ih _ _ h K59)
      clear h; have h := hj41; clear hj41
      rcases ite_e h with ⟨c3, h⟩ | ⟨c3, h⟩
      · refine At.aloadn dX12_readSum_23 rfl <| At.getI fl_X12_108 sh_130 (le149 sh_130) dX12_readSum_24 <| At.bipush dX12_readSum_27 (by decide) <| At.icmp_ne_f (tgt := 38) dX12_readSum_29 (by decide) c3 <| ?_
        refine At.sipush dX12_readSum_32 (by decide) <| At.goto (tgt := 41) dX12_readSum_35 (by decide) <| ?_
        obtain rfl := Option.some.inj h
        exact At.sub [0, 1] rfl K41
      · refine At.aloadn dX12_readSum_23 rfl <| At.getI fl_X12_108 sh_130 (le149 sh_130) dX12_readSum_24 <| At.bipush dX12_readSum_27 (by decide) <| At.icmp_ne_t (tgt := 38) dX12_readSum_29 (by decide) c3 <| ?_
        refine At.sipush dX12_readSum_38 (by decide) <| ?_
        obtain rfl := Option.some.inj h
        exact At.sub [0, 1] rfl K41
    · refine At.cV1 (av := [vi 32]) (rest := []) mv_X12_is lk_X12_132 dX12_readSum_8 rfl rfl sh_130 (Nat.le_of_ble_eq_true rfl) (by omega) ⟨rfl, rfl⟩ (rX12_is hq1) <| At.bifne_f (tgt := 23) dX12_readSum_11 (by decide) c14 <| ?_
      refine At.aloadn dX12_readSum_14 rfl <| At.bipush dX12_readSum_15 (by decide) <| ?_
      obtain ⟨q7, hq7, h⟩ := bnd_e h
      rcases ite_e h with ⟨c13, h⟩ | ⟨c13, h⟩
      · refine At.cV1 (av := [vi 33]) (rest := []) mv_X12_is lk_X12_132 dX12_readSum_17 rfl rfl sh_130 (Nat.le_of_ble_eq_true rfl) (by omega) ⟨rfl, rfl⟩ (rX12_is hq7) <| At.bifeq_f (tgt := 59) dX12_readSum_20 (by decide) c13 <| ?_
        obtain ⟨q8, hj41, h⟩ := bnd_e h
        have K41 : At G mX12_readSum (d + 1) 41 [(0, vr 130), (1, vi l1)] [vi q8] (mm S) 0 0 Φ := by
          refine At.istoren (ls' := [(2, vi q8), (0, vr 130), (1, vi l1)]) dX12_readSum_41 (by decide) rfl <| At.aloadn dX12_readSum_42 rfl <| ?_
          obtain ⟨q10, hq10, h⟩ := bnd_e h
          refine At.cV0 (av := []) (rest := []) mv_X12_next lk_X12_135 dX12_readSum_43 rfl rfl sh_130 (Nat.le_of_ble_eq_true rfl) (by omega) ⟨rfl, rfl⟩ (rX12_next hq10) <| At.aloadn dX12_readSum_46 rfl <| At.iloadn dX12_readSum_47 rfl <| ?_
          obtain ⟨q11, hq11, h⟩ := bnd_e h
          refine At.cV0 (av := [vi l1]) (rest := []) mv_X12_readTerm lk_X12_173 dX12_readSum_48 rfl rfl sh_130 (Nat.le_of_ble_eq_true rfl) (Nat.le_refl _) ⟨rfl, rfl⟩ (hrc.2.2.1 _ _ _ hq11) <| At.aloadn dX12_readSum_51 rfl <| At.iloadn dX12_readSum_52 rfl <| ?_
          obtain ⟨q12, hq12, h⟩ := bnd_e h
          refine At.cV0 (av := [vi q8]) (rest := []) mv_X12_codes lk_X12_149 dX12_readSum_53 rfl rfl sh_130 (Nat.le_of_ble_eq_true rfl) (by omega) ⟨rfl, rfl⟩ (rX12_codes hq12) <| At.goto (tgt := 5) dX12_readSum_56 (by decide) <| ?_
          exact At.sub [1, 2] rfl (ih _ _ h K59)
        clear h; have h := hj41; clear hj41
        rcases ite_e h with ⟨c9, h⟩ | ⟨c9, h⟩
        · refine At.aloadn dX12_readSum_23 rfl <| At.getI fl_X12_108 sh_130 (le149 sh_130) dX12_readSum_24 <| At.bipush dX12_readSum_27 (by decide) <| At.icmp_ne_f (tgt := 38) dX12_readSum_29 (by decide) c9 <| ?_
          refine At.sipush dX12_readSum_32 (by decide) <| At.goto (tgt := 41) dX12_readSum_35 (by decide) <| ?_
          obtain rfl := Option.some.inj h
          exact At.sub [0, 1] rfl K41
        · refine At.aloadn dX12_readSum_23 rfl <| At.getI fl_X12_108 sh_130 (le149 sh_130) dX12_readSum_24 <| At.bipush dX12_readSum_27 (by decide) <| At.icmp_ne_t (tgt := 38) dX12_readSum_29 (by decide) c9 <| ?_
          refine At.sipush dX12_readSum_38 (by decide) <| ?_
          obtain rfl := Option.some.inj h
          exact At.sub [0, 1] rfl K41
      · refine At.cV1 (av := [vi 33]) (rest := []) mv_X12_is lk_X12_132 dX12_readSum_17 rfl rfl sh_130 (Nat.le_of_ble_eq_true rfl) (by omega) ⟨rfl, rfl⟩ (rX12_is hq7) <| At.bifeq_t (tgt := 59) dX12_readSum_20 (by decide) c13 <| ?_
        obtain rfl := Option.some.inj h
        exact At.sub [] rfl K59
set_option maxRecDepth 100000 in
set_option maxHeartbeats 4000000 in
theorem rX12_readSum {G : GG} {rc : Nat → Int → SS → Option SS} {d : Nat} (hrc : RCX12_readAtom G rc d) (hd0 : 9 ≤ d) {p1 : Int} {S : SS} {rr : SS} (h : fX12_readSum rc p1 S = some rr) : RD G mX12_readSum (d + 1) [vr 130, vi p1] S none rr := by
  unfold fX12_readSum at h
  refine Runs.of pl_X12 (Nat.le_of_ble_eq_true rfl) ?_
  show At G mX12_readSum (d + 1) 0 [(0, vr 130), (1, vi p1)] [] (mm S) 0 0 (EQ none rr)
  refine At.aloadn dX12_readSum_0 rfl <| At.iloadn dX12_readSum_1 rfl <| ?_
  obtain ⟨q1, hq1, h⟩ := bnd_e h
  refine At.cV0 (av := [vi p1]) (rest := []) mv_X12_readTerm lk_X12_173 dX12_readSum_2 rfl rfl sh_130 (Nat.le_of_ble_eq_true rfl) (Nat.le_refl _) ⟨rfl, rfl⟩ (hrc.2.2.1 _ _ _ hq1) <| ?_
  obtain ⟨q2, ho3, h⟩ := bnd_e h
  refine At.sub [0, 1] rfl (lX12_readSum_L5 hrc hd0 FU _ q2 ho3 ?_)
  obtain rfl := Option.some.inj h
  exact At.vret rfl (Nat.zero_le _) (Nat.zero_le _) ⟨rfl, rfl⟩ dX12_readSum_59
def fX12_readUnit (rc : Nat → Int → SS → Option SS) (p1 : Int) (S : SS) : Option SS :=
  Option.bind (fX12_is 17 S) fun q1 =>
  if q1 = true then (
    Option.bind (fX12_goesIn p1 S) fun q2 =>
    if q2.1 = true then (
      Option.bind (rc 4 (w32 (p1 + 1)) q2.2) fun q3 =>
      Option.bind (fX12_codes 3006 q3) fun q4 =>
      some q4
    ) else (
      some q2.2
    )
  ) else (
    Option.bind (fX12_is 37 S) fun q6 =>
    if q6 = true then (
      Option.bind (fX12_goesIn p1 S) fun q7 =>
      if q7.1 = true then (
        Option.bind (rc 6 (w32 (p1 + 1)) q7.2) fun q8 =>
        Option.bind (fX12_eats 38 q8) fun q9 =>
        if q9.1 = true then (
          some q9.2
        ) else (
          Option.bind (fX12_fails 2 q9.2) fun q10 =>
          some q10
        )
      ) else (
        some q7.2
      )
    ) else (
      Option.bind (rc 3 p1 S) fun q13 =>
      Option.bind (fX12_is 39 q13) fun q14 =>
      Option.bind (
        if q14 = true then (
          some 3003
        ) else (
          Option.bind (fX12_is 40 q13) fun q16 =>
          if q16 = true then (
            some 3004
          ) else (
            some 3005
          )
        )
        : Option (Int)) fun q15 =>
      Option.bind (fX12_is 39 q13) fun q19 =>
      Option.bind (
        if q19 = true then (
          Option.bind (fX12_next  q13) fun q21 =>
          some q21
        ) else (
          Option.bind (fX12_is 40 q13) fun q22 =>
          if q22 = true then (
            Option.bind (fX12_next  q13) fun q23 =>
            some q23
          ) else (
            Option.bind (fX12_is 41 q13) fun q24 =>
            if q24 = true then (
              Option.bind (fX12_next  q13) fun q25 =>
              some q25
            ) else (
              Option.bind (fX12_fails 2 q13) fun q26 =>
              some q26
            )
          )
        )
        : Option (SS)) fun q20 =>
      Option.bind (rc 3 p1 q20) fun q30 =>
      Option.bind (fX12_codes q15 q30) fun q31 =>
      some q31
    )
  )
set_option maxRecDepth 100000 in
set_option maxHeartbeats 4000000 in
theorem rX12_readUnit {G : GG} {rc : Nat → Int → SS → Option SS} {d : Nat} (hrc : RCX12_readAtom G rc d) (hd0 : 9 ≤ d) {p1 : Int} {S : SS} {rr : SS} (h : fX12_readUnit rc p1 S = some rr) : RD G mX12_readUnit (d + 1) [vr 130, vi p1] S none rr := by
  unfold fX12_readUnit at h
  refine Runs.of pl_X12 (Nat.le_of_ble_eq_true rfl) ?_
  show At G mX12_readUnit (d + 1) 0 [(0, vr 130), (1, vi p1)] [] (mm S) 0 0 (EQ none rr)
  refine At.aloadn dX12_readUnit_0 rfl <| At.bipush dX12_readUnit_1 (by decide) <| ?_
  obtain ⟨q1, hq1, h⟩ := bnd_e h
  rcases ite_e h with ⟨c33, h⟩ | ⟨c33, h⟩
  · refine At.cV1 (av := [vi 17]) (rest := []) mv_X12_is lk_X12_132 dX12_readUnit_3 rfl rfl sh_130 (Nat.le_of_ble_eq_true rfl) (by omega) ⟨rfl, rfl⟩ (rX12_is hq1) <| At.bifeq_f (tgt := 33) dX12_readUnit_6 (by decide) c33 <| ?_
    refine At.aloadn dX12_readUnit_9 rfl <| At.iloadn dX12_readUnit_10 rfl <| ?_
    obtain ⟨q2, hq2, h⟩ := bnd_e h
    rcases ite_e h with ⟨c5, h⟩ | ⟨c5, h⟩
    · refine At.cV1 (av := [vi p1]) (rest := []) mv_X12_goesIn lk_X12_155 dX12_readUnit_11 rfl rfl sh_130 (Nat.le_of_ble_eq_true rfl) (by omega) ⟨rfl, rfl⟩ (rX12_goesIn hq2) <| At.bifne_t (tgt := 18) dX12_readUnit_14 (by decide) c5 <| ?_
      refine At.aloadn dX12_readUnit_18 rfl <| At.iloadn dX12_readUnit_19 rfl <| At.iconst dX12_readUnit_20 (by decide) <| At.iadd dX12_readUnit_21 <| ?_
      obtain ⟨q3, hq3, h⟩ := bnd_e h
      refine At.cV0 (av := [vi (w32 (p1 + 1))]) (rest := []) mv_X12_readUnit lk_X12_176 dX12_readUnit_22 rfl rfl sh_130 (Nat.le_of_ble_eq_true rfl) (Nat.le_refl _) ⟨rfl, rfl⟩ (hrc.2.2.2.2.1 _ _ _ hq3) <| At.aloadn dX12_readUnit_25 rfl <| At.sipush dX12_readUnit_26 (by decide) <| ?_
      obtain ⟨q4, hq4, h⟩ := bnd_e h
      refine At.cV0 (av := [vi 3006]) (rest := []) mv_X12_codes lk_X12_149 dX12_readUnit_29 rfl rfl sh_130 (Nat.le_of_ble_eq_true rfl) (by omega) ⟨rfl, rfl⟩ (rX12_codes hq4) <| ?_
      obtain rfl := Option.some.inj h
      exact At.vret rfl (Nat.zero_le _) (Nat.zero_le _) ⟨rfl, rfl⟩ dX12_readUnit_32
    · refine At.cV1 (av := [vi p1]) (rest := []) mv_X12_goesIn lk_X12_155 dX12_readUnit_11 rfl rfl sh_130 (Nat.le_of_ble_eq_true rfl) (by omega) ⟨rfl, rfl⟩ (rX12_goesIn hq2) <| At.bifne_f (tgt := 18) dX12_readUnit_14 (by decide) c5 <| ?_
      obtain rfl := Option.some.inj h
      exact At.vret rfl (Nat.zero_le _) (Nat.zero_le _) ⟨rfl, rfl⟩ dX12_readUnit_17
  · refine At.cV1 (av := [vi 17]) (rest := []) mv_X12_is lk_X12_132 dX12_readUnit_3 rfl rfl sh_130 (Nat.le_of_ble_eq_true rfl) (by omega) ⟨rfl, rfl⟩ (rX12_is hq1) <| At.bifeq_t (tgt := 33) dX12_readUnit_6 (by decide) c33 <| ?_
    refine At.aloadn dX12_readUnit_33 rfl <| At.bipush dX12_readUnit_34 (by decide) <| ?_
    obtain ⟨q6, hq6, h⟩ := bnd_e h
    rcases ite_e h with ⟨c32, h⟩ | ⟨c32, h⟩
    · refine At.cV1 (av := [vi 37]) (rest := []) mv_X12_is lk_X12_132 dX12_readUnit_36 rfl rfl sh_130 (Nat.le_of_ble_eq_true rfl) (by omega) ⟨rfl, rfl⟩ (rX12_is hq6) <| At.bifeq_f (tgt := 73) dX12_readUnit_39 (by decide) c32 <| ?_
      refine At.aloadn dX12_readUnit_42 rfl <| At.iloadn dX12_readUnit_43 rfl <| ?_
      obtain ⟨q7, hq7, h⟩ := bnd_e h
      rcases ite_e h with ⟨c12, h⟩ | ⟨c12, h⟩
      · refine At.cV1 (av := [vi p1]) (rest := []) mv_X12_goesIn lk_X12_155 dX12_readUnit_44 rfl rfl sh_130 (Nat.le_of_ble_eq_true rfl) (by omega) ⟨rfl, rfl⟩ (rX12_goesIn hq7) <| At.bifne_t (tgt := 51) dX12_readUnit_47 (by decide) c12 <| ?_
        refine At.aloadn dX12_readUnit_51 rfl <| At.iloadn dX12_readUnit_52 rfl <| At.iconst dX12_readUnit_53 (by decide) <| At.iadd dX12_readUnit_54 <| ?_
        obtain ⟨q8, hq8, h⟩ := bnd_e h
        refine At.cV0 (av := [vi (w32 (p1 + 1))]) (rest := []) mv_X12_readTruth lk_X12_167 dX12_readUnit_55 rfl rfl sh_130 (Nat.le_of_ble_eq_true rfl) (Nat.le_refl _) ⟨rfl, rfl⟩ (hrc.2.2.2.2.2.2 _ _ _ hq8) <| At.aloadn dX12_readUnit_58 rfl <| At.bipush dX12_readUnit_59 (by decide) <| ?_
        obtain ⟨q9, hq9, h⟩ := bnd_e h
        rcases ite_e h with ⟨c11, h⟩ | ⟨c11, h⟩
        · refine At.cV1 (av := [vi 38]) (rest := []) mv_X12_eats lk_X12_161 dX12_readUnit_61 rfl rfl sh_130 (Nat.le_of_ble_eq_true rfl) (by omega) ⟨rfl, rfl⟩ (rX12_eats hq9) <| At.bifne_t (tgt := 72) dX12_readUnit_64 (by decide) c11 <| ?_
          obtain rfl := Option.some.inj h
          exact At.vret rfl (Nat.zero_le _) (Nat.zero_le _) ⟨rfl, rfl⟩ dX12_readUnit_72
        · refine At.cV1 (av := [vi 38]) (rest := []) mv_X12_eats lk_X12_161 dX12_readUnit_61 rfl rfl sh_130 (Nat.le_of_ble_eq_true rfl) (by omega) ⟨rfl, rfl⟩ (rX12_eats hq9) <| At.bifne_f (tgt := 72) dX12_readUnit_64 (by decide) c11 <| ?_
          refine At.aloadn dX12_readUnit_67 rfl <| At.iconst dX12_readUnit_68 (by decide) <| ?_
          obtain ⟨q10, hq10, h⟩ := bnd_e h
          refine At.cV0 (av := [vi 2]) (rest := []) mv_X12_fails lk_X12_138 dX12_readUnit_69 rfl rfl sh_130 (Nat.le_of_ble_eq_true rfl) (by omega) ⟨rfl, rfl⟩ (rX12_fails hq10) <| ?_
          obtain rfl := Option.some.inj h
          exact At.vret rfl (Nat.zero_le _) (Nat.zero_le _) ⟨rfl, rfl⟩ dX12_readUnit_72
      · refine At.cV1 (av := [vi p1]) (rest := []) mv_X12_goesIn lk_X12_155 dX12_readUnit_44 rfl rfl sh_130 (Nat.le_of_ble_eq_true rfl) (by omega) ⟨rfl, rfl⟩ (rX12_goesIn hq7) <| At.bifne_f (tgt := 51) dX12_readUnit_47 (by decide) c12 <| ?_
        obtain rfl := Option.some.inj h
        exact At.vret rfl (Nat.zero_le _) (Nat.zero_le _) ⟨rfl, rfl⟩ dX12_readUnit_50
    · refine At.cV1 (av := [vi 37]) (rest := []) mv_X12_is lk_X12_132 dX12_readUnit_36 rfl rfl sh_130 (Nat.le_of_ble_eq_true rfl) (by omega) ⟨rfl, rfl⟩ (rX12_is hq6) <| At.bifeq_t (tgt := 73) dX12_readUnit_39 (by decide) c32 <| ?_
      refine At.aloadn dX12_readUnit_73 rfl <| At.iloadn dX12_readUnit_74 rfl <| ?_
      obtain ⟨q13, hq13, h⟩ := bnd_e h
      refine At.cV0 (av := [vi p1]) (rest := []) mv_X12_readSum lk_X12_158 dX12_readUnit_75 rfl rfl sh_130 (Nat.le_of_ble_eq_true rfl) (Nat.le_refl _) ⟨rfl, rfl⟩ (hrc.2.2.2.1 _ _ _ hq13) <| At.aloadn dX12_readUnit_78 rfl <| At.bipush dX12_readUnit_79 (by decide) <| ?_
      obtain ⟨q14, hq14, h⟩ := bnd_e h
      obtain ⟨q15, hj111, h⟩ := bnd_e h
      have K111 : At G mX12_readUnit (d + 1) 111 [(0, vr 130), (1, vi p1)] [vi q15] (mm q13) 0 0 (EQ none rr) := by
        refine At.istoren (ls' := [(2, vi q15), (0, vr 130), (1, vi p1)]) dX12_readUnit_111 (by decide) rfl <| At.aloadn dX12_readUnit_112 rfl <| At.bipush dX12_readUnit_113 (by decide) <| ?_
        obtain ⟨q19, hq19, h⟩ := bnd_e h
        obtain ⟨q20, hj151, h⟩ := bnd_e h
        have K151 : At G mX12_readUnit (d + 1) 151 [(0, vr 130), (1, vi p1), (2, vi q15)] [] (mm q20) 0 0 (EQ none rr) := by
          refine At.aloadn dX12_readUnit_151 rfl <| At.iloadn dX12_readUnit_152 rfl <| ?_
          obtain ⟨q30, hq30, h⟩ := bnd_e h
          refine At.cV0 (av := [vi p1]) (rest := []) mv_X12_readSum lk_X12_158 dX12_readUnit_153 rfl rfl sh_130 (Nat.le_of_ble_eq_true rfl) (Nat.le_refl _) ⟨rfl, rfl⟩ (hrc.2.2.2.1 _ _ _ hq30) <| At.aloadn dX12_readUnit_156 rfl <| At.iloadn dX12_readUnit_157 rfl <| ?_
          obtain ⟨q31, hq31, h⟩ := bnd_e h
          refine At.cV0 (av := [vi q15]) (rest := []) mv_X12_codes lk_X12_149 dX12_readUnit_158 rfl rfl sh_130 (Nat.le_of_ble_eq_true rfl) (by omega) ⟨rfl, rfl⟩ (rX12_codes hq31) <| ?_
          obtain rfl := Option.some.inj h
          exact At.vret rfl (Nat.zero_le _) (Nat.zero_le _) ⟨rfl, rfl⟩ dX12_readUnit_161
        clear h; have h := hj151; clear hj151
        rcases ite_e h with ⟨c29, h⟩ | ⟨c29, h⟩
        · refine At.cV1 (av := [vi 39]) (rest := []) mv_X12_is lk_X12_132 dX12_readUnit_115 rfl rfl sh_130 (Nat.le_of_ble_eq_true rfl) (by omega) ⟨rfl, rfl⟩ (rX12_is hq19) <| At.bifne_t (tgt := 139) dX12_readUnit_118 (by decide) c29 <| ?_
          refine At.aloadn dX12_readUnit_139 rfl <| ?_
          obtain ⟨q21, hq21, h⟩ := bnd_e h
          refine At.cV0 (av := []) (rest := []) mv_X12_next lk_X12_135 dX12_readUnit_140 rfl rfl sh_130 (Nat.le_of_ble_eq_true rfl) (by omega) ⟨rfl, rfl⟩ (rX12_next hq21) <| At.goto (tgt := 151) dX12_readUnit_143 (by decide) <| ?_
          obtain rfl := Option.some.inj h
          exact At.sub [1, 2, 0] rfl K151
        · refine At.cV1 (av := [vi 39]) (rest := []) mv_X12_is lk_X12_132 dX12_readUnit_115 rfl rfl sh_130 (Nat.le_of_ble_eq_true rfl) (by omega) ⟨rfl, rfl⟩ (rX12_is hq19) <| At.bifne_f (tgt := 139) dX12_readUnit_118 (by decide) c29 <| ?_
          refine At.aloadn dX12_readUnit_121 rfl <| At.bipush dX12_readUnit_122 (by decide) <| ?_
          obtain ⟨q22, hq22, h⟩ := bnd_e h
          rcases ite_e h with ⟨c28, h⟩ | ⟨c28, h⟩
          · refine At.cV1 (av := [vi 40]) (rest := []) mv_X12_is lk_X12_132 dX12_readUnit_124 rfl rfl sh_130 (Nat.le_of_ble_eq_true rfl) (by omega) ⟨rfl, rfl⟩ (rX12_is hq22) <| At.bifne_t (tgt := 139) dX12_readUnit_127 (by decide) c28 <| ?_
            refine At.aloadn dX12_readUnit_139 rfl <| ?_
            obtain ⟨q23, hq23, h⟩ := bnd_e h
            refine At.cV0 (av := []) (rest := []) mv_X12_next lk_X12_135 dX12_readUnit_140 rfl rfl sh_130 (Nat.le_of_ble_eq_true rfl) (by omega) ⟨rfl, rfl⟩ (rX12_next hq23) <| At.goto (tgt := 151) dX12_readUnit_143 (by decide) <| ?_
            obtain rfl := Option.some.inj h
            exact At.sub [1, 2, 0] rfl K151
          · refine At.cV1 (av := [vi 40]) (rest := []) mv_X12_is lk_X12_132 dX12_readUnit_124 rfl rfl sh_130 (Nat.le_of_ble_eq_true rfl) (by omega) ⟨rfl, rfl⟩ (rX12_is hq22) <| At.bifne_f (tgt := 139) dX12_readUnit_127 (by decide) c28 <| ?_
            refine At.aloadn dX12_readUnit_130 rfl <| At.bipush dX12_readUnit_131 (by decide) <| ?_
            obtain ⟨q24, hq24, h⟩ := bnd_e h
            rcases ite_e h with ⟨c27, h⟩ | ⟨c27, h⟩
            · refine At.cV1 (av := [vi 41]) (rest := []) mv_X12_is lk_X12_132 dX12_readUnit_133 rfl rfl sh_130 (Nat.le_of_ble_eq_true rfl) (by omega) ⟨rfl, rfl⟩ (rX12_is hq24) <| At.bifeq_f (tgt := 146) dX12_readUnit_136 (by decide) c27 <| ?_
              refine At.aloadn dX12_readUnit_139 rfl <| ?_
              obtain ⟨q25, hq25, h⟩ := bnd_e h
              refine At.cV0 (av := []) (rest := []) mv_X12_next lk_X12_135 dX12_readUnit_140 rfl rfl sh_130 (Nat.le_of_ble_eq_true rfl) (by omega) ⟨rfl, rfl⟩ (rX12_next hq25) <| At.goto (tgt := 151) dX12_readUnit_143 (by decide) <| ?_
              obtain rfl := Option.some.inj h
              exact At.sub [1, 2, 0] rfl K151
            · refine At.cV1 (av := [vi 41]) (rest := []) mv_X12_is lk_X12_132 dX12_readUnit_133 rfl rfl sh_130 (Nat.le_of_ble_eq_true rfl) (by omega) ⟨rfl, rfl⟩ (rX12_is hq24) <| At.bifeq_t (tgt := 146) dX12_readUnit_136 (by decide) c27 <| ?_
              refine At.aloadn dX12_readUnit_146 rfl <| At.iconst dX12_readUnit_147 (by decide) <| ?_
              obtain ⟨q26, hq26, h⟩ := bnd_e h
              refine At.cV0 (av := [vi 2]) (rest := []) mv_X12_fails lk_X12_138 dX12_readUnit_148 rfl rfl sh_130 (Nat.le_of_ble_eq_true rfl) (by omega) ⟨rfl, rfl⟩ (rX12_fails hq26) <| ?_
              obtain rfl := Option.some.inj h
              exact At.sub [1, 2, 0] rfl K151
      clear h; have h := hj111; clear hj111
      rcases ite_e h with ⟨c18, h⟩ | ⟨c18, h⟩
      · refine At.cV1 (av := [vi 39]) (rest := []) mv_X12_is lk_X12_132 dX12_readUnit_81 rfl rfl sh_130 (Nat.le_of_ble_eq_true rfl) (by omega) ⟨rfl, rfl⟩ (rX12_is hq14) <| At.bifeq_f (tgt := 93) dX12_readUnit_84 (by decide) c18 <| ?_
        refine At.sipush dX12_readUnit_87 (by decide) <| At.goto (tgt := 111) dX12_readUnit_90 (by decide) <| ?_
        obtain rfl := Option.some.inj h
        exact At.sub [0, 1] rfl K111
      · refine At.cV1 (av := [vi 39]) (rest := []) mv_X12_is lk_X12_132 dX12_readUnit_81 rfl rfl sh_130 (Nat.le_of_ble_eq_true rfl) (by omega) ⟨rfl, rfl⟩ (rX12_is hq14) <| At.bifeq_t (tgt := 93) dX12_readUnit_84 (by decide) c18 <| ?_
        refine At.aloadn dX12_readUnit_93 rfl <| At.bipush dX12_readUnit_94 (by decide) <| ?_
        obtain ⟨q16, hq16, h⟩ := bnd_e h
        rcases ite_e h with ⟨c17, h⟩ | ⟨c17, h⟩
        · refine At.cV1 (av := [vi 40]) (rest := []) mv_X12_is lk_X12_132 dX12_readUnit_96 rfl rfl sh_130 (Nat.le_of_ble_eq_true rfl) (by omega) ⟨rfl, rfl⟩ (rX12_is hq16) <| At.bifeq_f (tgt := 108) dX12_readUnit_99 (by decide) c17 <| ?_
          refine At.sipush dX12_readUnit_102 (by decide) <| At.goto (tgt := 111) dX12_readUnit_105 (by decide) <| ?_
          obtain rfl := Option.some.inj h
          exact At.sub [0, 1] rfl K111
        · refine At.cV1 (av := [vi 40]) (rest := []) mv_X12_is lk_X12_132 dX12_readUnit_96 rfl rfl sh_130 (Nat.le_of_ble_eq_true rfl) (by omega) ⟨rfl, rfl⟩ (rX12_is hq16) <| At.bifeq_t (tgt := 108) dX12_readUnit_99 (by decide) c17 <| ?_
          refine At.sipush dX12_readUnit_108 (by decide) <| ?_
          obtain rfl := Option.some.inj h
          exact At.sub [0, 1] rfl K111
def fX12_readBoth_L5 (rc : Nat → Int → SS → Option SS) (l1 : Int) : Nat → SS → Option (SS)
  | 0, _ => none
  | n + 1, S =>
    Option.bind (fX12_eats 15 S) fun q1 =>
    if q1.1 = true then (
      Option.bind (rc 4 l1 q1.2) fun q2 =>
      Option.bind (fX12_codes 3007 q2) fun q3 =>
      fX12_readBoth_L5 rc l1 n  q3
    ) else (
      some q1.2
    )
def fX12_readBoth (rc : Nat → Int → SS → Option SS) (p1 : Int) (S : SS) : Option SS :=
  Option.bind (rc 4 p1 S) fun q1 =>
  Option.bind (fX12_readBoth_L5 rc p1 FU  q1) fun q2 =>
  some q2
set_option maxRecDepth 100000 in
set_option maxHeartbeats 4000000 in
theorem lX12_readBoth_L5 {G : GG} {Φ : Option VV → MM → Prop} {rc : Nat → Int → SS → Option SS} {d : Nat} (hrc : RCX12_readAtom G rc d) (hd0 : 9 ≤ d) {l1 : Int} : ∀ (n : Nat) (S : SS) (q : SS), fX12_readBoth_L5 rc l1 n S = some q → At G mX12_readBoth (d + 1) 29 [] [] (mm q) 0 0 Φ → At G mX12_readBoth (d + 1) 5 [(0, vr 130), (1, vi l1)] [] (mm S) 0 0 Φ := by
  intro n
  induction n with
  | zero =>
    intro _ _ h
    cases h
  | succ n ih =>
    intro S q h K29
    unfold fX12_readBoth_L5 at h
    refine At.aloadn dX12_readBoth_5 rfl <| At.bipush dX12_readBoth_6 (by decide) <| ?_
    obtain ⟨q1, hq1, h⟩ := bnd_e h
    rcases ite_e h with ⟨c4, h⟩ | ⟨c4, h⟩
    · refine At.cV1 (av := [vi 15]) (rest := []) mv_X12_eats lk_X12_161 dX12_readBoth_8 rfl rfl sh_130 (Nat.le_of_ble_eq_true rfl) (by omega) ⟨rfl, rfl⟩ (rX12_eats hq1) <| At.bifeq_f (tgt := 29) dX12_readBoth_11 (by decide) c4 <| ?_
      refine At.aloadn dX12_readBoth_14 rfl <| At.iloadn dX12_readBoth_15 rfl <| ?_
      obtain ⟨q2, hq2, h⟩ := bnd_e h
      refine At.cV0 (av := [vi l1]) (rest := []) mv_X12_readUnit lk_X12_176 dX12_readBoth_16 rfl rfl sh_130 (Nat.le_of_ble_eq_true rfl) (Nat.le_refl _) ⟨rfl, rfl⟩ (hrc.2.2.2.2.1 _ _ _ hq2) <| At.aloadn dX12_readBoth_19 rfl <| At.sipush dX12_readBoth_20 (by decide) <| ?_
      obtain ⟨q3, hq3, h⟩ := bnd_e h
      refine At.cV0 (av := [vi 3007]) (rest := []) mv_X12_codes lk_X12_149 dX12_readBoth_23 rfl rfl sh_130 (Nat.le_of_ble_eq_true rfl) (by omega) ⟨rfl, rfl⟩ (rX12_codes hq3) <| At.goto (tgt := 5) dX12_readBoth_26 (by decide) <| ?_
      exact At.sub [0, 1] rfl (ih _ _ h K29)
    · refine At.cV1 (av := [vi 15]) (rest := []) mv_X12_eats lk_X12_161 dX12_readBoth_8 rfl rfl sh_130 (Nat.le_of_ble_eq_true rfl) (by omega) ⟨rfl, rfl⟩ (rX12_eats hq1) <| At.bifeq_t (tgt := 29) dX12_readBoth_11 (by decide) c4 <| ?_
      obtain rfl := Option.some.inj h
      exact At.sub [] rfl K29
set_option maxRecDepth 100000 in
set_option maxHeartbeats 4000000 in
theorem rX12_readBoth {G : GG} {rc : Nat → Int → SS → Option SS} {d : Nat} (hrc : RCX12_readAtom G rc d) (hd0 : 9 ≤ d) {p1 : Int} {S : SS} {rr : SS} (h : fX12_readBoth rc p1 S = some rr) : RD G mX12_readBoth (d + 1) [vr 130, vi p1] S none rr := by
  unfold fX12_readBoth at h
  refine Runs.of pl_X12 (Nat.le_of_ble_eq_true rfl) ?_
  show At G mX12_readBoth (d + 1) 0 [(0, vr 130), (1, vi p1)] [] (mm S) 0 0 (EQ none rr)
  refine At.aloadn dX12_readBoth_0 rfl <| At.iloadn dX12_readBoth_1 rfl <| ?_
  obtain ⟨q1, hq1, h⟩ := bnd_e h
  refine At.cV0 (av := [vi p1]) (rest := []) mv_X12_readUnit lk_X12_176 dX12_readBoth_2 rfl rfl sh_130 (Nat.le_of_ble_eq_true rfl) (Nat.le_refl _) ⟨rfl, rfl⟩ (hrc.2.2.2.2.1 _ _ _ hq1) <| ?_
  obtain ⟨q2, ho3, h⟩ := bnd_e h
  refine At.sub [0, 1] rfl (lX12_readBoth_L5 hrc hd0 FU _ q2 ho3 ?_)
  obtain rfl := Option.some.inj h
  exact At.vret rfl (Nat.zero_le _) (Nat.zero_le _) ⟨rfl, rfl⟩ dX12_readBoth_29
def fX12_readTruth_L5 (rc : Nat → Int → SS → Option SS) (l1 : Int) : Nat → SS → Option (SS)
  | 0, _ => none
  | n + 1, S =>
    Option.bind (fX12_eats 16 S) fun q1 =>
    if q1.1 = true then (
      Option.bind (rc 5 l1 q1.2) fun q2 =>
      Option.bind (fX12_codes 3008 q2) fun q3 =>
      fX12_readTruth_L5 rc l1 n  q3
    ) else (
      some q1.2
    )
def fX12_readTruth (rc : Nat → Int → SS → Option SS) (p1 : Int) (S : SS) : Option SS :=
  Option.bind (rc 5 p1 S) fun q1 =>
  Option.bind (fX12_readTruth_L5 rc p1 FU  q1) fun q2 =>
  some q2
set_option maxRecDepth 100000 in
set_option maxHeartbeats 4000000 in
theorem lX12_readTruth_L5 {G : GG} {Φ : Option VV → MM → Prop} {rc : Nat → Int → SS → Option SS} {d : Nat} (hrc : RCX12_readAtom G rc d) (hd0 : 9 ≤ d) {l1 : Int} : ∀ (n : Nat) (S : SS) (q : SS), fX12_readTruth_L5 rc l1 n S = some q → At G mX12_readTruth (d + 1) 29 [] [] (mm q) 0 0 Φ → At G mX12_readTruth (d + 1) 5 [(0, vr 130), (1, vi l1)] [] (mm S) 0 0 Φ := by
  intro n
  induction n with
  | zero =>
    intro _ _ h
    cases h
  | succ n ih =>
    intro S q h K29
    unfold fX12_readTruth_L5 at h
    refine At.aloadn dX12_readTruth_5 rfl <| At.bipush dX12_readTruth_6 (by decide) <| ?_
    obtain ⟨q1, hq1, h⟩ := bnd_e h
    rcases ite_e h with ⟨c4, h⟩ | ⟨c4, h⟩
    · refine At.cV1 (av := [vi 16]) (rest := []) mv_X12_eats lk_X12_161 dX12_readTruth_8 rfl rfl sh_130 (Nat.le_of_ble_eq_true rfl) (by omega) ⟨rfl, rfl⟩ (rX12_eats hq1) <| At.bifeq_f (tgt := 29) dX12_readTruth_11 (by decide) c4 <| ?_
      refine At.aloadn dX12_readTruth_14 rfl <| At.iloadn dX12_readTruth_15 rfl <| ?_
      obtain ⟨q2, hq2, h⟩ := bnd_e h
      refine At.cV0 (av := [vi l1]) (rest := []) mv_X12_readBoth lk_X12_179 dX12_readTruth_16 rfl rfl sh_130 (Nat.le_of_ble_eq_true rfl) (Nat.le_refl _) ⟨rfl, rfl⟩ (hrc.2.2.2.2.2.1 _ _ _ hq2) <| At.aloadn dX12_readTruth_19 rfl <| At.sipush dX12_readTruth_20 (by decide) <| ?_
      obtain ⟨q3, hq3, h⟩ := bnd_e h
      refine At.cV0 (av := [vi 3008]) (rest := []) mv_X12_codes lk_X12_149 dX12_readTruth_23 rfl rfl sh_130 (Nat.le_of_ble_eq_true rfl) (by omega) ⟨rfl, rfl⟩ (rX12_codes hq3) <| At.goto (tgt := 5) dX12_readTruth_26 (by decide) <| ?_
      exact At.sub [0, 1] rfl (ih _ _ h K29)
    · refine At.cV1 (av := [vi 16]) (rest := []) mv_X12_eats lk_X12_161 dX12_readTruth_8 rfl rfl sh_130 (Nat.le_of_ble_eq_true rfl) (by omega) ⟨rfl, rfl⟩ (rX12_eats hq1) <| At.bifeq_t (tgt := 29) dX12_readTruth_11 (by decide) c4 <| ?_
      obtain rfl := Option.some.inj h
      exact At.sub [] rfl K29
set_option maxRecDepth 100000 in
set_option maxHeartbeats 4000000 in
theorem rX12_readTruth {G : GG} {rc : Nat → Int → SS → Option SS} {d : Nat} (hrc : RCX12_readAtom G rc d) (hd0 : 9 ≤ d) {p1 : Int} {S : SS} {rr : SS} (h : fX12_readTruth rc p1 S = some rr) : RD G mX12_readTruth (d + 1) [vr 130, vi p1] S none rr := by
  unfold fX12_readTruth at h
  refine Runs.of pl_X12 (Nat.le_of_ble_eq_true rfl) ?_
  show At G mX12_readTruth (d + 1) 0 [(0, vr 130), (1, vi p1)] [] (mm S) 0 0 (EQ none rr)
  refine At.aloadn dX12_readTruth_0 rfl <| At.iloadn dX12_readTruth_1 rfl <| ?_
  obtain ⟨q1, hq1, h⟩ := bnd_e h
  refine At.cV0 (av := [vi p1]) (rest := []) mv_X12_readBoth lk_X12_179 dX12_readTruth_2 rfl rfl sh_130 (Nat.le_of_ble_eq_true rfl) (Nat.le_refl _) ⟨rfl, rfl⟩ (hrc.2.2.2.2.2.1 _ _ _ hq1) <| ?_
  obtain ⟨q2, ho3, h⟩ := bnd_e h
  refine At.sub [0, 1] rfl (lX12_readTruth_L5 hrc hd0 FU _ q2 ho3 ?_)
  obtain rfl := Option.some.inj h
  exact At.vret rfl (Nat.zero_le _) (Nat.zero_le _) ⟨rfl, rfl⟩ dX12_readTruth_29
def fGX12_readAtom : Nat → Nat → Int → SS → Option SS
  | 0 => fun _ _ _ => none
  | n + 1 => fun tg a0 S => if tg = 0 then fX12_readAtom (fGX12_readAtom n) a0 S else if tg = 1 then fX12_readIf (fGX12_readAtom n) a0 S else if tg = 2 then fX12_readTerm (fGX12_readAtom n) a0 S else if tg = 3 then fX12_readSum (fGX12_readAtom n) a0 S else if tg = 4 then fX12_readUnit (fGX12_readAtom n) a0 S else if tg = 5 then fX12_readBoth (fGX12_readAtom n) a0 S else fX12_readTruth (fGX12_readAtom n) a0 S
set_option maxRecDepth 100000 in
set_option maxHeartbeats 4000000 in
theorem rGX12_readAtom {G : GG} : ∀ n : Nat, RCX12_readAtom G (fGX12_readAtom n) (n + 9) := by
  intro n
  induction n with
  | zero => exact ⟨(fun _ _ _ h => by cases h), (fun _ _ _ h => by cases h), (fun _ _ _ h => by cases h), (fun _ _ _ h => by cases h), (fun _ _ _ h => by cases h), (fun _ _ _ h => by cases h), (fun _ _ _ h => by cases h)⟩
  | succ n ih =>
    have e : n + 1 + 9 = (n + 9) + 1 := by omega
    rw [e]
    exact ⟨(fun p1 S rr h => rX12_readAtom ih (Nat.le_add_left _ _) (show fX12_readAtom (fGX12_readAtom n) p1 S = some rr from h)),
      (fun p1 S rr h => rX12_readIf ih (Nat.le_add_left _ _) (show fX12_readIf (fGX12_readAtom n) p1 S = some rr from h)),
      (fun p1 S rr h => rX12_readTerm ih (Nat.le_add_left _ _) (show fX12_readTerm (fGX12_readAtom n) p1 S = some rr from h)),
      (fun p1 S rr h => rX12_readSum ih (Nat.le_add_left _ _) (show fX12_readSum (fGX12_readAtom n) p1 S = some rr from h)),
      (fun p1 S rr h => rX12_readUnit ih (Nat.le_add_left _ _) (show fX12_readUnit (fGX12_readAtom n) p1 S = some rr from h)),
      (fun p1 S rr h => rX12_readBoth ih (Nat.le_add_left _ _) (show fX12_readBoth (fGX12_readAtom n) p1 S = some rr from h)),
      (fun p1 S rr h => rX12_readTruth ih (Nat.le_add_left _ _) (show fX12_readTruth (fGX12_readAtom n) p1 S = some rr from h))⟩
def gX12_readAtom (p1 : Int) (S : SS) : Option SS := fGX12_readAtom 60 0 p1 S
set_option maxRecDepth 100000 in
set_option maxHeartbeats 4000000 in
theorem rgX12_readAtom {G : GG} {p1 : Int} {S : SS} {rr : SS} (h : gX12_readAtom p1 S = some rr) : RD G mX12_readAtom 69 [vr 130, vi p1] S none rr := (rGX12_readAtom 60).1 _ _ _ h
def gX12_readIf (p1 : Int) (S : SS) : Option SS := fGX12_readAtom 60 1 p1 S
set_option maxRecDepth 100000 in
set_option maxHeartbeats 4000000 in
theorem rgX12_readIf {G : GG} {p1 : Int} {S : SS} {rr : SS} (h : gX12_readIf p1 S = some rr) : RD G mX12_readIf 69 [vr 130, vi p1] S none rr := (rGX12_readAtom 60).2.1 _ _ _ h
def gX12_readTerm (p1 : Int) (S : SS) : Option SS := fGX12_readAtom 60 2 p1 S
set_option maxRecDepth 100000 in
set_option maxHeartbeats 4000000 in
theorem rgX12_readTerm {G : GG} {p1 : Int} {S : SS} {rr : SS} (h : gX12_readTerm p1 S = some rr) : RD G mX12_readTerm 69 [vr 130, vi p1] S none rr := (rGX12_readAtom 60).2.2.1 _ _ _ h
def gX12_readSum (p1 : Int) (S : SS) : Option SS := fGX12_readAtom 60 3 p1 S
set_option maxRecDepth 100000 in
set_option maxHeartbeats 4000000 in
theorem rgX12_readSum {G : GG} {p1 : Int} {S : SS} {rr : SS} (h : gX12_readSum p1 S = some rr) : RD G mX12_readSum 69 [vr 130, vi p1] S none rr := (rGX12_readAtom 60).2.2.2.1 _ _ _ h
def gX12_readUnit (p1 : Int) (S : SS) : Option SS := fGX12_readAtom 60 4 p1 S
set_option maxRecDepth 100000 in
set_option maxHeartbeats 4000000 in
theorem rgX12_readUnit {G : GG} {p1 : Int} {S : SS} {rr : SS} (h : gX12_readUnit p1 S = some rr) : RD G mX12_readUnit 69 [vr 130, vi p1] S none rr := (rGX12_readAtom 60).2.2.2.2.1 _ _ _ h
def gX12_readBoth (p1 : Int) (S : SS) : Option SS := fGX12_readAtom 60 5 p1 S
set_option maxRecDepth 100000 in
set_option maxHeartbeats 4000000 in
theorem rgX12_readBoth {G : GG} {p1 : Int} {S : SS} {rr : SS} (h : gX12_readBoth p1 S = some rr) : RD G mX12_readBoth 69 [vr 130, vi p1] S none rr := (rGX12_readAtom 60).2.2.2.2.2.1 _ _ _ h
def gX12_readTruth (p1 : Int) (S : SS) : Option SS := fGX12_readAtom 60 6 p1 S
set_option maxRecDepth 100000 in
set_option maxHeartbeats 4000000 in
theorem rgX12_readTruth {G : GG} {p1 : Int} {S : SS} {rr : SS} (h : gX12_readTruth p1 S = some rr) : RD G mX12_readTruth 69 [vr 130, vi p1] S none rr := (rGX12_readAtom 60).2.2.2.2.2.2 _ _ _ h
def fX12_readPart (p1 : Int) (S : SS) : Option (Bool × SS) :=
  Option.bind (fX12_eats 2 S) fun q1 =>
  if q1.1 = true then (
    Option.bind (fX12_takes 0 9 q1.2) fun q2 =>
    wrA q2.2 134 1101 (w32 (26 + p1)) q2.1 fun S3 =>
    if (S3 130 11) = 0 then (
      some (true, S3)
    ) else (
      some (false, S3)
    )
  ) else (
    Option.bind (fX12_eats 3 q1.2) fun q6 =>
    if q6.1 = true then (
      Option.bind (fX12_takes 0 9 q6.2) fun q7 =>
      wrA q7.2 134 1101 (w32 (26 + p1)) (w32 (-q7.1)) fun S8 =>
      if (S8 130 11) = 0 then (
        some (true, S8)
      ) else (
        some (false, S8)
      )
    ) else (
      Option.bind (fX12_eats 4 q6.2) fun q11 =>
      if q11.1 = true then (
        Option.bind (fX12_takes 0 3 q11.2) fun q12 =>
        wrA q12.2 134 1101 (w32 (40 + p1)) q12.1 fun S13 =>
        if (S13 130 11) = 0 then (
          some (true, S13)
        ) else (
          some (false, S13)
        )
      ) else (
        some (false, q11.2)
      )
    )
  )
set_option maxRecDepth 100000 in
set_option maxHeartbeats 4000000 in
theorem rX12_readPart {G : GG} {p1 : Int} {S : SS} {rr : (Bool × SS)} (h : fX12_readPart p1 S = some rr) : RD G mX12_readPart 9 [vr 130, vi p1] S (some (vi (bI rr.1))) rr.2 := by
  unfold fX12_readPart at h
  refine Runs.of pl_X12 (Nat.le_of_ble_eq_true rfl) ?_
  show At G mX12_readPart 9 0 [(0, vr 130), (1, vi p1)] [] (mm S) 0 0 (EQ (some (vi (bI rr.1))) rr.2)
  refine At.aloadn dX12_readPart_0 rfl <| At.iconst dX12_readPart_1 (by decide) <| ?_
  obtain ⟨q1, hq1, h⟩ := bnd_e h
  rcases ite_e h with ⟨c18, h⟩ | ⟨c18, h⟩
  · refine At.cV1 (av := [vi 2]) (rest := []) mv_X12_eats lk_X12_161 dX12_readPart_2 rfl rfl sh_130 (Nat.le_of_ble_eq_true rfl) (by decide) ⟨rfl, rfl⟩ (rX12_eats hq1) <| At.bifeq_f (tgt := 27) dX12_readPart_5 (by decide) c18 <| ?_
    refine At.aloadn dX12_readPart_8 rfl <| At.getR fl_X12_24 sh_130 (le149 sh_130) rf_130_4 dX12_readPart_9 <| At.bipush dX12_readPart_12 (by decide) <| At.iloadn dX12_readPart_14 rfl <| At.iadd dX12_readPart_15 <| At.aloadn dX12_readPart_16 rfl <| At.iconst dX12_readPart_17 (by decide) <| At.bipush dX12_readPart_18 (by decide) <| ?_
    obtain ⟨q2, hq2, h⟩ := bnd_e h
    refine At.cV1 (av := [vi 0, vi 9]) (rest := [vi (w32 (26 + p1)), vr 134]) mv_X12_takes lk_X12_182 dX12_readPart_20 rfl rfl sh_130 (Nat.le_of_ble_eq_true rfl) (by decide) ⟨rfl, rfl⟩ (rX12_takes hq2) <| ?_
    obtain ⟨S3, hS3, g4, h⟩ := wrA_e h
    refine At.iast sh_134 (le149 sh_134) g4.1 g4.2 dX12_readPart_23 <| At.nmS hS3 <| At.goto (tgt := 83) dX12_readPart_24 (by decide) <| ?_
    rcases ite_e h with ⟨c5, h⟩ | ⟨c5, h⟩
    · refine At.aloadn dX12_readPart_83 rfl <| At.getI fl_X12_126 sh_130 (le149 sh_130) dX12_readPart_84 <| At.if_ne_f (tgt := 94) dX12_readPart_87 (by decide) c5 <| ?_
      refine At.iconst dX12_readPart_90 (by decide) <| At.goto (tgt := 95) dX12_readPart_91 (by decide) <| ?_
      obtain rfl := Option.some.inj h
      exact At.zret (b := true) rfl (Nat.zero_le _) (Nat.zero_le _) ⟨rfl, rfl⟩ dX12_readPart_95
    · refine At.aloadn dX12_readPart_83 rfl <| At.getI fl_X12_126 sh_130 (le149 sh_130) dX12_readPart_84 <| At.if_ne_t (tgt := 94) dX12_readPart_87 (by decide) c5 <| ?_
      refine At.iconst dX12_readPart_94 (by decide) <| ?_
      obtain rfl := Option.some.inj h
      exact At.zret (b := false) rfl (Nat.zero_le _) (Nat.zero_le _) ⟨rfl, rfl⟩ dX12_readPart_95
  · refine At.cV1 (av := [vi 2]) (rest := []) mv_X12_eats lk_X12_161 dX12_readPart_2 rfl rfl sh_130 (Nat.le_of_ble_eq_true rfl) (by decide) ⟨rfl, rfl⟩ (rX12_eats hq1) <| At.bifeq_t (tgt := 27) dX12_readPart_5 (by decide) c18 <| ?_
    refine At.aloadn dX12_readPart_27 rfl <| At.iconst dX12_readPart_28 (by decide) <| ?_
    obtain ⟨q6, hq6, h⟩ := bnd_e h
    rcases ite_e h with ⟨c17, h⟩ | ⟨c17, h⟩
    · refine At.cV1 (av := [vi 3]) (rest := []) mv_X12_eats lk_X12_161 dX12_readPart_29 rfl rfl sh_130 (Nat.le_of_ble_eq_true rfl) (by decide) ⟨rfl, rfl⟩ (rX12_eats hq6) <| At.bifeq_f (tgt := 55) dX12_readPart_32 (by decide) c17 <| ?_
      refine At.aloadn dX12_readPart_35 rfl <| At.getR fl_X12_24 sh_130 (le149 sh_130) rf_130_4 dX12_readPart_36 <| At.bipush dX12_readPart_39 (by decide) <| At.iloadn dX12_readPart_41 rfl <| At.iadd dX12_readPart_42 <| At.aloadn dX12_readPart_43 rfl <| At.iconst dX12_readPart_44 (by decide) <| At.bipush dX12_readPart_45 (by decide) <| ?_
      obtain ⟨q7, hq7, h⟩ := bnd_e h
      refine At.cV1 (av := [vi 0, vi 9]) (rest := [vi (w32 (26 + p1)), vr 134]) mv_X12_takes lk_X12_182 dX12_readPart_47 rfl rfl sh_130 (Nat.le_of_ble_eq_true rfl) (by decide) ⟨rfl, rfl⟩ (rX12_takes hq7) <| At.ineg dX12_readPart_50 <| ?_
      obtain ⟨S8, hS8, g9, h⟩ := wrA_e h
      refine At.iast sh_134 (le149 sh_134) g9.1 g9.2 dX12_readPart_51 <| At.nmS hS8 <| At.goto (tgt := 83) dX12_readPart_52 (by decide) <| ?_
      rcases ite_e h with ⟨c10, h⟩ | ⟨c10, h⟩
      · refine At.aloadn dX12_readPart_83 rfl <| At.getI fl_X12_126 sh_130 (le149 sh_130) dX12_readPart_84 <| At.if_ne_f (tgt := 94) dX12_readPart_87 (by decide) c10 <| ?_
        refine At.iconst dX12_readPart_90 (by decide) <| At.goto (tgt := 95) dX12_readPart_91 (by decide) <| ?_
        obtain rfl := Option.some.inj h
        exact At.zret (b := true) rfl (Nat.zero_le _) (Nat.zero_le _) ⟨rfl, rfl⟩ dX12_readPart_95
      · refine At.aloadn dX12_readPart_83 rfl <| At.getI fl_X12_126 sh_130 (le149 sh_130) dX12_readPart_84 <| At.if_ne_t (tgt := 94) dX12_readPart_87 (by decide) c10 <| ?_
        refine At.iconst dX12_readPart_94 (by decide) <| ?_
        obtain rfl := Option.some.inj h
        exact At.zret (b := false) rfl (Nat.zero_le _) (Nat.zero_le _) ⟨rfl, rfl⟩ dX12_readPart_95
    · refine At.cV1 (av := [vi 3]) (rest := []) mv_X12_eats lk_X12_161 dX12_readPart_29 rfl rfl sh_130 (Nat.le_of_ble_eq_true rfl) (by decide) ⟨rfl, rfl⟩ (rX12_eats hq6) <| At.bifeq_t (tgt := 55) dX12_readPart_32 (by decide) c17 <| ?_
      refine At.aloadn dX12_readPart_55 rfl <| At.iconst dX12_readPart_56 (by decide) <| ?_
      obtain ⟨q11, hq11, h⟩ := bnd_e h
      rcases ite_e h with ⟨c16, h⟩ | ⟨c16, h⟩
      · refine At.cV1 (av := [vi 4]) (rest := []) mv_X12_eats lk_X12_161 dX12_readPart_57 rfl rfl sh_130 (Nat.le_of_ble_eq_true rfl) (by decide) ⟨rfl, rfl⟩ (rX12_eats hq11) <| At.bifeq_f (tgt := 81) dX12_readPart_60 (by decide) c16 <| ?_
        refine At.aloadn dX12_readPart_63 rfl <| At.getR fl_X12_24 sh_130 (le149 sh_130) rf_130_4 dX12_readPart_64 <| At.bipush dX12_readPart_67 (by decide) <| At.iloadn dX12_readPart_69 rfl <| At.iadd dX12_readPart_70 <| At.aloadn dX12_readPart_71 rfl <| At.iconst dX12_readPart_72 (by decide) <| At.iconst dX12_readPart_73 (by decide) <| ?_
        obtain ⟨q12, hq12, h⟩ := bnd_e h
        refine At.cV1 (av := [vi 0, vi 3]) (rest := [vi (w32 (40 + p1)), vr 134]) mv_X12_takes lk_X12_182 dX12_readPart_74 rfl rfl sh_130 (Nat.le_of_ble_eq_true rfl) (by decide) ⟨rfl, rfl⟩ (rX12_takes hq12) <| ?_
        obtain ⟨S13, hS13, g14, h⟩ := wrA_e h
        refine At.iast sh_134 (le149 sh_134) g14.1 g14.2 dX12_readPart_77 <| At.nmS hS13 <| At.goto (tgt := 83) dX12_readPart_78 (by decide) <| ?_
        rcases ite_e h with ⟨c15, h⟩ | ⟨c15, h⟩
        · refine At.aloadn dX12_readPart_83 rfl <| At.getI fl_X12_126 sh_130 (le149 sh_130) dX12_readPart_84 <| At.if_ne_f (tgt := 94) dX12_readPart_87 (by decide) c15 <| ?_
          refine At.iconst dX12_readPart_90 (by decide) <| At.goto (tgt := 95) dX12_readPart_91 (by decide) <| ?_
          obtain rfl := Option.some.inj h
          exact At.zret (b := true) rfl (Nat.zero_le _) (Nat.zero_le _) ⟨rfl, rfl⟩ dX12_readPart_95
        · refine At.aloadn dX12_readPart_83 rfl <| At.getI fl_X12_126 sh_130 (le149 sh_130) dX12_readPart_84 <| At.if_ne_t (tgt := 94) dX12_readPart_87 (by decide) c15 <| ?_
          refine At.iconst dX12_readPart_94 (by decide) <| ?_
          obtain rfl := Option.some.inj h
          exact At.zret (b := false) rfl (Nat.zero_le _) (Nat.zero_le _) ⟨rfl, rfl⟩ dX12_readPart_95
      · refine At.cV1 (av := [vi 4]) (rest := []) mv_X12_eats lk_X12_161 dX12_readPart_57 rfl rfl sh_130 (Nat.le_of_ble_eq_true rfl) (by decide) ⟨rfl, rfl⟩ (rX12_eats hq11) <| At.bifeq_t (tgt := 81) dX12_readPart_60 (by decide) c16 <| ?_
        refine At.iconst dX12_readPart_81 (by decide) <| ?_
        obtain rfl := Option.some.inj h
        exact At.zret (b := false) rfl (Nat.zero_le _) (Nat.zero_le _) ⟨rfl, rfl⟩ dX12_readPart_82
def fX12_readStreet_L104 (l1 : Int) : Nat → SS → Option (SS)
  | 0, _ => none
  | n + 1, S =>
    if (S 130 11) = 0 then (
      Option.bind (fX12_readPart l1 S) fun q1 =>
      if q1.1 = true then (
        fX12_readStreet_L104 l1 n  q1.2
      ) else (
        some q1.2
      )
    ) else (
      some S
    )
def fX12_readStreet (S : SS) : Option SS :=
  rdA S 134 1101 2 fun v1 =>
  Option.bind (
    if v1 = 8 then (
      Option.bind (fX12_fails 4 S) fun q4 =>
      some q4
    ) else (
      some S
    )
    : Option (SS)) fun q3 =>
  if (q3 130 11) = 0 then (
    Option.bind (fX12_next  q3) fun q6 =>
    rdA q6 134 1101 1 fun v7 =>
    Option.bind (fX12_takes 0 (w32 (v7 - 1)) q6) fun q9 =>
    wrA q9.2 134 1101 (w32 (10 + v1)) q9.1 fun S10 =>
    Option.bind (fX12_is 23 S10) fun q12 =>
    Option.bind (
      if q12 = true then (
        rdA S10 134 1101 (w32 (10 + v1)) fun v14 =>
        if (S10 130 10) = v14 then (
          Option.bind (fX12_fails 3 S10) fun q16 =>
          some q16
        ) else (
          some S10
        )
      ) else (
        some S10
      )
      : Option (SS)) fun q13 =>
    rdA q13 134 1101 1 fun v19 =>
    Option.bind (fX12_takes 0 (w32 (v19 - 1)) q13) fun q21 =>
    wrA q21.2 134 1101 (w32 (18 + v1)) q21.1 fun S22 =>
    Option.bind (fX12_readStreet_L104 v1 FU  S22) fun q24 =>
    if (q24 130 11) = 0 then (
      rdA q24 134 1101 2 fun v26 =>
      wrA q24 134 1101 2 (w32 (v26 + 1)) fun S28 =>
      some S28
    ) else (
      some q24
    )
  ) else (
    some q3
  )
set_option maxRecDepth 100000 in
set_option maxHeartbeats 4000000 in
theorem lX12_readStreet_L104 {G : GG} {Φ : Option VV → MM → Prop} {l1 : Int} : ∀ (n : Nat) (S : SS) (q : SS), fX12_readStreet_L104 l1 n S = some q → At G mX12_readStreet 10 122 [(0, vr 130)] [] (mm q) 0 0 Φ → At G mX12_readStreet 10 104 [(0, vr 130), (1, vi l1)] [] (mm S) 0 0 Φ := by
  intro n
  induction n with
  | zero =>
    intro _ _ h
    cases h
  | succ n ih =>
    intro S q h K122
    unfold fX12_readStreet_L104 at h
    rcases ite_e h with ⟨c3, h⟩ | ⟨c3, h⟩
    · refine At.aloadn dX12_readStreet_104 rfl <| At.getI fl_X12_126 sh_130 (le149 sh_130) dX12_readStreet_105 <| At.if_ne_f (tgt := 122) dX12_readStreet_108 (by decide) c3 <| ?_
      refine At.aloadn dX12_readStreet_111 rfl <| At.iloadn dX12_readStreet_112 rfl <| ?_
      obtain ⟨q1, hq1, h⟩ := bnd_e h
      rcases ite_e h with ⟨c2, h⟩ | ⟨c2, h⟩
      · refine At.cV1 (av := [vi l1]) (rest := []) mv_X12_readPart lk_X12_186 dX12_readStreet_113 rfl rfl sh_130 (Nat.le_of_ble_eq_true rfl) (by decide) ⟨rfl, rfl⟩ (rX12_readPart hq1) <| At.bifeq_f (tgt := 122) dX12_readStreet_116 (by decide) c2 <| ?_
        refine At.goto (tgt := 104) dX12_readStreet_119 (by decide) <| ?_
        exact At.sub [0, 1] rfl (ih _ _ h K122)
      · refine At.cV1 (av := [vi l1]) (rest := []) mv_X12_readPart lk_X12_186 dX12_readStreet_113 rfl rfl sh_130 (Nat.le_of_ble_eq_true rfl) (by decide) ⟨rfl, rfl⟩ (rX12_readPart hq1) <| At.bifeq_t (tgt := 122) dX12_readStreet_116 (by decide) c2 <| ?_
        obtain rfl := Option.some.inj h
        exact At.sub [0] rfl K122
    · refine At.aloadn dX12_readStreet_104 rfl <| At.getI fl_X12_126 sh_130 (le149 sh_130) dX12_readStreet_105 <| At.if_ne_t (tgt := 122) dX12_readStreet_108 (by decide) c3 <| ?_
      obtain rfl := Option.some.inj h
      exact At.sub [0] rfl K122
set_option maxRecDepth 100000 in
set_option maxHeartbeats 4000000 in
theorem rX12_readStreet {G : GG} {S : SS} {rr : SS} (h : fX12_readStreet  S = some rr) : RD G mX12_readStreet 10 [vr 130] S none rr := by
  unfold fX12_readStreet at h
  refine Runs.of pl_X12 (Nat.le_of_ble_eq_true rfl) ?_
  show At G mX12_readStreet 10 0 [(0, vr 130)] [] (mm S) 0 0 (EQ none rr)
  refine At.aloadn dX12_readStreet_0 rfl <| At.getR fl_X12_24 sh_130 (le149 sh_130) rf_130_4 dX12_readStreet_1 <| At.iconst dX12_readStreet_4 (by decide) <| ?_
  obtain ⟨v1, hv1, g2, h⟩ := rdA_e h
  obtain ⟨q3, hj18, h⟩ := bnd_e h
  have K18 : At G mX12_readStreet 10 18 [(0, vr 130), (1, vi v1)] [] (mm q3) 0 0 (EQ none rr) := by
    rcases ite_e h with ⟨c31, h⟩ | ⟨c31, h⟩
    · refine At.aloadn dX12_readStreet_18 rfl <| At.getI fl_X12_126 sh_130 (le149 sh_130) dX12_readStreet_19 <| At.if_eq_t (tgt := 26) dX12_readStreet_22 (by decide) c31 <| ?_
      refine At.aloadn dX12_readStreet_26 rfl <| ?_
      obtain ⟨q6, hq6, h⟩ := bnd_e h
      refine At.cV0 (av := []) (rest := []) mv_X12_next lk_X12_135 dX12_readStreet_27 rfl rfl sh_130 (Nat.le_of_ble_eq_true rfl) (by decide) ⟨rfl, rfl⟩ (rX12_next hq6) <| At.aloadn dX12_readStreet_30 rfl <| At.getR fl_X12_24 sh_130 (le149 sh_130) rf_130_4 dX12_readStreet_31 <| At.bipush dX12_readStreet_34 (by decide) <| At.iloadn dX12_readStreet_36 rfl <| At.iadd dX12_readStreet_37 <| At.aloadn dX12_readStreet_38 rfl <| At.iconst dX12_readStreet_39 (by decide) <| At.aloadn dX12_readStreet_40 rfl <| At.getR fl_X12_24 sh_130 (le149 sh_130) rf_130_4 dX12_readStreet_41 <| At.iconst dX12_readStreet_44 (by decide) <| ?_
      obtain ⟨v7, hv7, g8, h⟩ := rdA_e h
      refine At.iald sh_134 (le149 sh_134) g8.1 g8.2 dX12_readStreet_45 <| At.nm hv7 <| At.iconst dX12_readStreet_46 (by decide) <| At.isub dX12_readStreet_47 <| ?_
      obtain ⟨q9, hq9, h⟩ := bnd_e h
      refine At.cV1 (av := [vi 0, vi (w32 (v7 - 1))]) (rest := [vi (w32 (10 + v1)), vr 134]) mv_X12_takes lk_X12_182 dX12_readStreet_48 rfl rfl sh_130 (Nat.le_of_ble_eq_true rfl) (by decide) ⟨rfl, rfl⟩ (rX12_takes hq9) <| ?_
      obtain ⟨S10, hS10, g11, h⟩ := wrA_e h
      refine At.iast sh_134 (le149 sh_134) g11.1 g11.2 dX12_readStreet_51 <| At.nmS hS10 <| At.aloadn dX12_readStreet_52 rfl <| At.bipush dX12_readStreet_53 (by decide) <| ?_
      obtain ⟨q12, hq12, h⟩ := bnd_e h
      obtain ⟨q13, hj82, h⟩ := bnd_e h
      have K82 : At G mX12_readStreet 10 82 [(0, vr 130), (1, vi v1)] [] (mm q13) 0 0 (EQ none rr) := by
        refine At.aloadn dX12_readStreet_82 rfl <| At.getR fl_X12_24 sh_130 (le149 sh_130) rf_130_4 dX12_readStreet_83 <| At.bipush dX12_readStreet_86 (by decide) <| At.iloadn dX12_readStreet_88 rfl <| At.iadd dX12_readStreet_89 <| At.aloadn dX12_readStreet_90 rfl <| At.iconst dX12_readStreet_91 (by decide) <| At.aloadn dX12_readStreet_92 rfl <| At.getR fl_X12_24 sh_130 (le149 sh_130) rf_130_4 dX12_readStreet_93 <| At.iconst dX12_readStreet_96 (by decide) <| ?_
        obtain ⟨v19, hv19, g20, h⟩ := rdA_e h
        refine At.iald sh_134 (le149 sh_134) g20.1 g20.2 dX12_readStreet_97 <| At.nm hv19 <| At.iconst dX12_readStreet_98 (by decide) <| At.isub dX12_readStreet_99 <| ?_
        obtain ⟨q21, hq21, h⟩ := bnd_e h
        refine At.cV1 (av := [vi 0, vi (w32 (v19 - 1))]) (rest := [vi (w32 (18 + v1)), vr 134]) mv_X12_takes lk_X12_182 dX12_readStreet_100 rfl rfl sh_130 (Nat.le_of_ble_eq_true rfl) (by decide) ⟨rfl, rfl⟩ (rX12_takes hq21) <| ?_
        obtain ⟨S22, hS22, g23, h⟩ := wrA_e h
        refine At.iast sh_134 (le149 sh_134) g23.1 g23.2 dX12_readStreet_103 <| At.nmS hS22 <| ?_
        obtain ⟨q24, ho25, h⟩ := bnd_e h
        refine At.sub [0, 1] rfl (lX12_readStreet_L104 FU _ q24 ho25 ?_)
        rcases ite_e h with ⟨c30, h⟩ | ⟨c30, h⟩
        · refine At.aloadn dX12_readStreet_122 rfl <| At.getI fl_X12_126 sh_130 (le149 sh_130) dX12_readStreet_123 <| At.if_ne_f (tgt := 139) dX12_readStreet_126 (by decide) c30 <| ?_
          refine At.aloadn dX12_readStreet_129 rfl <| At.getR fl_X12_24 sh_130 (le149 sh_130) rf_130_4 dX12_readStreet_130 <| At.iconst dX12_readStreet_133 (by decide) <| At.dup2 rfl rfl dX12_readStreet_134 <| ?_
          obtain ⟨v26, hv26, g27, h⟩ := rdA_e h
          refine At.iald sh_134 (le149 sh_134) g27.1 g27.2 dX12_readStreet_135 <| At.nm hv26 <| At.iconst dX12_readStreet_136 (by decide) <| At.iadd dX12_readStreet_137 <| ?_
          obtain ⟨S28, hS28, g29, h⟩ := wrA_e h
          refine At.iast sh_134 (le149 sh_134) g29.1 g29.2 dX12_readStreet_138 <| At.nmS hS28 <| ?_
          obtain rfl := Option.some.inj h
          exact At.vret rfl (Nat.zero_le _) (Nat.zero_le _) ⟨rfl, rfl⟩ dX12_readStreet_139
        · refine At.aloadn dX12_readStreet_122 rfl <| At.getI fl_X12_126 sh_130 (le149 sh_130) dX12_readStreet_123 <| At.if_ne_t (tgt := 139) dX12_readStreet_126 (by decide) c30 <| ?_
          obtain rfl := Option.some.inj h
          exact At.vret rfl (Nat.zero_le _) (Nat.zero_le _) ⟨rfl, rfl⟩ dX12_readStreet_139
      clear h; have h := hj82; clear hj82
      rcases ite_e h with ⟨c18, h⟩ | ⟨c18, h⟩
      · refine At.cV1 (av := [vi 23]) (rest := []) mv_X12_is lk_X12_132 dX12_readStreet_55 rfl rfl sh_130 (Nat.le_of_ble_eq_true rfl) (by decide) ⟨rfl, rfl⟩ (rX12_is hq12) <| At.bifeq_f (tgt := 82) dX12_readStreet_58 (by decide) c18 <| ?_
        refine At.aloadn dX12_readStreet_61 rfl <| At.getI fl_X12_121 sh_130 (le149 sh_130) dX12_readStreet_62 <| At.aloadn dX12_readStreet_65 rfl <| At.getR fl_X12_24 sh_130 (le149 sh_130) rf_130_4 dX12_readStreet_66 <| At.bipush dX12_readStreet_69 (by decide) <| At.iloadn dX12_readStreet_71 rfl <| At.iadd dX12_readStreet_72 <| ?_
        obtain ⟨v14, hv14, g15, h⟩ := rdA_e h
        rcases ite_e h with ⟨c17, h⟩ | ⟨c17, h⟩
        · refine At.iald sh_134 (le149 sh_134) g15.1 g15.2 dX12_readStreet_73 <| At.nm hv14 <| At.icmp_ne_f (tgt := 82) dX12_readStreet_74 (by decide) c17 <| ?_
          refine At.aloadn dX12_readStreet_77 rfl <| At.iconst dX12_readStreet_78 (by decide) <| ?_
          obtain ⟨q16, hq16, h⟩ := bnd_e h
          refine At.cV0 (av := [vi 3]) (rest := []) mv_X12_fails lk_X12_138 dX12_readStreet_79 rfl rfl sh_130 (Nat.le_of_ble_eq_true rfl) (by decide) ⟨rfl, rfl⟩ (rX12_fails hq16) <| ?_
          obtain rfl := Option.some.inj h
          exact At.sub [0, 1] rfl K82
        · refine At.iald sh_134 (le149 sh_134) g15.1 g15.2 dX12_readStreet_73 <| At.nm hv14 <| At.icmp_ne_t (tgt := 82) dX12_readStreet_74 (by decide) c17 <| ?_
          obtain rfl := Option.some.inj h
          exact At.sub [0, 1] rfl K82
      · refine At.cV1 (av := [vi 23]) (rest := []) mv_X12_is lk_X12_132 dX12_readStreet_55 rfl rfl sh_130 (Nat.le_of_ble_eq_true rfl) (by decide) ⟨rfl, rfl⟩ (rX12_is hq12) <| At.bifeq_t (tgt := 82) dX12_readStreet_58 (by decide) c18 <| ?_
        obtain rfl := Option.some.inj h
        exact At.sub [0, 1] rfl K82
    · refine At.aloadn dX12_readStreet_18 rfl <| At.getI fl_X12_126 sh_130 (le149 sh_130) dX12_readStreet_19 <| At.if_eq_f (tgt := 26) dX12_readStreet_22 (by decide) c31 <| ?_
      obtain rfl := Option.some.inj h
      exact At.vret rfl (Nat.zero_le _) (Nat.zero_le _) ⟨rfl, rfl⟩ dX12_readStreet_25
  clear h; have h := hj18; clear hj18
  rcases ite_e h with ⟨c5, h⟩ | ⟨c5, h⟩
  · refine At.iald sh_134 (le149 sh_134) g2.1 g2.2 dX12_readStreet_5 <| At.nm hv1 <| At.istoren (ls' := [(1, vi v1), (0, vr 130)]) dX12_readStreet_6 (by decide) rfl <| At.iloadn dX12_readStreet_7 rfl <| At.bipush dX12_readStreet_8 (by decide) <| At.icmp_ne_f (tgt := 18) dX12_readStreet_10 (by decide) c5 <| ?_
    refine At.aloadn dX12_readStreet_13 rfl <| At.iconst dX12_readStreet_14 (by decide) <| ?_
    obtain ⟨q4, hq4, h⟩ := bnd_e h
    refine At.cV0 (av := [vi 4]) (rest := []) mv_X12_fails lk_X12_138 dX12_readStreet_15 rfl rfl sh_130 (Nat.le_of_ble_eq_true rfl) (by decide) ⟨rfl, rfl⟩ (rX12_fails hq4) <| ?_
    obtain rfl := Option.some.inj h
    exact At.sub [1, 0] rfl K18
  · refine At.iald sh_134 (le149 sh_134) g2.1 g2.2 dX12_readStreet_5 <| At.nm hv1 <| At.istoren (ls' := [(1, vi v1), (0, vr 130)]) dX12_readStreet_6 (by decide) rfl <| At.iloadn dX12_readStreet_7 rfl <| At.bipush dX12_readStreet_8 (by decide) <| At.icmp_ne_t (tgt := 18) dX12_readStreet_10 (by decide) c5 <| ?_
    obtain rfl := Option.some.inj h
    exact At.sub [1, 0] rfl K18
def fX12_readGoer (S : SS) : Option SS :=
  rdA S 134 1101 3 fun v1 =>
  Option.bind (
    if v1 = 3 then (
      Option.bind (fX12_fails 4 S) fun q4 =>
      some q4
    ) else (
      some S
    )
    : Option (SS)) fun q3 =>
  if (q3 130 11) = 0 then (
    Option.bind (fX12_next  q3) fun q6 =>
    rdA q6 134 1101 1 fun v7 =>
    Option.bind (fX12_takes 0 (w32 (v7 - 1)) q6) fun q9 =>
    wrA q9.2 134 1101 (w32 (34 + v1)) q9.1 fun S10 =>
    Option.bind (fX12_eats 6 S10) fun q12 =>
    Option.bind (
      if q12.1 = true then (
        some q12.2
      ) else (
        Option.bind (fX12_fails 2 q12.2) fun q14 =>
        some q14
      )
      : Option (SS)) fun q13 =>
    Option.bind (fX12_takes 0 19 q13) fun q16 =>
    wrA q16.2 134 1101 (w32 (37 + v1)) q16.1 fun S17 =>
    if (S17 130 11) = 0 then (
      rdA S17 134 1101 3 fun v19 =>
      wrA S17 134 1101 3 (w32 (v19 + 1)) fun S21 =>
      some S21
    ) else (
      some S17
    )
  ) else (
    some q3
  )
set_option maxRecDepth 100000 in
set_option maxHeartbeats 4000000 in
theorem rX12_readGoer {G : GG} {S : SS} {rr : SS} (h : fX12_readGoer  S = some rr) : RD G mX12_readGoer 9 [vr 130] S none rr := by
  unfold fX12_readGoer at h
  refine Runs.of pl_X12 (Nat.le_of_ble_eq_true rfl) ?_
  show At G mX12_readGoer 9 0 [(0, vr 130)] [] (mm S) 0 0 (EQ none rr)
  refine At.aloadn dX12_readGoer_0 rfl <| At.getR fl_X12_24 sh_130 (le149 sh_130) rf_130_4 dX12_readGoer_1 <| At.iconst dX12_readGoer_4 (by decide) <| ?_
  obtain ⟨v1, hv1, g2, h⟩ := rdA_e h
  obtain ⟨q3, hj17, h⟩ := bnd_e h
  have K17 : At G mX12_readGoer 9 17 [(0, vr 130), (1, vi v1)] [] (mm q3) 0 0 (EQ none rr) := by
    rcases ite_e h with ⟨c24, h⟩ | ⟨c24, h⟩
    · refine At.aloadn dX12_readGoer_17 rfl <| At.getI fl_X12_126 sh_130 (le149 sh_130) dX12_readGoer_18 <| At.if_eq_t (tgt := 25) dX12_readGoer_21 (by decide) c24 <| ?_
      refine At.aloadn dX12_readGoer_25 rfl <| ?_
      obtain ⟨q6, hq6, h⟩ := bnd_e h
      refine At.cV0 (av := []) (rest := []) mv_X12_next lk_X12_135 dX12_readGoer_26 rfl rfl sh_130 (Nat.le_of_ble_eq_true rfl) (by decide) ⟨rfl, rfl⟩ (rX12_next hq6) <| At.aloadn dX12_readGoer_29 rfl <| At.getR fl_X12_24 sh_130 (le149 sh_130) rf_130_4 dX12_readGoer_30 <| At.bipush dX12_readGoer_33 (by decide) <| At.iloadn dX12_readGoer_35 rfl <| At.iadd dX12_readGoer_36 <| At.aloadn dX12_readGoer_37 rfl <| At.iconst dX12_readGoer_38 (by decide) <| At.aloadn dX12_readGoer_39 rfl <| At.getR fl_X12_24 sh_130 (le149 sh_130) rf_130_4 dX12_readGoer_40 <| At.iconst dX12_readGoer_43 (by decide) <| ?_
      obtain ⟨v7, hv7, g8, h⟩ := rdA_e h
      refine At.iald sh_134 (le149 sh_134) g8.1 g8.2 dX12_readGoer_44 <| At.nm hv7 <| At.iconst dX12_readGoer_45 (by decide) <| At.isub dX12_readGoer_46 <| ?_
      obtain ⟨q9, hq9, h⟩ := bnd_e h
      refine At.cV1 (av := [vi 0, vi (w32 (v7 - 1))]) (rest := [vi (w32 (34 + v1)), vr 134]) mv_X12_takes lk_X12_182 dX12_readGoer_47 rfl rfl sh_130 (Nat.le_of_ble_eq_true rfl) (by decide) ⟨rfl, rfl⟩ (rX12_takes hq9) <| ?_
      obtain ⟨S10, hS10, g11, h⟩ := wrA_e h
      refine At.iast sh_134 (le149 sh_134) g11.1 g11.2 dX12_readGoer_50 <| At.nmS hS10 <| At.aloadn dX12_readGoer_51 rfl <| At.bipush dX12_readGoer_52 (by decide) <| ?_
      obtain ⟨q12, hq12, h⟩ := bnd_e h
      obtain ⟨q13, hj65, h⟩ := bnd_e h
      have K65 : At G mX12_readGoer 9 65 [(0, vr 130), (1, vi v1)] [] (mm q13) 0 0 (EQ none rr) := by
        refine At.aloadn dX12_readGoer_65 rfl <| At.getR fl_X12_24 sh_130 (le149 sh_130) rf_130_4 dX12_readGoer_66 <| At.bipush dX12_readGoer_69 (by decide) <| At.iloadn dX12_readGoer_71 rfl <| At.iadd dX12_readGoer_72 <| At.aloadn dX12_readGoer_73 rfl <| At.iconst dX12_readGoer_74 (by decide) <| At.bipush dX12_readGoer_75 (by decide) <| ?_
        obtain ⟨q16, hq16, h⟩ := bnd_e h
        refine At.cV1 (av := [vi 0, vi 19]) (rest := [vi (w32 (37 + v1)), vr 134]) mv_X12_takes lk_X12_182 dX12_readGoer_77 rfl rfl sh_130 (Nat.le_of_ble_eq_true rfl) (by decide) ⟨rfl, rfl⟩ (rX12_takes hq16) <| ?_
        obtain ⟨S17, hS17, g18, h⟩ := wrA_e h
        rcases ite_e h with ⟨c23, h⟩ | ⟨c23, h⟩
        · refine At.iast sh_134 (le149 sh_134) g18.1 g18.2 dX12_readGoer_80 <| At.nmS hS17 <| At.aloadn dX12_readGoer_81 rfl <| At.getI fl_X12_126 sh_130 (le149 sh_130) dX12_readGoer_82 <| At.if_ne_f (tgt := 98) dX12_readGoer_85 (by decide) c23 <| ?_
          refine At.aloadn dX12_readGoer_88 rfl <| At.getR fl_X12_24 sh_130 (le149 sh_130) rf_130_4 dX12_readGoer_89 <| At.iconst dX12_readGoer_92 (by decide) <| At.dup2 rfl rfl dX12_readGoer_93 <| ?_
          obtain ⟨v19, hv19, g20, h⟩ := rdA_e h
          refine At.iald sh_134 (le149 sh_134) g20.1 g20.2 dX12_readGoer_94 <| At.nm hv19 <| At.iconst dX12_readGoer_95 (by decide) <| At.iadd dX12_readGoer_96 <| ?_
          obtain ⟨S21, hS21, g22, h⟩ := wrA_e h
          refine At.iast sh_134 (le149 sh_134) g22.1 g22.2 dX12_readGoer_97 <| At.nmS hS21 <| ?_
          obtain rfl := Option.some.inj h
          exact At.vret rfl (Nat.zero_le _) (Nat.zero_le _) ⟨rfl, rfl⟩ dX12_readGoer_98
        · refine At.iast sh_134 (le149 sh_134) g18.1 g18.2 dX12_readGoer_80 <| At.nmS hS17 <| At.aloadn dX12_readGoer_81 rfl <| At.getI fl_X12_126 sh_130 (le149 sh_130) dX12_readGoer_82 <| At.if_ne_t (tgt := 98) dX12_readGoer_85 (by decide) c23 <| ?_
          obtain rfl := Option.some.inj h
          exact At.vret rfl (Nat.zero_le _) (Nat.zero_le _) ⟨rfl, rfl⟩ dX12_readGoer_98
      clear h; have h := hj65; clear hj65
      rcases ite_e h with ⟨c15, h⟩ | ⟨c15, h⟩
      · refine At.cV1 (av := [vi 6]) (rest := []) mv_X12_eats lk_X12_161 dX12_readGoer_54 rfl rfl sh_130 (Nat.le_of_ble_eq_true rfl) (by decide) ⟨rfl, rfl⟩ (rX12_eats hq12) <| At.bifne_t (tgt := 65) dX12_readGoer_57 (by decide) c15 <| ?_
        obtain rfl := Option.some.inj h
        exact At.sub [0, 1] rfl K65
      · refine At.cV1 (av := [vi 6]) (rest := []) mv_X12_eats lk_X12_161 dX12_readGoer_54 rfl rfl sh_130 (Nat.le_of_ble_eq_true rfl) (by decide) ⟨rfl, rfl⟩ (rX12_eats hq12) <| At.bifne_f (tgt := 65) dX12_readGoer_57 (by decide) c15 <| ?_
        refine At.aloadn dX12_readGoer_60 rfl <| At.iconst dX12_readGoer_61 (by decide) <| ?_
        obtain ⟨q14, hq14, h⟩ := bnd_e h
        refine At.cV0 (av := [vi 2]) (rest := []) mv_X12_fails lk_X12_138 dX12_readGoer_62 rfl rfl sh_130 (Nat.le_of_ble_eq_true rfl) (by decide) ⟨rfl, rfl⟩ (rX12_fails hq14) <| ?_
        obtain rfl := Option.some.inj h
        exact At.sub [0, 1] rfl K65
    · refine At.aloadn dX12_readGoer_17 rfl <| At.getI fl_X12_126 sh_130 (le149 sh_130) dX12_readGoer_18 <| At.if_eq_f (tgt := 25) dX12_readGoer_21 (by decide) c24 <| ?_
      obtain rfl := Option.some.inj h
      exact At.vret rfl (Nat.zero_le _) (Nat.zero_le _) ⟨rfl, rfl⟩ dX12_readGoer_24
  clear h; have h := hj17; clear hj17
  rcases ite_e h with ⟨c5, h⟩ | ⟨c5, h⟩
  · refine At.iald sh_134 (le149 sh_134) g2.1 g2.2 dX12_readGoer_5 <| At.nm hv1 <| At.istoren (ls' := [(1, vi v1), (0, vr 130)]) dX12_readGoer_6 (by decide) rfl <| At.iloadn dX12_readGoer_7 rfl <| At.iconst dX12_readGoer_8 (by decide) <| At.icmp_ne_f (tgt := 17) dX12_readGoer_9 (by decide) c5 <| ?_
    refine At.aloadn dX12_readGoer_12 rfl <| At.iconst dX12_readGoer_13 (by decide) <| ?_
    obtain ⟨q4, hq4, h⟩ := bnd_e h
    refine At.cV0 (av := [vi 4]) (rest := []) mv_X12_fails lk_X12_138 dX12_readGoer_14 rfl rfl sh_130 (Nat.le_of_ble_eq_true rfl) (by decide) ⟨rfl, rfl⟩ (rX12_fails hq4) <| ?_
    obtain rfl := Option.some.inj h
    exact At.sub [1, 0] rfl K17
  · refine At.iald sh_134 (le149 sh_134) g2.1 g2.2 dX12_readGoer_5 <| At.nm hv1 <| At.istoren (ls' := [(1, vi v1), (0, vr 130)]) dX12_readGoer_6 (by decide) rfl <| At.iloadn dX12_readGoer_7 rfl <| At.iconst dX12_readGoer_8 (by decide) <| At.icmp_ne_t (tgt := 17) dX12_readGoer_9 (by decide) c5 <| ?_
    obtain rfl := Option.some.inj h
    exact At.sub [1, 0] rfl K17
def fX12_readLaw (p1 : Int) (S : SS) : Option SS :=
  Option.bind (fX12_next  S) fun q1 =>
  Option.bind (fX12_eats 31 q1) fun q2 =>
  Option.bind (
    if q2.1 = true then (
      some q2.2
    ) else (
      Option.bind (fX12_fails 2 q2.2) fun q4 =>
      some q4
    )
    : Option (SS)) fun q3 =>
  rdA q3 134 1101 200 fun v6 =>
  lt (up q3 130 15 p1) fun S8 =>
  Option.bind (
    if p1 = 0 then (
      Option.bind (gX12_readSum 0 S8) fun q10 =>
      some q10
    ) else (
      Option.bind (gX12_readTruth 0 S8) fun q11 =>
      some q11
    )
    : Option (SS)) fun q9 =>
  if (q9 130 11) = 0 then (
    wrA q9 134 1101 (w32 (4 + p1)) 1 fun S13 =>
    wrA S13 134 1101 (w32 (6 + p1)) v6 fun S15 =>
    rdA S15 134 1101 200 fun v17 =>
    wrA S15 134 1101 (w32 (8 + p1)) (w32 (v17 - v6)) fun S19 =>
    some S19
  ) else (
    some q9
  )
set_option maxRecDepth 100000 in
set_option maxHeartbeats 4000000 in
theorem rX12_readLaw {G : GG} {p1 : Int} {S : SS} {rr : SS} (h : fX12_readLaw p1 S = some rr) : RD G mX12_readLaw 70 [vr 130, vi p1] S none rr := by
  unfold fX12_readLaw at h
  refine Runs.of pl_X12 (Nat.le_of_ble_eq_true rfl) ?_
  show At G mX12_readLaw 70 0 [(0, vr 130), (1, vi p1)] [] (mm S) 0 0 (EQ none rr)
  refine At.aloadn dX12_readLaw_0 rfl <| ?_
  obtain ⟨q1, hq1, h⟩ := bnd_e h
  refine At.cV0 (av := []) (rest := []) mv_X12_next lk_X12_135 dX12_readLaw_1 rfl rfl sh_130 (Nat.le_of_ble_eq_true rfl) (by decide) ⟨rfl, rfl⟩ (rX12_next hq1) <| At.aloadn dX12_readLaw_4 rfl <| At.bipush dX12_readLaw_5 (by decide) <| ?_
  obtain ⟨q2, hq2, h⟩ := bnd_e h
  obtain ⟨q3, hj18, h⟩ := bnd_e h
  have K18 : At G mX12_readLaw 70 18 [(0, vr 130), (1, vi p1)] [] (mm q3) 0 0 (EQ none rr) := by
    refine At.aloadn dX12_readLaw_18 rfl <| At.getR fl_X12_24 sh_130 (le149 sh_130) rf_130_4 dX12_readLaw_19 <| At.sipush dX12_readLaw_22 (by decide) <| ?_
    obtain ⟨v6, hv6, g7, h⟩ := rdA_e h
    refine At.iald sh_134 (le149 sh_134) g7.1 g7.2 dX12_readLaw_25 <| At.nm hv6 <| At.istoren (ls' := [(2, vi v6), (0, vr 130), (1, vi p1)]) dX12_readLaw_26 (by decide) rfl <| At.aloadn dX12_readLaw_27 rfl <| At.iloadn dX12_readLaw_28 rfl <| ?_
    obtain ⟨S8, hS8, h⟩ := lt_e h
    obtain ⟨q9, hj49, h⟩ := bnd_e h
    have K49 : At G mX12_readLaw 70 49 [(0, vr 130), (1, vi p1), (2, vi v6)] [] (mm q9) 0 0 (EQ none rr) := by
      rcases ite_e h with ⟨c21, h⟩ | ⟨c21, h⟩
      · refine At.aloadn dX12_readLaw_49 rfl <| At.getI fl_X12_126 sh_130 (le149 sh_130) dX12_readLaw_50 <| At.if_eq_t (tgt := 57) dX12_readLaw_53 (by decide) c21 <| ?_
        refine At.aloadn dX12_readLaw_57 rfl <| At.getR fl_X12_24 sh_130 (le149 sh_130) rf_130_4 dX12_readLaw_58 <| At.iconst dX12_readLaw_61 (by decide) <| At.iloadn dX12_readLaw_62 rfl <| At.iadd dX12_readLaw_63 <| At.iconst dX12_readLaw_64 (by decide) <| ?_
        obtain ⟨S13, hS13, g14, h⟩ := wrA_e h
        refine At.iast sh_134 (le149 sh_134) g14.1 g14.2 dX12_readLaw_65 <| At.nmS hS13 <| At.aloadn dX12_readLaw_66 rfl <| At.getR fl_X12_24 sh_130 (le149 sh_130) rf_130_4 dX12_readLaw_67 <| At.bipush dX12_readLaw_70 (by decide) <| At.iloadn dX12_readLaw_72 rfl <| At.iadd dX12_readLaw_73 <| At.iloadn dX12_readLaw_74 rfl <| ?_
        obtain ⟨S15, hS15, g16, h⟩ := wrA_e h
        refine At.iast sh_134 (le149 sh_134) g16.1 g16.2 dX12_readLaw_75 <| At.nmS hS15 <| At.aloadn dX12_readLaw_76 rfl <| At.getR fl_X12_24 sh_130 (le149 sh_130) rf_130_4 dX12_readLaw_77 <| At.bipush dX12_readLaw_80 (by decide) <| At.iloadn dX12_readLaw_82 rfl <| At.iadd dX12_readLaw_83 <| At.aloadn dX12_readLaw_84 rfl <| At.getR fl_X12_24 sh_130 (le149 sh_130) rf_130_4 dX12_readLaw_85 <| At.sipush dX12_readLaw_88 (by decide) <| ?_
        obtain ⟨v17, hv17, g18, h⟩ := rdA_e h
        refine At.iald sh_134 (le149 sh_134) g18.1 g18.2 dX12_readLaw_91 <| At.nm hv17 <| At.iloadn dX12_readLaw_92 rfl <| At.isub dX12_readLaw_93 <| ?_
        obtain ⟨S19, hS19, g20, h⟩ := wrA_e h
        refine At.iast sh_134 (le149 sh_134) g20.1 g20.2 dX12_readLaw_94 <| At.nmS hS19 <| ?_
        obtain rfl := Option.some.inj h
        exact At.vret rfl (Nat.zero_le _) (Nat.zero_le _) ⟨rfl, rfl⟩ dX12_readLaw_95
      · refine At.aloadn dX12_readLaw_49 rfl <| At.getI fl_X12_126 sh_130 (le149 sh_130) dX12_readLaw_50 <| At.if_eq_f (tgt := 57) dX12_readLaw_53 (by decide) c21 <| ?_
        obtain rfl := Option.some.inj h
        exact At.vret rfl (Nat.zero_le _) (Nat.zero_le _) ⟨rfl, rfl⟩ dX12_readLaw_56
    clear h; have h := hj49; clear hj49
    rcases ite_e h with ⟨c12, h⟩ | ⟨c12, h⟩
    · refine At.putI fw_X12_146 sh_130 (le149 sh_130) dX12_readLaw_29 <| At.nmS hS8 <| At.iloadn dX12_readLaw_32 rfl <| At.if_ne_f (tgt := 44) dX12_readLaw_33 (by decide) c12 <| ?_
      refine At.aloadn dX12_readLaw_36 rfl <| At.iconst dX12_readLaw_37 (by decide) <| ?_
      obtain ⟨q10, hq10, h⟩ := bnd_e h
      refine At.cV0 (av := [vi 0]) (rest := []) mv_X12_readSum lk_X12_158 dX12_readLaw_38 rfl rfl sh_130 (Nat.le_of_ble_eq_true rfl) (by decide) ⟨rfl, rfl⟩ (rgX12_readSum hq10) <| At.goto (tgt := 49) dX12_readLaw_41 (by decide) <| ?_
      obtain rfl := Option.some.inj h
      exact At.sub [1, 2, 0] rfl K49
    · refine At.putI fw_X12_146 sh_130 (le149 sh_130) dX12_readLaw_29 <| At.nmS hS8 <| At.iloadn dX12_readLaw_32 rfl <| At.if_ne_t (tgt := 44) dX12_readLaw_33 (by decide) c12 <| ?_
      refine At.aloadn dX12_readLaw_44 rfl <| At.iconst dX12_readLaw_45 (by decide) <| ?_
      obtain ⟨q11, hq11, h⟩ := bnd_e h
      refine At.cV0 (av := [vi 0]) (rest := []) mv_X12_readTruth lk_X12_167 dX12_readLaw_46 rfl rfl sh_130 (Nat.le_of_ble_eq_true rfl) (by decide) ⟨rfl, rfl⟩ (rgX12_readTruth hq11) <| ?_
      obtain rfl := Option.some.inj h
      exact At.sub [1, 2, 0] rfl K49
  clear h; have h := hj18; clear hj18
  rcases ite_e h with ⟨c5, h⟩ | ⟨c5, h⟩
  · refine At.cV1 (av := [vi 31]) (rest := []) mv_X12_eats lk_X12_161 dX12_readLaw_7 rfl rfl sh_130 (Nat.le_of_ble_eq_true rfl) (by decide) ⟨rfl, rfl⟩ (rX12_eats hq2) <| At.bifne_t (tgt := 18) dX12_readLaw_10 (by decide) c5 <| ?_
    obtain rfl := Option.some.inj h
    exact At.sub [0, 1] rfl K18
  · refine At.cV1 (av := [vi 31]) (rest := []) mv_X12_eats lk_X12_161 dX12_readLaw_7 rfl rfl sh_130 (Nat.le_of_ble_eq_true rfl) (by decide) ⟨rfl, rfl⟩ (rX12_eats hq2) <| At.bifne_f (tgt := 18) dX12_readLaw_10 (by decide) c5 <| ?_
    refine At.aloadn dX12_readLaw_13 rfl <| At.iconst dX12_readLaw_14 (by decide) <| ?_
    obtain ⟨q4, hq4, h⟩ := bnd_e h
    refine At.cV0 (av := [vi 2]) (rest := []) mv_X12_fails lk_X12_138 dX12_readLaw_15 rfl rfl sh_130 (Nat.le_of_ble_eq_true rfl) (by decide) ⟨rfl, rfl⟩ (rX12_fails hq4) <| ?_
    obtain rfl := Option.some.inj h
    exact At.sub [0, 1] rfl K18
def fX12_readLine (S : SS) : Option SS :=
  if (S 130 11) = 0 then (
    Option.bind (fX12_is 1 S) fun q1 =>
    if q1 = true then (
      Option.bind (fX12_readStreet  S) fun q2 =>
      some q2
    ) else (
      Option.bind (fX12_is 5 S) fun q3 =>
      if q3 = true then (
        Option.bind (fX12_readGoer  S) fun q4 =>
        some q4
      ) else (
        Option.bind (fX12_eats 7 S) fun q5 =>
        if q5.1 = true then (
          Option.bind (fX12_takes 0 9 q5.2) fun q6 =>
          wrA q6.2 134 1101 48 q6.1 fun S7 =>
          some S7
        ) else (
          Option.bind (fX12_is 8 q5.2) fun q9 =>
          if q9 = true then (
            Option.bind (fX12_readLaw (w32 ((q5.2 130 9) - 8)) q5.2) fun q10 =>
            some q10
          ) else (
            Option.bind (fX12_is 9 q5.2) fun q11 =>
            if q11 = true then (
              Option.bind (fX12_readLaw (w32 ((q5.2 130 9) - 8)) q5.2) fun q12 =>
              some q12
            ) else (
              Option.bind (fX12_fails 2 q5.2) fun q13 =>
              some q13
            )
          )
        )
      )
    )
  ) else (
    some S
  )
set_option maxRecDepth 100000 in
set_option maxHeartbeats 4000000 in
theorem rX12_readLine {G : GG} {S : SS} {rr : SS} (h : fX12_readLine  S = some rr) : RD G mX12_readLine 71 [vr 130] S none rr := by
  unfold fX12_readLine at h
  refine Runs.of pl_X12 (Nat.le_of_ble_eq_true rfl) ?_
  show At G mX12_readLine 71 0 [(0, vr 130)] [] (mm S) 0 0 (EQ none rr)
  rcases ite_e h with ⟨c19, h⟩ | ⟨c19, h⟩
  · refine At.aloadn dX12_readLine_0 rfl <| At.getI fl_X12_126 sh_130 (le149 sh_130) dX12_readLine_1 <| At.if_eq_t (tgt := 8) dX12_readLine_4 (by decide) c19 <| ?_
    refine At.aloadn dX12_readLine_8 rfl <| At.iconst dX12_readLine_9 (by decide) <| ?_
    obtain ⟨q1, hq1, h⟩ := bnd_e h
    rcases ite_e h with ⟨c18, h⟩ | ⟨c18, h⟩
    · refine At.cV1 (av := [vi 1]) (rest := []) mv_X12_is lk_X12_132 dX12_readLine_10 rfl rfl sh_130 (Nat.le_of_ble_eq_true rfl) (by decide) ⟨rfl, rfl⟩ (rX12_is hq1) <| At.bifeq_f (tgt := 23) dX12_readLine_13 (by decide) c18 <| ?_
      refine At.aloadn dX12_readLine_16 rfl <| ?_
      obtain ⟨q2, hq2, h⟩ := bnd_e h
      refine At.cV0 (av := []) (rest := []) mv_X12_readStreet lk_X12_189 dX12_readLine_17 rfl rfl sh_130 (Nat.le_of_ble_eq_true rfl) (by decide) ⟨rfl, rfl⟩ (rX12_readStreet hq2) <| At.goto (tgt := 101) dX12_readLine_20 (by decide) <| ?_
      obtain rfl := Option.some.inj h
      exact At.vret rfl (Nat.zero_le _) (Nat.zero_le _) ⟨rfl, rfl⟩ dX12_readLine_101
    · refine At.cV1 (av := [vi 1]) (rest := []) mv_X12_is lk_X12_132 dX12_readLine_10 rfl rfl sh_130 (Nat.le_of_ble_eq_true rfl) (by decide) ⟨rfl, rfl⟩ (rX12_is hq1) <| At.bifeq_t (tgt := 23) dX12_readLine_13 (by decide) c18 <| ?_
      refine At.aloadn dX12_readLine_23 rfl <| At.iconst dX12_readLine_24 (by decide) <| ?_
      obtain ⟨q3, hq3, h⟩ := bnd_e h
      rcases ite_e h with ⟨c17, h⟩ | ⟨c17, h⟩
      · refine At.cV1 (av := [vi 5]) (rest := []) mv_X12_is lk_X12_132 dX12_readLine_25 rfl rfl sh_130 (Nat.le_of_ble_eq_true rfl) (by decide) ⟨rfl, rfl⟩ (rX12_is hq3) <| At.bifeq_f (tgt := 38) dX12_readLine_28 (by decide) c17 <| ?_
        refine At.aloadn dX12_readLine_31 rfl <| ?_
        obtain ⟨q4, hq4, h⟩ := bnd_e h
        refine At.cV0 (av := []) (rest := []) mv_X12_readGoer lk_X12_192 dX12_readLine_32 rfl rfl sh_130 (Nat.le_of_ble_eq_true rfl) (by decide) ⟨rfl, rfl⟩ (rX12_readGoer hq4) <| At.goto (tgt := 101) dX12_readLine_35 (by decide) <| ?_
        obtain rfl := Option.some.inj h
        exact At.vret rfl (Nat.zero_le _) (Nat.zero_le _) ⟨rfl, rfl⟩ dX12_readLine_101
      · refine At.cV1 (av := [vi 5]) (rest := []) mv_X12_is lk_X12_132 dX12_readLine_25 rfl rfl sh_130 (Nat.le_of_ble_eq_true rfl) (by decide) ⟨rfl, rfl⟩ (rX12_is hq3) <| At.bifeq_t (tgt := 38) dX12_readLine_28 (by decide) c17 <| ?_
        refine At.aloadn dX12_readLine_38 rfl <| At.bipush dX12_readLine_39 (by decide) <| ?_
        obtain ⟨q5, hq5, h⟩ := bnd_e h
        rcases ite_e h with ⟨c16, h⟩ | ⟨c16, h⟩
        · refine At.cV1 (av := [vi 7]) (rest := []) mv_X12_eats lk_X12_161 dX12_readLine_41 rfl rfl sh_130 (Nat.le_of_ble_eq_true rfl) (by decide) ⟨rfl, rfl⟩ (rX12_eats hq5) <| At.bifeq_f (tgt := 64) dX12_readLine_44 (by decide) c16 <| ?_
          refine At.aloadn dX12_readLine_47 rfl <| At.getR fl_X12_24 sh_130 (le149 sh_130) rf_130_4 dX12_readLine_48 <| At.bipush dX12_readLine_51 (by decide) <| At.aloadn dX12_readLine_53 rfl <| At.iconst dX12_readLine_54 (by decide) <| At.bipush dX12_readLine_55 (by decide) <| ?_
          obtain ⟨q6, hq6, h⟩ := bnd_e h
          refine At.cV1 (av := [vi 0, vi 9]) (rest := [vi 48, vr 134]) mv_X12_takes lk_X12_182 dX12_readLine_57 rfl rfl sh_130 (Nat.le_of_ble_eq_true rfl) (by decide) ⟨rfl, rfl⟩ (rX12_takes hq6) <| ?_
          obtain ⟨S7, hS7, g8, h⟩ := wrA_e h
          refine At.iast sh_134 (le149 sh_134) g8.1 g8.2 dX12_readLine_60 <| At.nmS hS7 <| At.goto (tgt := 101) dX12_readLine_61 (by decide) <| ?_
          obtain rfl := Option.some.inj h
          exact At.vret rfl (Nat.zero_le _) (Nat.zero_le _) ⟨rfl, rfl⟩ dX12_readLine_101
        · refine At.cV1 (av := [vi 7]) (rest := []) mv_X12_eats lk_X12_161 dX12_readLine_41 rfl rfl sh_130 (Nat.le_of_ble_eq_true rfl) (by decide) ⟨rfl, rfl⟩ (rX12_eats hq5) <| At.bifeq_t (tgt := 64) dX12_readLine_44 (by decide) c16 <| ?_
          refine At.aloadn dX12_readLine_64 rfl <| At.bipush dX12_readLine_65 (by decide) <| ?_
          obtain ⟨q9, hq9, h⟩ := bnd_e h
          rcases ite_e h with ⟨c15, h⟩ | ⟨c15, h⟩
          · refine At.cV1 (av := [vi 8]) (rest := []) mv_X12_is lk_X12_132 dX12_readLine_67 rfl rfl sh_130 (Nat.le_of_ble_eq_true rfl) (by decide) ⟨rfl, rfl⟩ (rX12_is hq9) <| At.bifne_t (tgt := 82) dX12_readLine_70 (by decide) c15 <| ?_
            refine At.aloadn dX12_readLine_82 rfl <| At.aloadn dX12_readLine_83 rfl <| At.getI fl_X12_108 sh_130 (le149 sh_130) dX12_readLine_84 <| At.bipush dX12_readLine_87 (by decide) <| At.isub dX12_readLine_89 <| ?_
            obtain ⟨q10, hq10, h⟩ := bnd_e h
            refine At.cV0 (av := [vi (w32 ((q5.2 130 9) - 8))]) (rest := []) mv_X12_readLaw lk_X12_195 dX12_readLine_90 rfl rfl sh_130 (Nat.le_of_ble_eq_true rfl) (by decide) ⟨rfl, rfl⟩ (rX12_readLaw hq10) <| At.goto (tgt := 101) dX12_readLine_93 (by decide) <| ?_
            obtain rfl := Option.some.inj h
            exact At.vret rfl (Nat.zero_le _) (Nat.zero_le _) ⟨rfl, rfl⟩ dX12_readLine_101
          · refine At.cV1 (av := [vi 8]) (rest := []) mv_X12_is lk_X12_132 dX12_readLine_67 rfl rfl sh_130 (Nat.le_of_ble_eq_true rfl) (by decide) ⟨rfl, rfl⟩ (rX12_is hq9) <| At.bifne_f (tgt := 82) dX12_readLine_70 (by decide) c15 <| ?_
            refine At.aloadn dX12_readLine_73 rfl <| At.bipush dX12_readLine_74 (by decide) <| ?_
            obtain ⟨q11, hq11, h⟩ := bnd_e h
            rcases ite_e h with ⟨c14, h⟩ | ⟨c14, h⟩
            · refine At.cV1 (av := [vi 9]) (rest := []) mv_X12_is lk_X12_132 dX12_readLine_76 rfl rfl sh_130 (Nat.le_of_ble_eq_true rfl) (by decide) ⟨rfl, rfl⟩ (rX12_is hq11) <| At.bifeq_f (tgt := 96) dX12_readLine_79 (by decide) c14 <| ?_
              refine At.aloadn dX12_readLine_82 rfl <| At.aloadn dX12_readLine_83 rfl <| At.getI fl_X12_108 sh_130 (le149 sh_130) dX12_readLine_84 <| At.bipush dX12_readLine_87 (by decide) <| At.isub dX12_readLine_89 <| ?_
              obtain ⟨q12, hq12, h⟩ := bnd_e h
              refine At.cV0 (av := [vi (w32 ((q5.2 130 9) - 8))]) (rest := []) mv_X12_readLaw lk_X12_195 dX12_readLine_90 rfl rfl sh_130 (Nat.le_of_ble_eq_true rfl) (by decide) ⟨rfl, rfl⟩ (rX12_readLaw hq12) <| At.goto (tgt := 101) dX12_readLine_93 (by decide) <| ?_
              obtain rfl := Option.some.inj h
              exact At.vret rfl (Nat.zero_le _) (Nat.zero_le _) ⟨rfl, rfl⟩ dX12_readLine_101
            · refine At.cV1 (av := [vi 9]) (rest := []) mv_X12_is lk_X12_132 dX12_readLine_76 rfl rfl sh_130 (Nat.le_of_ble_eq_true rfl) (by decide) ⟨rfl, rfl⟩ (rX12_is hq11) <| At.bifeq_t (tgt := 96) dX12_readLine_79 (by decide) c14 <| ?_
              refine At.aloadn dX12_readLine_96 rfl <| At.iconst dX12_readLine_97 (by decide) <| ?_
              obtain ⟨q13, hq13, h⟩ := bnd_e h
              refine At.cV0 (av := [vi 2]) (rest := []) mv_X12_fails lk_X12_138 dX12_readLine_98 rfl rfl sh_130 (Nat.le_of_ble_eq_true rfl) (by decide) ⟨rfl, rfl⟩ (rX12_fails hq13) <| ?_
              obtain rfl := Option.some.inj h
              exact At.vret rfl (Nat.zero_le _) (Nat.zero_le _) ⟨rfl, rfl⟩ dX12_readLine_101
  · refine At.aloadn dX12_readLine_0 rfl <| At.getI fl_X12_126 sh_130 (le149 sh_130) dX12_readLine_1 <| At.if_eq_f (tgt := 8) dX12_readLine_4 (by decide) c19 <| ?_
    obtain rfl := Option.some.inj h
    exact At.vret rfl (Nat.zero_le _) (Nat.zero_le _) ⟨rfl, rfl⟩ dX12_readLine_7
def fX12_ends (S : SS) : Option SS :=
  Option.bind (fX12_eats 30 S) fun q1 =>
  Option.bind (
    if q1.1 = true then (
      some q1.2
    ) else (
      Option.bind (fX12_fails 2 q1.2) fun q3 =>
      some q3
    )
    : Option (SS)) fun q2 =>
  rdA q2 134 1101 0 fun v5 =>
  wrA q2 134 1101 0 (w32 (v5 + 1)) fun S7 =>
  some S7
set_option maxRecDepth 100000 in
set_option maxHeartbeats 4000000 in
theorem rX12_ends {G : GG} {S : SS} {rr : SS} (h : fX12_ends  S = some rr) : RD G mX12_ends 9 [vr 130] S none rr := by
  unfold fX12_ends at h
  refine Runs.of pl_X12 (Nat.le_of_ble_eq_true rfl) ?_
  show At G mX12_ends 9 0 [(0, vr 130)] [] (mm S) 0 0 (EQ none rr)
  refine At.aloadn dX12_ends_0 rfl <| At.bipush dX12_ends_1 (by decide) <| ?_
  obtain ⟨q1, hq1, h⟩ := bnd_e h
  obtain ⟨q2, hj14, h⟩ := bnd_e h
  have K14 : At G mX12_ends 9 14 [(0, vr 130)] [] (mm q2) 0 0 (EQ none rr) := by
    refine At.aloadn dX12_ends_14 rfl <| At.getR fl_X12_24 sh_130 (le149 sh_130) rf_130_4 dX12_ends_15 <| At.iconst dX12_ends_18 (by decide) <| At.dup2 rfl rfl dX12_ends_19 <| ?_
    obtain ⟨v5, hv5, g6, h⟩ := rdA_e h
    refine At.iald sh_134 (le149 sh_134) g6.1 g6.2 dX12_ends_20 <| At.nm hv5 <| At.iconst dX12_ends_21 (by decide) <| At.iadd dX12_ends_22 <| ?_
    obtain ⟨S7, hS7, g8, h⟩ := wrA_e h
    refine At.iast sh_134 (le149 sh_134) g8.1 g8.2 dX12_ends_23 <| At.nmS hS7 <| ?_
    obtain rfl := Option.some.inj h
    exact At.vret rfl (Nat.zero_le _) (Nat.zero_le _) ⟨rfl, rfl⟩ dX12_ends_24
  clear h; have h := hj14; clear hj14
  rcases ite_e h with ⟨c4, h⟩ | ⟨c4, h⟩
  · refine At.cV1 (av := [vi 30]) (rest := []) mv_X12_eats lk_X12_161 dX12_ends_3 rfl rfl sh_130 (Nat.le_of_ble_eq_true rfl) (by decide) ⟨rfl, rfl⟩ (rX12_eats hq1) <| At.bifne_t (tgt := 14) dX12_ends_6 (by decide) c4 <| ?_
    obtain rfl := Option.some.inj h
    exact At.sub [0] rfl K14
  · refine At.cV1 (av := [vi 30]) (rest := []) mv_X12_eats lk_X12_161 dX12_ends_3 rfl rfl sh_130 (Nat.le_of_ble_eq_true rfl) (by decide) ⟨rfl, rfl⟩ (rX12_eats hq1) <| At.bifne_f (tgt := 14) dX12_ends_6 (by decide) c4 <| ?_
    refine At.aloadn dX12_ends_9 rfl <| At.iconst dX12_ends_10 (by decide) <| ?_
    obtain ⟨q3, hq3, h⟩ := bnd_e h
    refine At.cV0 (av := [vi 2]) (rest := []) mv_X12_fails lk_X12_138 dX12_ends_11 rfl rfl sh_130 (Nat.le_of_ble_eq_true rfl) (by decide) ⟨rfl, rfl⟩ (rX12_fails hq3) <| ?_
    obtain rfl := Option.some.inj h
    exact At.sub [0] rfl K14
def fX12_town_L83 : Nat → SS → Option (SS)
  | 0, _ => none
  | n + 1, S =>
    if (S 130 11) = 0 then (
      if (S 130 9) = 24 then (
        some S
      ) else (
        Option.bind (fX12_readLine  S) fun q1 =>
        Option.bind (fX12_ends  q1) fun q2 =>
        fX12_town_L83 n  q2
      )
    ) else (
      some S
    )
def fX12_town_L154 : Nat → Int → SS → Option (SS)
  | 0, _, _ => none
  | n + 1, l2, S =>
    if 1101 ≤ l2 then (
      some S
    ) else (
      rdA S 134 1101 l2 fun v1 =>
      wrA S 131 3303 l2 v1 fun S3 =>
      lt (w32 (l2 + 1)) fun x5 =>
      fX12_town_L154 n x5 S3
    )
def fX12_town (p1 : Int) (S : SS) : Option (Int × SS) :=
  lt (up S 130 0 0) fun S1 =>
  Option.bind (fX12_within p1 0 (S1 130 5)) fun q2 =>
  if q2 = true then (
    lt (up S1 130 8 p1) fun S3 =>
    lt (up S3 130 5 0) fun S4 =>
    lt (up S4 130 7 0) fun S5 =>
    lt (up S5 130 11 0) fun S6 =>
    Option.bind (fX12_plain_1101 134 S6) fun q7 =>
    Option.bind (fX12_next  q7) fun q8 =>
    Option.bind (fX12_eats 0 q8) fun q9 =>
    Option.bind (
      if q9.1 = true then (
        some q9.2
      ) else (
        Option.bind (fX12_fails 2 q9.2) fun q11 =>
        some q11
      )
      : Option (SS)) fun q10 =>
    Option.bind (fX12_takes 1 6 q10) fun q13 =>
    wrA q13.2 134 1101 1 q13.1 fun S14 =>
    Option.bind (fX12_ends  S14) fun q16 =>
    Option.bind (fX12_town_L83 FU  q16) fun q17 =>
    lt (up q17 130 13 (q17 130 11)) fun S19 =>
    Option.bind (
      if (S19 130 11) = 0 then (
        some ((-1))
      ) else (
        some (S19 130 12)
      )
      : Option (Int)) fun q20 =>
    lt (up S19 130 14 q20) fun S22 =>
    if (S22 130 11) = 0 then (
      Option.bind (fX12_town_L154 FU 0 S22) fun q23 =>
      rdA q23 131 3303 0 fun v25 =>
      some (v25, q23)
    ) else (
      some (w32 (((-30)) - (S22 130 11)), S22)
    )
  ) else (
    some ((-3), S1)
  )
set_option maxRecDepth 100000 in
set_option maxHeartbeats 4000000 in
theorem lX12_town_L83 {G : GG} {Φ : Option VV → MM → Prop} : ∀ (n : Nat) (S : SS) (q : SS), fX12_town_L83 n S = some q → At G mX12_town 72 110 [(0, vr 130)] [] (mm q) 0 0 Φ → At G mX12_town 72 83 [(0, vr 130)] [] (mm S) 0 0 Φ := by
  intro n
  induction n with
  | zero =>
    intro _ _ h
    cases h
  | succ n ih =>
    intro S q h K110
    unfold fX12_town_L83 at h
    rcases ite_e h with ⟨c4, h⟩ | ⟨c4, h⟩
    · refine At.aloadn dX12_town_83 rfl <| At.getI fl_X12_126 sh_130 (le149 sh_130) dX12_town_84 <| At.if_ne_f (tgt := 110) dX12_town_87 (by decide) c4 <| ?_
      rcases ite_e h with ⟨c3, h⟩ | ⟨c3, h⟩
      · refine At.aloadn dX12_town_90 rfl <| At.getI fl_X12_108 sh_130 (le149 sh_130) dX12_town_91 <| At.bipush dX12_town_94 (by decide) <| At.icmp_eq_t (tgt := 110) dX12_town_96 (by decide) c3 <| ?_
        obtain rfl := Option.some.inj h
        exact At.sub [0] rfl K110
      · refine At.aloadn dX12_town_90 rfl <| At.getI fl_X12_108 sh_130 (le149 sh_130) dX12_town_91 <| At.bipush dX12_town_94 (by decide) <| At.icmp_eq_f (tgt := 110) dX12_town_96 (by decide) c3 <| ?_
        refine At.aloadn dX12_town_99 rfl <| ?_
        obtain ⟨q1, hq1, h⟩ := bnd_e h
        refine At.cV0 (av := []) (rest := []) mv_X12_readLine lk_X12_201 dX12_town_100 rfl rfl sh_130 (Nat.le_of_ble_eq_true rfl) (by decide) ⟨rfl, rfl⟩ (rX12_readLine hq1) <| At.aloadn dX12_town_103 rfl <| ?_
        obtain ⟨q2, hq2, h⟩ := bnd_e h
        refine At.cV0 (av := []) (rest := []) mv_X12_ends lk_X12_198 dX12_town_104 rfl rfl sh_130 (Nat.le_of_ble_eq_true rfl) (by decide) ⟨rfl, rfl⟩ (rX12_ends hq2) <| At.goto (tgt := 83) dX12_town_107 (by decide) <| ?_
        exact At.sub [0] rfl (ih _ _ h K110)
    · refine At.aloadn dX12_town_83 rfl <| At.getI fl_X12_126 sh_130 (le149 sh_130) dX12_town_84 <| At.if_ne_t (tgt := 110) dX12_town_87 (by decide) c4 <| ?_
      obtain rfl := Option.some.inj h
      exact At.sub [0] rfl K110
set_option maxRecDepth 100000 in
set_option maxHeartbeats 4000000 in
theorem lX12_town_L154 {G : GG} {Φ : Option VV → MM → Prop} : ∀ (n : Nat) (l2 : Int) (S : SS) (q : SS), fX12_town_L154 n l2 S = some q → At G mX12_town 72 179 [(0, vr 130)] [] (mm q) 0 0 Φ → At G mX12_town 72 154 [(0, vr 130), (2, vi l2)] [] (mm S) 0 0 Φ := by
  intro n
  induction n with
  | zero =>
    intro _ _ _ h
    cases h
  | succ n ih =>
    intro l2 S q h K179
    unfold fX12_town_L154 at h
    rcases ite_e h with ⟨c6, h⟩ | ⟨c6, h⟩
    · refine At.iloadn dX12_town_154 rfl <| At.sipush dX12_town_155 (by decide) <| At.icmp_ge_t (tgt := 179) dX12_town_158 (by decide) c6 <| ?_
      obtain rfl := Option.some.inj h
      exact At.sub [0] rfl K179
    · refine At.iloadn dX12_town_154 rfl <| At.sipush dX12_town_155 (by decide) <| At.icmp_ge_f (tgt := 179) dX12_town_158 (by decide) c6 <| ?_
      refine At.aloadn dX12_town_161 rfl <| At.getR fl_X12_13 sh_130 (le149 sh_130) rf_130_1 dX12_town_162 <| At.iloadn dX12_town_165 rfl <| At.aloadn dX12_town_166 rfl <| At.getR fl_X12_24 sh_130 (le149 sh_130) rf_130_4 dX12_town_167 <| At.iloadn dX12_town_170 rfl <| ?_
      obtain ⟨v1, hv1, g2, h⟩ := rdA_e h
      refine At.iald sh_134 (le149 sh_134) g2.1 g2.2 dX12_town_171 <| At.nm hv1 <| ?_
      obtain ⟨S3, hS3, g4, h⟩ := wrA_e h
      refine At.iast sh_131 (le149 sh_131) g4.1 g4.2 dX12_town_172 <| At.nmS hS3 <| ?_
      obtain ⟨x5, hx5, h⟩ := lt_e h
      refine At.iinc (ls' := [(2, vi x5), (0, vr 130)]) dX12_town_173 rfl (by decide) (by rw [hx5]; rfl) <| At.goto (tgt := 154) dX12_town_176 (by decide) <| ?_
      exact At.sub [1, 0] rfl (ih _ _ _ h K179)
set_option maxRecDepth 100000 in
set_option maxHeartbeats 4000000 in
theorem rX12_town {G : GG} {p1 : Int} {S : SS} {rr : (Int × SS)} (h : fX12_town p1 S = some rr) : RD G mX12_town 72 [vr 130, vi p1] S (some (vi rr.1)) rr.2 := by
  unfold fX12_town at h
  refine Runs.of pl_X12 (Nat.le_of_ble_eq_true rfl) ?_
  show At G mX12_town 72 0 [(0, vr 130), (1, vi p1)] [] (mm S) 0 0 (EQ (some (vi rr.1)) rr.2)
  refine At.aloadn dX12_town_0 rfl <| At.iconst dX12_town_1 (by decide) <| ?_
  obtain ⟨S1, hS1, h⟩ := lt_e h
  refine At.putI fw_X12_1 sh_130 (le149 sh_130) dX12_town_2 <| At.nmS hS1 <| At.iloadn dX12_town_5 rfl <| At.i2l dX12_town_6 <| At.lconst0 dX12_town_7 <| At.aloadn dX12_town_8 rfl <| At.getI fl_X12_80 sh_130 (le149 sh_130) dX12_town_9 <| At.i2l dX12_town_12 <| ?_
  obtain ⟨q2, hq2, h⟩ := bnd_e h
  rcases ite_e h with ⟨c28, h⟩ | ⟨c28, h⟩
  · refine At.cS1 (av := [vl p1, vl 0, vl (S1 130 5)]) (rest := []) ms_X12_within lk_X12_142 dX12_town_13 rfl rfl (Nat.le_of_ble_eq_true rfl) (by decide) ⟨rfl, rfl⟩ (rX12_within hq2) <| At.bifne_t (tgt := 22) dX12_town_16 (by decide) c28 <| ?_
    refine At.aloadn dX12_town_22 rfl <| At.iloadn dX12_town_23 rfl <| ?_
    obtain ⟨S3, hS3, h⟩ := lt_e h
    refine At.putI fw_X12_83 sh_130 (le149 sh_130) dX12_town_24 <| At.nmS hS3 <| At.aloadn dX12_town_27 rfl <| At.iconst dX12_town_28 (by decide) <| ?_
    obtain ⟨S4, hS4, h⟩ := lt_e h
    refine At.putI fw_X12_80 sh_130 (le149 sh_130) dX12_town_29 <| At.nmS hS4 <| At.aloadn dX12_town_32 rfl <| At.iconst dX12_town_33 (by decide) <| ?_
    obtain ⟨S5, hS5, h⟩ := lt_e h
    refine At.putI fw_X12_101 sh_130 (le149 sh_130) dX12_town_34 <| At.nmS hS5 <| At.aloadn dX12_town_37 rfl <| At.iconst dX12_town_38 (by decide) <| ?_
    obtain ⟨S6, hS6, h⟩ := lt_e h
    refine At.putI fw_X12_126 sh_130 (le149 sh_130) dX12_town_39 <| At.nmS hS6 <| At.aloadn dX12_town_42 rfl <| At.getR fl_X12_24 sh_130 (le149 sh_130) rf_130_4 dX12_town_43 <| ?_
    obtain ⟨q7, hq7, h⟩ := bnd_e h
    refine At.cS0 (av := [vr 134]) (rest := []) ms_X12_plain lk_X12_76 dX12_town_46 rfl rfl (Nat.le_of_ble_eq_true rfl) (by decide) ⟨rfl, rfl⟩ (rX12_plain_1101 sh_134 hq7) <| At.aloadn dX12_town_49 rfl <| ?_
    obtain ⟨q8, hq8, h⟩ := bnd_e h
    refine At.cV0 (av := []) (rest := []) mv_X12_next lk_X12_135 dX12_town_50 rfl rfl sh_130 (Nat.le_of_ble_eq_true rfl) (by decide) ⟨rfl, rfl⟩ (rX12_next hq8) <| At.aloadn dX12_town_53 rfl <| At.iconst dX12_town_54 (by decide) <| ?_
    obtain ⟨q9, hq9, h⟩ := bnd_e h
    obtain ⟨q10, hj66, h⟩ := bnd_e h
    have K66 : At G mX12_town 72 66 [(0, vr 130)] [] (mm q10) 0 0 (EQ (some (vi rr.1)) rr.2) := by
      refine At.aloadn dX12_town_66 rfl <| At.getR fl_X12_24 sh_130 (le149 sh_130) rf_130_4 dX12_town_67 <| At.iconst dX12_town_70 (by decide) <| At.aloadn dX12_town_71 rfl <| At.iconst dX12_town_72 (by decide) <| At.bipush dX12_town_73 (by decide) <| ?_
      obtain ⟨q13, hq13, h⟩ := bnd_e h
      refine At.cV1 (av := [vi 1, vi 6]) (rest := [vi 1, vr 134]) mv_X12_takes lk_X12_182 dX12_town_75 rfl rfl sh_130 (Nat.le_of_ble_eq_true rfl) (by decide) ⟨rfl, rfl⟩ (rX12_takes hq13) <| ?_
      obtain ⟨S14, hS14, g15, h⟩ := wrA_e h
      refine At.iast sh_134 (le149 sh_134) g15.1 g15.2 dX12_town_78 <| At.nmS hS14 <| At.aloadn dX12_town_79 rfl <| ?_
      obtain ⟨q16, hq16, h⟩ := bnd_e h
      refine At.cV0 (av := []) (rest := []) mv_X12_ends lk_X12_198 dX12_town_80 rfl rfl sh_130 (Nat.le_of_ble_eq_true rfl) (by decide) ⟨rfl, rfl⟩ (rX12_ends hq16) <| ?_
      obtain ⟨q17, ho18, h⟩ := bnd_e h
      refine At.sub [0] rfl (lX12_town_L83 FU _ q17 ho18 ?_)
      refine At.aloadn dX12_town_110 rfl <| At.aloadn dX12_town_111 rfl <| At.getI fl_X12_126 sh_130 (le149 sh_130) dX12_town_112 <| ?_
      obtain ⟨S19, hS19, h⟩ := lt_e h
      obtain ⟨q20, hj134, h⟩ := bnd_e h
      have K134 : At G mX12_town 72 134 [(0, vr 130)] [vi q20, vr 130] (mm S19) 0 0 (EQ (some (vi rr.1)) rr.2) := by
        obtain ⟨S22, hS22, h⟩ := lt_e h
        rcases ite_e h with ⟨c27, h⟩ | ⟨c27, h⟩
        · refine At.putI fw_X12_27 sh_130 (le149 sh_130) dX12_town_134 <| At.nmS hS22 <| At.aloadn dX12_town_137 rfl <| At.getI fl_X12_126 sh_130 (le149 sh_130) dX12_town_138 <| At.if_eq_t (tgt := 152) dX12_town_141 (by decide) c27 <| ?_
          refine At.iconst dX12_town_152 (by decide) <| At.istoren (ls' := [(2, vi 0), (0, vr 130)]) dX12_town_153 (by decide) rfl <| ?_
          obtain ⟨q23, ho24, h⟩ := bnd_e h
          refine At.sub [1, 0] rfl (lX12_town_L154 FU _ _ q23 ho24 ?_)
          refine At.aloadn dX12_town_179 rfl <| At.getR fl_X12_13 sh_130 (le149 sh_130) rf_130_1 dX12_town_180 <| At.iconst dX12_town_183 (by decide) <| ?_
          obtain ⟨v25, hv25, g26, h⟩ := rdA_e h
          refine At.iald sh_131 (le149 sh_131) g26.1 g26.2 dX12_town_184 <| At.nm hv25 <| ?_
          obtain rfl := Option.some.inj h
          exact At.iret rfl (Nat.zero_le _) (Nat.zero_le _) ⟨rfl, rfl⟩ dX12_town_185
        · refine At.putI fw_X12_27 sh_130 (le149 sh_130) dX12_town_134 <| At.nmS hS22 <| At.aloadn dX12_town_137 rfl <| At.getI fl_X12_126 sh_130 (le149 sh_130) dX12_town_138 <| At.if_eq_f (tgt := 152) dX12_town_141 (by decide) c27 <| ?_
          refine At.bipush dX12_town_144 (by decide) <| At.aloadn dX12_town_146 rfl <| At.getI fl_X12_126 sh_130 (le149 sh_130) dX12_town_147 <| At.isub dX12_town_150 <| ?_
          obtain rfl := Option.some.inj h
          exact At.iret rfl (Nat.zero_le _) (Nat.zero_le _) ⟨rfl, rfl⟩ dX12_town_151
      clear h; have h := hj134; clear hj134
      rcases ite_e h with ⟨c21, h⟩ | ⟨c21, h⟩
      · refine At.putI fw_X12_204 sh_130 (le149 sh_130) dX12_town_115 <| At.nmS hS19 <| At.aloadn dX12_town_118 rfl <| At.aloadn dX12_town_119 rfl <| At.getI fl_X12_126 sh_130 (le149 sh_130) dX12_town_120 <| At.if_ne_f (tgt := 130) dX12_town_123 (by decide) c21 <| ?_
        refine At.iconst dX12_town_126 (by decide) <| At.goto (tgt := 134) dX12_town_127 (by decide) <| ?_
        obtain rfl := Option.some.inj h
        exact At.sub [0] rfl K134
      · refine At.putI fw_X12_204 sh_130 (le149 sh_130) dX12_town_115 <| At.nmS hS19 <| At.aloadn dX12_town_118 rfl <| At.aloadn dX12_town_119 rfl <| At.getI fl_X12_126 sh_130 (le149 sh_130) dX12_town_120 <| At.if_ne_t (tgt := 130) dX12_town_123 (by decide) c21 <| ?_
        refine At.aloadn dX12_town_130 rfl <| At.getI fl_X12_129 sh_130 (le149 sh_130) dX12_town_131 <| ?_
        obtain rfl := Option.some.inj h
        exact At.sub [0] rfl K134
    clear h; have h := hj66; clear hj66
    rcases ite_e h with ⟨c12, h⟩ | ⟨c12, h⟩
    · refine At.cV1 (av := [vi 0]) (rest := []) mv_X12_eats lk_X12_161 dX12_town_55 rfl rfl sh_130 (Nat.le_of_ble_eq_true rfl) (by decide) ⟨rfl, rfl⟩ (rX12_eats hq9) <| At.bifne_t (tgt := 66) dX12_town_58 (by decide) c12 <| ?_
      obtain rfl := Option.some.inj h
      exact At.sub [0] rfl K66
    · refine At.cV1 (av := [vi 0]) (rest := []) mv_X12_eats lk_X12_161 dX12_town_55 rfl rfl sh_130 (Nat.le_of_ble_eq_true rfl) (by decide) ⟨rfl, rfl⟩ (rX12_eats hq9) <| At.bifne_f (tgt := 66) dX12_town_58 (by decide) c12 <| ?_
      refine At.aloadn dX12_town_61 rfl <| At.iconst dX12_town_62 (by decide) <| ?_
      obtain ⟨q11, hq11, h⟩ := bnd_e h
      refine At.cV0 (av := [vi 2]) (rest := []) mv_X12_fails lk_X12_138 dX12_town_63 rfl rfl sh_130 (Nat.le_of_ble_eq_true rfl) (by decide) ⟨rfl, rfl⟩ (rX12_fails hq11) <| ?_
      obtain rfl := Option.some.inj h
      exact At.sub [0] rfl K66
  · refine At.cS1 (av := [vl p1, vl 0, vl (S1 130 5)]) (rest := []) ms_X12_within lk_X12_142 dX12_town_13 rfl rfl (Nat.le_of_ble_eq_true rfl) (by decide) ⟨rfl, rfl⟩ (rX12_within hq2) <| At.bifne_f (tgt := 22) dX12_town_16 (by decide) c28 <| ?_
    refine At.bipush dX12_town_19 (by decide) <| ?_
    obtain rfl := Option.some.inj h
    exact At.iret rfl (Nat.zero_le _) (Nat.zero_le _) ⟨rfl, rfl⟩ dX12_town_21
