def fX10_open (t : Nat) (p1 : Int) (S : SS) : Option SS :=
  Option.bind (fX11_isSpot p1) fun q1 =>
  if q1 = true then (
    rdA S (t + 6) 120 p1 fun v2 =>
    if v2 = 0 then (
      if 120 ≤ (S t 8) then (
        some S
      ) else (
        wrA S (t + 6) 120 p1 1 fun S4 =>
        Option.bind (fX10_streetsFrom t p1 S4) fun q6 =>
        wrA S4 (t + 7) 120 p1 q6 fun S7 =>
        wrA S7 (t + 1) 120 (S7 t 8) p1 fun S9 =>
        lt (up S9 t 8 (w32 ((S9 t 8) + 1))) fun S11 =>
        some S11
      )
    ) else (
      some S
    )
  ) else (
    some S
  )
set_option maxRecDepth 100000 in
set_option maxHeartbeats 4000000 in
theorem rX10_open {G : GG} {t : Nat} {p1 : Int} {S : SS} {rr : SS} (ht : sh t = (10, 10)) (h : fX10_open t p1 S = some rr) : RD G mX10_open 3 [vr t, vi p1] S none rr := by
  unfold fX10_open at h
  refine Runs.of pl_X10 (Nat.le_of_ble_eq_true rfl) ?_
  show At G mX10_open 3 0 [(0, vr t), (1, vi p1)] [] (mm S) 0 0 (EQ none rr)
  refine At.iloadn dX10_open_0 rfl <| ?_
  obtain ⟨q1, hq1, h⟩ := bnd_e h
  rcases ite_e h with ⟨c14, h⟩ | ⟨c14, h⟩
  · refine At.cS1 (av := [vi p1]) (rest := []) ms_X11_isSpot lk_X10_54 dX10_open_1 rfl rfl (Nat.le_of_ble_eq_true rfl) (by decide) ⟨rfl, rfl⟩ (rX11_isSpot hq1) <| At.bifeq_f (tgt := 63) dX10_open_4 (by decide) c14 <| ?_
    refine At.aloadn dX10_open_7 rfl <| At.getR fl_X10_27 ht (le149 ht) (rfO_10_6 ht) dX10_open_8 <| At.iloadn dX10_open_11 rfl <| ?_
    obtain ⟨v2, hv2, g3, h⟩ := rdA_e h
    rcases ite_e h with ⟨c13, h⟩ | ⟨c13, h⟩
    · refine At.iald (shO_10_6 ht) (le149 (shO_10_6 ht)) g3.1 g3.2 dX10_open_12 <| At.nm hv2 <| At.if_ne_f (tgt := 63) dX10_open_13 (by decide) c13 <| ?_
      rcases ite_e h with ⟨c12, h⟩ | ⟨c12, h⟩
      · refine At.aloadn dX10_open_16 rfl <| At.getI fl_X10_47 ht (le149 ht) dX10_open_17 <| At.bipush dX10_open_20 (by decide) <| At.icmp_ge_t (tgt := 63) dX10_open_22 (by decide) c12 <| ?_
        obtain rfl := Option.some.inj h
        exact At.vret rfl (Nat.zero_le _) (Nat.zero_le _) ⟨rfl, rfl⟩ dX10_open_63
      · refine At.aloadn dX10_open_16 rfl <| At.getI fl_X10_47 ht (le149 ht) dX10_open_17 <| At.bipush dX10_open_20 (by decide) <| At.icmp_ge_f (tgt := 63) dX10_open_22 (by decide) c12 <| ?_
        refine At.aloadn dX10_open_25 rfl <| At.getR fl_X10_27 ht (le149 ht) (rfO_10_6 ht) dX10_open_26 <| At.iloadn dX10_open_29 rfl <| At.iconst dX10_open_30 (by decide) <| ?_
        obtain ⟨S4, hS4, g5, h⟩ := wrA_e h
        refine At.iast (shO_10_6 ht) (le149 (shO_10_6 ht)) g5.1 g5.2 dX10_open_31 <| At.nmS hS4 <| At.aloadn dX10_open_32 rfl <| At.getR fl_X10_30 ht (le149 ht) (rfO_10_7 ht) dX10_open_33 <| At.iloadn dX10_open_36 rfl <| At.aloadn dX10_open_37 rfl <| At.iloadn dX10_open_38 rfl <| ?_
        obtain ⟨q6, hq6, h⟩ := bnd_e h
        refine At.cV1 (av := [vi p1]) (rest := [vi p1, vr (t + 7)]) mv_X10_streetsFrom lk_X10_58 dX10_open_39 rfl rfl ht (Nat.le_of_ble_eq_true rfl) (by decide) ⟨rfl, rfl⟩ (rX10_streetsFrom ht hq6) <| ?_
        obtain ⟨S7, hS7, g8, h⟩ := wrA_e h
        refine At.iast (shO_10_7 ht) (le149 (shO_10_7 ht)) g8.1 g8.2 dX10_open_42 <| At.nmS hS7 <| At.aloadn dX10_open_43 rfl <| At.getR fl_X10_9 ht (le149 ht) (rfO_10_1 ht) dX10_open_44 <| At.aloadn dX10_open_47 rfl <| At.getI fl_X10_47 ht (le149 ht) dX10_open_48 <| At.iloadn dX10_open_51 rfl <| ?_
        obtain ⟨S9, hS9, g10, h⟩ := wrA_e h
        refine At.iast (shO_10_1 ht) (le149 (shO_10_1 ht)) g10.1 g10.2 dX10_open_52 <| At.nmS hS9 <| At.aloadn dX10_open_53 rfl <| At.dup rfl dX10_open_54 <| At.getI fl_X10_47 ht (le149 ht) dX10_open_55 <| At.iconst dX10_open_58 (by decide) <| At.iadd dX10_open_59 <| ?_
        obtain ⟨S11, hS11, h⟩ := lt_e h
        refine At.putI fw_X10_47 ht (le149 ht) dX10_open_60 <| At.nmS hS11 <| ?_
        obtain rfl := Option.some.inj h
        exact At.vret rfl (Nat.zero_le _) (Nat.zero_le _) ⟨rfl, rfl⟩ dX10_open_63
    · refine At.iald (shO_10_6 ht) (le149 (shO_10_6 ht)) g3.1 g3.2 dX10_open_12 <| At.nm hv2 <| At.if_ne_t (tgt := 63) dX10_open_13 (by decide) c13 <| ?_
      obtain rfl := Option.some.inj h
      exact At.vret rfl (Nat.zero_le _) (Nat.zero_le _) ⟨rfl, rfl⟩ dX10_open_63
  · refine At.cS1 (av := [vi p1]) (rest := []) ms_X11_isSpot lk_X10_54 dX10_open_1 rfl rfl (Nat.le_of_ble_eq_true rfl) (by decide) ⟨rfl, rfl⟩ (rX11_isSpot hq1) <| At.bifeq_t (tgt := 63) dX10_open_4 (by decide) c14 <| ?_
    obtain rfl := Option.some.inj h
    exact At.vret rfl (Nat.zero_le _) (Nat.zero_le _) ⟨rfl, rfl⟩ dX10_open_63
def fJ6_numberOfTrailingZeros_0f7a4 (p0 : Int) : Option Int :=
  lt (jand (jxor p0 ((-1))) (w32 (p0 - 1))) fun x1 =>
  if 0 < x1 then (
    Option.bind (
      if x1 ≤ 65536 then (
        some (x1, 1)
      ) else (
        lt (w32 (1 + 16)) fun x3 =>
        lt (jushr x1 16) fun x4 =>
        some (x4, x3)
      )
      : Option (Int × Int)) fun q2 =>
    Option.bind (
      if q2.1 ≤ 256 then (
        some (q2.1, q2.2)
      ) else (
        lt (w32 (q2.2 + 8)) fun x7 =>
        lt (jushr q2.1 8) fun x8 =>
        some (x8, x7)
      )
      : Option (Int × Int)) fun q6 =>
    Option.bind (
      if q6.1 ≤ 16 then (
        some (q6.1, q6.2)
      ) else (
        lt (w32 (q6.2 + 4)) fun x11 =>
        lt (jushr q6.1 4) fun x12 =>
        some (x12, x11)
      )
      : Option (Int × Int)) fun q10 =>
    Option.bind (
      if q10.1 ≤ 4 then (
        some (q10.1, q10.2)
      ) else (
        lt (w32 (q10.2 + 2)) fun x15 =>
        lt (jushr q10.1 2) fun x16 =>
        some (x16, x15)
      )
      : Option (Int × Int)) fun q14 =>
    some (w32 (q14.2 + (jushr q14.1 1)))
  ) else (
    some (jand x1 32)
  )
set_option maxRecDepth 100000 in
set_option maxHeartbeats 4000000 in
theorem rJ6_numberOfTrailingZeros_0f7a4 {G : GG} {p0 : Int} {S : SS} {rr : Int} (h : fJ6_numberOfTrailingZeros_0f7a4 p0 = some rr) : RD G mJ6_numberOfTrailingZeros_0f7a4 1 [vi p0] S (some (vi rr)) S := by
  unfold fJ6_numberOfTrailingZeros_0f7a4 at h
  refine Runs.of pl_J6 (Nat.le_of_ble_eq_true rfl) ?_
  show At G mJ6_numberOfTrailingZeros_0f7a4 1 0 [(0, vi p0)] [] (mm S) 0 0 (EQ (some (vi rr)) S)
  refine At.iloadn dJ6_numberOfTrailingZeros_0f7a4_0 rfl <| At.iconst dJ6_numberOfTrailingZeros_0f7a4_1 (by decide) <| At.ixor dJ6_numberOfTrailingZeros_0f7a4_2 <| At.iloadn dJ6_numberOfTrailingZeros_0f7a4_3 rfl <| At.iconst dJ6_numberOfTrailingZeros_0f7a4_4 (by decide) <| At.isub dJ6_numberOfTrailingZeros_0f7a4_5 <| At.iand dJ6_numberOfTrailingZeros_0f7a4_6 <| ?_
  obtain ⟨x1, hx1, h⟩ := lt_e h
  rcases ite_e h with ⟨c18, h⟩ | ⟨c18, h⟩
  · refine At.nm hx1 <| At.istoren (ls' := [(0, vi x1)]) dJ6_numberOfTrailingZeros_0f7a4_7 (by decide) rfl <| At.iloadn dJ6_numberOfTrailingZeros_0f7a4_8 rfl <| At.if_gt_t (tgt := 17) dJ6_numberOfTrailingZeros_0f7a4_9 (by decide) c18 <| ?_
    obtain ⟨q2, hj34, h⟩ := bnd_e h
    have K34 : At G mJ6_numberOfTrailingZeros_0f7a4 1 34 [(0, vi q2.1), (1, vi q2.2)] [] (mm S) 0 0 (EQ (some (vi rr)) S) := by
      obtain ⟨q6, hj49, h⟩ := bnd_e h
      have K49 : At G mJ6_numberOfTrailingZeros_0f7a4 1 49 [(0, vi q6.1), (1, vi q6.2)] [] (mm S) 0 0 (EQ (some (vi rr)) S) := by
        obtain ⟨q10, hj62, h⟩ := bnd_e h
        have K62 : At G mJ6_numberOfTrailingZeros_0f7a4 1 62 [(0, vi q10.1), (1, vi q10.2)] [] (mm S) 0 0 (EQ (some (vi rr)) S) := by
          obtain ⟨q14, hj74, h⟩ := bnd_e h
          have K74 : At G mJ6_numberOfTrailingZeros_0f7a4 1 74 [(0, vi q14.1), (1, vi q14.2)] [] (mm S) 0 0 (EQ (some (vi rr)) S) := by
            refine At.iloadn dJ6_numberOfTrailingZeros_0f7a4_74 rfl <| At.iloadn dJ6_numberOfTrailingZeros_0f7a4_75 rfl <| At.iconst dJ6_numberOfTrailingZeros_0f7a4_76 (by decide) <| At.iushr dJ6_numberOfTrailingZeros_0f7a4_77 <| At.iadd dJ6_numberOfTrailingZeros_0f7a4_78 <| ?_
            obtain rfl := Option.some.inj h
            exact At.iret rfl (Nat.zero_le _) (Nat.zero_le _) ⟨rfl, rfl⟩ dJ6_numberOfTrailingZeros_0f7a4_79
          clear h; have h := hj74; clear hj74
          rcases ite_e h with ⟨c17, h⟩ | ⟨c17, h⟩
          · refine At.iloadn dJ6_numberOfTrailingZeros_0f7a4_62 rfl <| At.iconst dJ6_numberOfTrailingZeros_0f7a4_63 (by decide) <| At.icmp_le_t (tgt := 74) dJ6_numberOfTrailingZeros_0f7a4_64 (by decide) c17 <| ?_
            obtain rfl := Option.some.inj h
            exact At.sub [0, 1] rfl K74
          · refine At.iloadn dJ6_numberOfTrailingZeros_0f7a4_62 rfl <| At.iconst dJ6_numberOfTrailingZeros_0f7a4_63 (by decide) <| At.icmp_le_f (tgt := 74) dJ6_numberOfTrailingZeros_0f7a4_64 (by decide) c17 <| ?_
            obtain ⟨x15, hx15, h⟩ := lt_e h
            refine At.iinc (ls' := [(1, vi x15), (0, vi q10.1)]) dJ6_numberOfTrailingZeros_0f7a4_67 rfl (by decide) (by rw [hx15]; rfl) <| At.iloadn dJ6_numberOfTrailingZeros_0f7a4_70 rfl <| At.iconst dJ6_numberOfTrailingZeros_0f7a4_71 (by decide) <| At.iushr dJ6_numberOfTrailingZeros_0f7a4_72 <| ?_
            obtain ⟨x16, hx16, h⟩ := lt_e h
            refine At.nm hx16 <| At.istoren (ls' := [(0, vi x16), (1, vi x15)]) dJ6_numberOfTrailingZeros_0f7a4_73 (by decide) rfl <| ?_
            obtain rfl := Option.some.inj h
            exact At.sub [0, 1] rfl K74
        clear h; have h := hj62; clear hj62
        rcases ite_e h with ⟨c13, h⟩ | ⟨c13, h⟩
        · refine At.iloadn dJ6_numberOfTrailingZeros_0f7a4_49 rfl <| At.bipush dJ6_numberOfTrailingZeros_0f7a4_50 (by decide) <| At.icmp_le_t (tgt := 62) dJ6_numberOfTrailingZeros_0f7a4_52 (by decide) c13 <| ?_
          obtain rfl := Option.some.inj h
          exact At.sub [0, 1] rfl K62
        · refine At.iloadn dJ6_numberOfTrailingZeros_0f7a4_49 rfl <| At.bipush dJ6_numberOfTrailingZeros_0f7a4_50 (by decide) <| At.icmp_le_f (tgt := 62) dJ6_numberOfTrailingZeros_0f7a4_52 (by decide) c13 <| ?_
          obtain ⟨x11, hx11, h⟩ := lt_e h
          refine At.iinc (ls' := [(1, vi x11), (0, vi q6.1)]) dJ6_numberOfTrailingZeros_0f7a4_55 rfl (by decide) (by rw [hx11]; rfl) <| At.iloadn dJ6_numberOfTrailingZeros_0f7a4_58 rfl <| At.iconst dJ6_numberOfTrailingZeros_0f7a4_59 (by decide) <| At.iushr dJ6_numberOfTrailingZeros_0f7a4_60 <| ?_
          obtain ⟨x12, hx12, h⟩ := lt_e h
          refine At.nm hx12 <| At.istoren (ls' := [(0, vi x12), (1, vi x11)]) dJ6_numberOfTrailingZeros_0f7a4_61 (by decide) rfl <| ?_
          obtain rfl := Option.some.inj h
          exact At.sub [0, 1] rfl K62
      clear h; have h := hj49; clear hj49
      rcases ite_e h with ⟨c9, h⟩ | ⟨c9, h⟩
      · refine At.iloadn dJ6_numberOfTrailingZeros_0f7a4_34 rfl <| At.sipush dJ6_numberOfTrailingZeros_0f7a4_35 (by decide) <| At.icmp_le_t (tgt := 49) dJ6_numberOfTrailingZeros_0f7a4_38 (by decide) c9 <| ?_
        obtain rfl := Option.some.inj h
        exact At.sub [0, 1] rfl K49
      · refine At.iloadn dJ6_numberOfTrailingZeros_0f7a4_34 rfl <| At.sipush dJ6_numberOfTrailingZeros_0f7a4_35 (by decide) <| At.icmp_le_f (tgt := 49) dJ6_numberOfTrailingZeros_0f7a4_38 (by decide) c9 <| ?_
        obtain ⟨x7, hx7, h⟩ := lt_e h
        refine At.iinc (ls' := [(1, vi x7), (0, vi q2.1)]) dJ6_numberOfTrailingZeros_0f7a4_41 rfl (by decide) (by rw [hx7]; rfl) <| At.iloadn dJ6_numberOfTrailingZeros_0f7a4_44 rfl <| At.bipush dJ6_numberOfTrailingZeros_0f7a4_45 (by decide) <| At.iushr dJ6_numberOfTrailingZeros_0f7a4_47 <| ?_
        obtain ⟨x8, hx8, h⟩ := lt_e h
        refine At.nm hx8 <| At.istoren (ls' := [(0, vi x8), (1, vi x7)]) dJ6_numberOfTrailingZeros_0f7a4_48 (by decide) rfl <| ?_
        obtain rfl := Option.some.inj h
        exact At.sub [0, 1] rfl K49
    clear h; have h := hj34; clear hj34
    rcases ite_e h with ⟨c5, h⟩ | ⟨c5, h⟩
    · refine At.iconst dJ6_numberOfTrailingZeros_0f7a4_17 (by decide) <| At.istoren (ls' := [(1, vi 1), (0, vi x1)]) dJ6_numberOfTrailingZeros_0f7a4_18 (by decide) rfl <| At.iloadn dJ6_numberOfTrailingZeros_0f7a4_19 rfl <| At.ldcw dJ6_numberOfTrailingZeros_0f7a4_20 ki_J6_264 (by decide) <| At.icmp_le_t (tgt := 34) dJ6_numberOfTrailingZeros_0f7a4_23 (by decide) c5 <| ?_
      obtain rfl := Option.some.inj h
      exact At.sub [1, 0] rfl K34
    · refine At.iconst dJ6_numberOfTrailingZeros_0f7a4_17 (by decide) <| At.istoren (ls' := [(1, vi 1), (0, vi x1)]) dJ6_numberOfTrailingZeros_0f7a4_18 (by decide) rfl <| At.iloadn dJ6_numberOfTrailingZeros_0f7a4_19 rfl <| At.ldcw dJ6_numberOfTrailingZeros_0f7a4_20 ki_J6_264 (by decide) <| At.icmp_le_f (tgt := 34) dJ6_numberOfTrailingZeros_0f7a4_23 (by decide) c5 <| ?_
      obtain ⟨x3, hx3, h⟩ := lt_e h
      refine At.iinc (ls' := [(1, vi x3), (0, vi x1)]) dJ6_numberOfTrailingZeros_0f7a4_26 rfl (by decide) (by rw [hx3]; rfl) <| At.iloadn dJ6_numberOfTrailingZeros_0f7a4_29 rfl <| At.bipush dJ6_numberOfTrailingZeros_0f7a4_30 (by decide) <| At.iushr dJ6_numberOfTrailingZeros_0f7a4_32 <| ?_
      obtain ⟨x4, hx4, h⟩ := lt_e h
      refine At.nm hx4 <| At.istoren (ls' := [(0, vi x4), (1, vi x3)]) dJ6_numberOfTrailingZeros_0f7a4_33 (by decide) rfl <| ?_
      obtain rfl := Option.some.inj h
      exact At.sub [0, 1] rfl K34
  · refine At.nm hx1 <| At.istoren (ls' := [(0, vi x1)]) dJ6_numberOfTrailingZeros_0f7a4_7 (by decide) rfl <| At.iloadn dJ6_numberOfTrailingZeros_0f7a4_8 rfl <| At.if_gt_f (tgt := 17) dJ6_numberOfTrailingZeros_0f7a4_9 (by decide) c18 <| ?_
    refine At.iloadn dJ6_numberOfTrailingZeros_0f7a4_12 rfl <| At.bipush dJ6_numberOfTrailingZeros_0f7a4_13 (by decide) <| At.iand dJ6_numberOfTrailingZeros_0f7a4_15 <| ?_
    obtain rfl := Option.some.inj h
    exact At.iret rfl (Nat.zero_le _) (Nat.zero_le _) ⟨rfl, rfl⟩ dJ6_numberOfTrailingZeros_0f7a4_16
def fX10_hasRing_L26 (l0 : Nat) (l1 : Int) (l3 : Nat) : Nat → Int → SS → Option (Nat × SS)
  | 0, _, _ => none
  | n + 1, l4, S =>
    if 1080 ≤ l4 then (
      some (1, S)
    ) else (
      if (S l0 8) ≤ 0 then (
        some (1, S)
      ) else (
        if 120 < (S l0 8) then (
          some (1, S)
        ) else (
          rdA S (l0 + 1) 120 (w32 ((S l0 8) - 1)) fun v1 =>
          Option.bind (fX11_isSpot v1) fun q3 =>
          if q3 = true then (
            rdA S (l0 + 7) 120 v1 fun v4 =>
            if v4 = 0 then (
              wrA S (l0 + 6) 120 v1 2 fun S6 =>
              lt (up S6 l0 8 (w32 ((S6 l0 8) - 1))) fun S8 =>
              lt (w32 (l4 + 1)) fun x9 =>
              fX10_hasRing_L26 l0 l1 l3 n x9 S8
            ) else (
              wrA S (l0 + 7) 120 v1 (jand v4 (w32 (v4 - 1))) fun S10 =>
              Option.bind (fJ6_numberOfTrailingZeros_0f7a4 v4) fun q12 =>
              Option.bind (fX5_after l1 q12 v1 l3 S10) fun q13 =>
              Option.bind (fX11_isSpot q13.1) fun q14 =>
              if q14 = true then (
                rdA q13.2 (l0 + 6) 120 q13.1 fun v15 =>
                if v15 = 1 then (
                  some (0, q13.2)
                ) else (
                  Option.bind (fX10_open l0 q13.1 q13.2) fun q17 =>
                  lt (w32 (l4 + 1)) fun x18 =>
                  fX10_hasRing_L26 l0 l1 l3 n x18 q17
                )
              ) else (
                Option.bind (fX10_open l0 q13.1 q13.2) fun q20 =>
                lt (w32 (l4 + 1)) fun x21 =>
                fX10_hasRing_L26 l0 l1 l3 n x21 q20
              )
            )
          ) else (
            some (1, S)
          )
        )
      )
    )
def fX10_hasRing (t : Nat) (p1 : Int) (p2 : Int) (p3 : Nat) (S : SS) : Option (Bool × SS) :=
  Option.bind (fX10_begin t p3 S) fun q1 =>
  Option.bind (fJ7_fill_53178_120 (t + 6) 0 q1) fun q2 =>
  lt (up q2 t 8 0) fun S3 =>
  Option.bind (fX10_open t p2 S3) fun q4 =>
  Option.bind (fX10_hasRing_L26 t p1 p3 FU 0 q4) fun q5 =>
  if q5.1 = 0 then (
    some (true, q5.2)
  ) else (
    some (false, q5.2)
  )
set_option maxRecDepth 100000 in
set_option maxHeartbeats 4000000 in
theorem lX10_hasRing_L26 {G : GG} {Φ : Option VV → MM → Prop} {l0 : Nat} {l1 : Int} {l3 : Nat} (hl0 : sh l0 = (10, 10)) (hl3 : sh l3 = (6, 4)) : ∀ (n : Nat) (l4 : Int) (S : SS) (q : Nat × SS), fX10_hasRing_L26 l0 l1 l3 n l4 S = some q → (q.1 = 0 → At G mX10_hasRing 5 159 [] [] (mm q.2) 0 0 Φ) → (q.1 = 1 → Φ (some (vi (bI false))) (mm q.2)) → At G mX10_hasRing 5 26 [(0, vr l0), (1, vi l1), (3, vr l3), (4, vi l4)] [] (mm S) 0 0 Φ := by
  intro n
  induction n with
  | zero =>
    intro _ _ _ h
    cases h
  | succ n ih =>
    intro l4 S q h K159 KR
    unfold fX10_hasRing_L26 at h
    rcases ite_e h with ⟨c27, h⟩ | ⟨c27, h⟩
    · refine At.iload dX10_hasRing_26 rfl <| At.sipush dX10_hasRing_28 (by decide) <| At.icmp_ge_t (tgt := 173) dX10_hasRing_31 (by decide) c27 <| ?_
      obtain rfl := Option.some.inj h
      exact At.iconst dX10_hasRing_173 (by decide) <| At.zret (b := false) rfl (Nat.le_refl _) (Nat.le_refl _) (KR rfl) dX10_hasRing_174
    · refine At.iload dX10_hasRing_26 rfl <| At.sipush dX10_hasRing_28 (by decide) <| At.icmp_ge_f (tgt := 173) dX10_hasRing_31 (by decide) c27 <| ?_
      rcases ite_e h with ⟨c26, h⟩ | ⟨c26, h⟩
      · refine At.aloadn dX10_hasRing_34 rfl <| At.getI fl_X10_47 hl0 (le149 hl0) dX10_hasRing_35 <| At.if_le_t (tgt := 173) dX10_hasRing_38 (by decide) c26 <| ?_
        obtain rfl := Option.some.inj h
        exact At.iconst dX10_hasRing_173 (by decide) <| At.zret (b := false) rfl (Nat.le_refl _) (Nat.le_refl _) (KR rfl) dX10_hasRing_174
      · refine At.aloadn dX10_hasRing_34 rfl <| At.getI fl_X10_47 hl0 (le149 hl0) dX10_hasRing_35 <| At.if_le_f (tgt := 173) dX10_hasRing_38 (by decide) c26 <| ?_
        rcases ite_e h with ⟨c25, h⟩ | ⟨c25, h⟩
        · refine At.aloadn dX10_hasRing_41 rfl <| At.getI fl_X10_47 hl0 (le149 hl0) dX10_hasRing_42 <| At.bipush dX10_hasRing_45 (by decide) <| At.icmp_gt_t (tgt := 173) dX10_hasRing_47 (by decide) c25 <| ?_
          obtain rfl := Option.some.inj h
          exact At.iconst dX10_hasRing_173 (by decide) <| At.zret (b := false) rfl (Nat.le_refl _) (Nat.le_refl _) (KR rfl) dX10_hasRing_174
        · refine At.aloadn dX10_hasRing_41 rfl <| At.getI fl_X10_47 hl0 (le149 hl0) dX10_hasRing_42 <| At.bipush dX10_hasRing_45 (by decide) <| At.icmp_gt_f (tgt := 173) dX10_hasRing_47 (by decide) c25 <| ?_
          refine At.aloadn dX10_hasRing_50 rfl <| At.getR fl_X10_9 hl0 (le149 hl0) (rfO_10_1 hl0) dX10_hasRing_51 <| At.aloadn dX10_hasRing_54 rfl <| At.getI fl_X10_47 hl0 (le149 hl0) dX10_hasRing_55 <| At.iconst dX10_hasRing_58 (by decide) <| At.isub dX10_hasRing_59 <| ?_
          obtain ⟨v1, hv1, g2, h⟩ := rdA_e h
          refine At.iald (shO_10_1 hl0) (le149 (shO_10_1 hl0)) g2.1 g2.2 dX10_hasRing_60 <| At.nm hv1 <| At.istore (ls' := [(5, vi v1), (0, vr l0), (1, vi l1), (3, vr l3), (4, vi l4)]) dX10_hasRing_61 (by decide) rfl <| At.iload dX10_hasRing_63 rfl <| ?_
          obtain ⟨q3, hq3, h⟩ := bnd_e h
          rcases ite_e h with ⟨c24, h⟩ | ⟨c24, h⟩
          · refine At.cS1 (av := [vi v1]) (rest := []) ms_X11_isSpot lk_X10_54 dX10_hasRing_65 rfl rfl (Nat.le_of_ble_eq_true rfl) (by decide) ⟨rfl, rfl⟩ (rX11_isSpot hq3) <| At.bifne_t (tgt := 73) dX10_hasRing_68 (by decide) c24 <| ?_
            refine At.aloadn dX10_hasRing_73 rfl <| At.getR fl_X10_30 hl0 (le149 hl0) (rfO_10_7 hl0) dX10_hasRing_74 <| At.iload dX10_hasRing_77 rfl <| ?_
            obtain ⟨v4, hv4, g5, h⟩ := rdA_e h
            rcases ite_e h with ⟨c23, h⟩ | ⟨c23, h⟩
            · refine At.iald (shO_10_7 hl0) (le149 (shO_10_7 hl0)) g5.1 g5.2 dX10_hasRing_79 <| At.nm hv4 <| At.istore (ls' := [(6, vi v4), (5, vi v1), (0, vr l0), (1, vi l1), (3, vr l3), (4, vi l4)]) dX10_hasRing_80 (by decide) rfl <| At.iload dX10_hasRing_82 rfl <| At.if_ne_f (tgt := 108) dX10_hasRing_84 (by decide) c23 <| ?_
              refine At.aloadn dX10_hasRing_87 rfl <| At.getR fl_X10_27 hl0 (le149 hl0) (rfO_10_6 hl0) dX10_hasRing_88 <| At.iload dX10_hasRing_91 rfl <| At.iconst dX10_hasRing_93 (by decide) <| ?_
              obtain ⟨S6, hS6, g7, h⟩ := wrA_e h
              refine At.iast (shO_10_6 hl0) (le149 (shO_10_6 hl0)) g7.1 g7.2 dX10_hasRing_94 <| At.nmS hS6 <| At.aloadn dX10_hasRing_95 rfl <| At.dup rfl dX10_hasRing_96 <| At.getI fl_X10_47 hl0 (le149 hl0) dX10_hasRing_97 <| At.iconst dX10_hasRing_100 (by decide) <| At.isub dX10_hasRing_101 <| ?_
              obtain ⟨S8, hS8, h⟩ := lt_e h
              refine At.putI fw_X10_47 hl0 (le149 hl0) dX10_hasRing_102 <| At.nmS hS8 <| At.goto (tgt := 167) dX10_hasRing_105 (by decide) <| ?_
              obtain ⟨x9, hx9, h⟩ := lt_e h
              refine At.iinc (ls' := [(4, vi x9), (6, vi v4), (5, vi v1), (0, vr l0), (1, vi l1), (3, vr l3)]) dX10_hasRing_167 rfl (by decide) (by rw [hx9]; rfl) <| At.goto (tgt := 26) dX10_hasRing_170 (by decide) <| ?_
              exact At.sub [3, 4, 5, 0] rfl (ih _ _ _ h K159 KR)
            · refine At.iald (shO_10_7 hl0) (le149 (shO_10_7 hl0)) g5.1 g5.2 dX10_hasRing_79 <| At.nm hv4 <| At.istore (ls' := [(6, vi v4), (5, vi v1), (0, vr l0), (1, vi l1), (3, vr l3), (4, vi l4)]) dX10_hasRing_80 (by decide) rfl <| At.iload dX10_hasRing_82 rfl <| At.if_ne_t (tgt := 108) dX10_hasRing_84 (by decide) c23 <| ?_
              refine At.aloadn dX10_hasRing_108 rfl <| At.getR fl_X10_30 hl0 (le149 hl0) (rfO_10_7 hl0) dX10_hasRing_109 <| At.iload dX10_hasRing_112 rfl <| At.iload dX10_hasRing_114 rfl <| At.iload dX10_hasRing_116 rfl <| At.iconst dX10_hasRing_118 (by decide) <| At.isub dX10_hasRing_119 <| At.iand dX10_hasRing_120 <| ?_
              obtain ⟨S10, hS10, g11, h⟩ := wrA_e h
              refine At.iast (shO_10_7 hl0) (le149 (shO_10_7 hl0)) g11.1 g11.2 dX10_hasRing_121 <| At.nmS hS10 <| At.aloadn dX10_hasRing_122 rfl <| At.getR fl_X10_33 hl0 (le149 hl0) (rfO_10_0 hl0) dX10_hasRing_123 <| At.iloadn dX10_hasRing_126 rfl <| At.iload dX10_hasRing_127 rfl <| ?_
              obtain ⟨q12, hq12, h⟩ := bnd_e h
              refine At.cS1 (av := [vi v4]) (rest := [vi l1, vr 30]) ms_J6_numberOfTrailingZeros_0f7a4 lk_X10_90 dX10_hasRing_129 rfl rfl (Nat.le_of_ble_eq_true rfl) (by decide) ⟨rfl, rfl⟩ (rJ6_numberOfTrailingZeros_0f7a4 hq12) <| At.iload dX10_hasRing_132 rfl <| At.aloadn dX10_hasRing_134 rfl <| ?_
              obtain ⟨q13, hq13, h⟩ := bnd_e h
              refine At.cV1 (av := [vi l1, vi q12, vi v1, vr l3]) (rest := []) mv_X5_after lk_X10_62 dX10_hasRing_135 rfl rfl sh_30 (Nat.le_of_ble_eq_true rfl) (by decide) ⟨rfl, rfl⟩ (rX5_after hl3 hq13) <| At.istore (ls' := [(7, vi q13.1), (6, vi v4), (5, vi v1), (0, vr l0), (1, vi l1), (3, vr l3), (4, vi l4)]) dX10_hasRing_138 (by decide) rfl <| At.iload dX10_hasRing_140 rfl <| ?_
              obtain ⟨q14, hq14, h⟩ := bnd_e h
              rcases ite_e h with ⟨c22, h⟩ | ⟨c22, h⟩
              · refine At.cS1 (av := [vi q13.1]) (rest := []) ms_X11_isSpot lk_X10_54 dX10_hasRing_142 rfl rfl (Nat.le_of_ble_eq_true rfl) (by decide) ⟨rfl, rfl⟩ (rX11_isSpot hq14) <| At.bifeq_f (tgt := 161) dX10_hasRing_145 (by decide) c22 <| ?_
                refine At.aloadn dX10_hasRing_148 rfl <| At.getR fl_X10_27 hl0 (le149 hl0) (rfO_10_6 hl0) dX10_hasRing_149 <| At.iload dX10_hasRing_152 rfl <| ?_
                obtain ⟨v15, hv15, g16, h⟩ := rdA_e h
                rcases ite_e h with ⟨c19, h⟩ | ⟨c19, h⟩
                · refine At.iald (shO_10_6 hl0) (le149 (shO_10_6 hl0)) g16.1 g16.2 dX10_hasRing_154 <| At.nm hv15 <| At.iconst dX10_hasRing_155 (by decide) <| At.icmp_ne_f (tgt := 161) dX10_hasRing_156 (by decide) c19 <| ?_
                  obtain rfl := Option.some.inj h
                  exact At.sub [] rfl (K159 rfl)
                · refine At.iald (shO_10_6 hl0) (le149 (shO_10_6 hl0)) g16.1 g16.2 dX10_hasRing_154 <| At.nm hv15 <| At.iconst dX10_hasRing_155 (by decide) <| At.icmp_ne_t (tgt := 161) dX10_hasRing_156 (by decide) c19 <| ?_
                  refine At.aloadn dX10_hasRing_161 rfl <| At.iload dX10_hasRing_162 rfl <| ?_
                  obtain ⟨q17, hq17, h⟩ := bnd_e h
                  refine At.cV0 (av := [vi q13.1]) (rest := []) mv_X10_open lk_X10_87 dX10_hasRing_164 rfl rfl hl0 (Nat.le_of_ble_eq_true rfl) (by decide) ⟨rfl, rfl⟩ (rX10_open hl0 hq17) <| ?_
                  obtain ⟨x18, hx18, h⟩ := lt_e h
                  refine At.iinc (ls' := [(4, vi x18), (7, vi q13.1), (6, vi v4), (5, vi v1), (0, vr l0), (1, vi l1), (3, vr l3)]) dX10_hasRing_167 rfl (by decide) (by rw [hx18]; rfl) <| At.goto (tgt := 26) dX10_hasRing_170 (by decide) <| ?_
                  exact At.sub [4, 5, 6, 0] rfl (ih _ _ _ h K159 KR)
              · refine At.cS1 (av := [vi q13.1]) (rest := []) ms_X11_isSpot lk_X10_54 dX10_hasRing_142 rfl rfl (Nat.le_of_ble_eq_true rfl) (by decide) ⟨rfl, rfl⟩ (rX11_isSpot hq14) <| At.bifeq_t (tgt := 161) dX10_hasRing_145 (by decide) c22 <| ?_
                refine At.aloadn dX10_hasRing_161 rfl <| At.iload dX10_hasRing_162 rfl <| ?_
                obtain ⟨q20, hq20, h⟩ := bnd_e h
                refine At.cV0 (av := [vi q13.1]) (rest := []) mv_X10_open lk_X10_87 dX10_hasRing_164 rfl rfl hl0 (Nat.le_of_ble_eq_true rfl) (by decide) ⟨rfl, rfl⟩ (rX10_open hl0 hq20) <| ?_
                obtain ⟨x21, hx21, h⟩ := lt_e h
                refine At.iinc (ls' := [(4, vi x21), (7, vi q13.1), (6, vi v4), (5, vi v1), (0, vr l0), (1, vi l1), (3, vr l3)]) dX10_hasRing_167 rfl (by decide) (by rw [hx21]; rfl) <| At.goto (tgt := 26) dX10_hasRing_170 (by decide) <| ?_
                exact At.sub [4, 5, 6, 0] rfl (ih _ _ _ h K159 KR)
          · refine At.cS1 (av := [vi v1]) (rest := []) ms_X11_isSpot lk_X10_54 dX10_hasRing_65 rfl rfl (Nat.le_of_ble_eq_true rfl) (by decide) ⟨rfl, rfl⟩ (rX11_isSpot hq3) <| At.bifne_f (tgt := 73) dX10_hasRing_68 (by decide) c24 <| ?_
            obtain rfl := Option.some.inj h
            exact At.iconst dX10_hasRing_71 (by decide) <| At.zret (b := false) rfl (Nat.le_refl _) (Nat.le_refl _) (KR rfl) dX10_hasRing_72
set_option maxRecDepth 100000 in
set_option maxHeartbeats 4000000 in
theorem rX10_hasRing {G : GG} {t : Nat} {p1 : Int} {p2 : Int} {p3 : Nat} {S : SS} {rr : (Bool × SS)} (ht : sh t = (10, 10)) (hp3 : sh p3 = (6, 4)) (h : fX10_hasRing t p1 p2 p3 S = some rr) : RD G mX10_hasRing 5 [vr t, vi p1, vi p2, vr p3] S (some (vi (bI rr.1))) rr.2 := by
  unfold fX10_hasRing at h
  refine Runs.of pl_X10 (Nat.le_of_ble_eq_true rfl) ?_
  show At G mX10_hasRing 5 0 [(0, vr t), (1, vi p1), (2, vi p2), (3, vr p3)] [] (mm S) 0 0 (EQ (some (vi (bI rr.1))) rr.2)
  refine At.aloadn dX10_hasRing_0 rfl <| At.aloadn dX10_hasRing_1 rfl <| ?_
  obtain ⟨q1, hq1, h⟩ := bnd_e h
  refine At.cV0 (av := [vr p3]) (rest := []) mv_X10_begin lk_X10_37 dX10_hasRing_2 rfl rfl ht (Nat.le_of_ble_eq_true rfl) (by decide) ⟨rfl, rfl⟩ (rX10_begin ht hp3 hq1) <| At.aloadn dX10_hasRing_5 rfl <| At.getR fl_X10_27 ht (le149 ht) (rfO_10_6 ht) dX10_hasRing_6 <| At.iconst dX10_hasRing_9 (by decide) <| ?_
  obtain ⟨q2, hq2, h⟩ := bnd_e h
  refine At.cS0 (av := [vr (t + 6), vi 0]) (rest := []) ms_J7_fill_53178 lk_X10_41 dX10_hasRing_10 rfl rfl (Nat.le_of_ble_eq_true rfl) (by decide) ⟨rfl, rfl⟩ (rJ7_fill_53178_120 (shO_10_6 ht) hq2) <| At.aloadn dX10_hasRing_13 rfl <| At.iconst dX10_hasRing_14 (by decide) <| ?_
  obtain ⟨S3, hS3, h⟩ := lt_e h
  refine At.putI fw_X10_47 ht (le149 ht) dX10_hasRing_15 <| At.nmS hS3 <| At.aloadn dX10_hasRing_18 rfl <| At.iloadn dX10_hasRing_19 rfl <| ?_
  obtain ⟨q4, hq4, h⟩ := bnd_e h
  refine At.cV0 (av := [vi p2]) (rest := []) mv_X10_open lk_X10_87 dX10_hasRing_20 rfl rfl ht (Nat.le_of_ble_eq_true rfl) (by decide) ⟨rfl, rfl⟩ (rX10_open ht hq4) <| At.iconst dX10_hasRing_23 (by decide) <| At.istore (ls' := [(4, vi 0), (0, vr t), (1, vi p1), (2, vi p2), (3, vr p3)]) dX10_hasRing_24 (by decide) rfl <| ?_
  obtain ⟨q5, ho6, h⟩ := bnd_e h
  refine At.sub [1, 2, 4, 0] rfl (lX10_hasRing_L26 ht hp3 FU _ _ q5 ho6 (fun hq => ?_) (fun hq => ?_))
  · rw [if_pos hq] at h
    refine At.iconst dX10_hasRing_159 (by decide) <| ?_
    obtain rfl := Option.some.inj h
    exact At.zret (b := true) rfl (Nat.zero_le _) (Nat.zero_le _) ⟨rfl, rfl⟩ dX10_hasRing_160
  · rw [if_neg (by omega)] at h
    obtain rfl := Option.some.inj h
    exact ⟨rfl, rfl⟩
def fX11_isBylaw (p1 : Int) (p2 : Int) (S : SS) : Option (Bool × SS) :=
  Option.bind (fX6_copyOf 15 7 S) fun q1 =>
  Option.bind (fX6_signAll 15 p2 (q1 2 6) q1) fun q2 =>
  Option.bind (fX6_spotOf 15 p1 q2) fun q3 =>
  Option.bind (fX10_hasRing 35 p1 q3 15 q2) fun q4 =>
  if q4.1 = true then (
    some (false, q4.2)
  ) else (
    some (true, q4.2)
  )
set_option maxRecDepth 100000 in
set_option maxHeartbeats 4000000 in
theorem rX11_isBylaw {G : GG} {p1 : Int} {p2 : Int} {S : SS} {rr : (Bool × SS)} (h : fX11_isBylaw p1 p2 S = some rr) : RD G mX11_isBylaw 6 [vr 1, vi p1, vi p2] S (some (vi (bI rr.1))) rr.2 := by
  unfold fX11_isBylaw at h
  refine Runs.of pl_X11 (Nat.le_of_ble_eq_true rfl) ?_
  show At G mX11_isBylaw 6 0 [(0, vr 1), (1, vi p1), (2, vi p2)] [] (mm S) 0 0 (EQ (some (vi (bI rr.1))) rr.2)
  refine At.aloadn dX11_isBylaw_0 rfl <| At.getR fl_X11_29 sh_1 (le149 sh_1) rf_1_3 dX11_isBylaw_1 <| At.aloadn dX11_isBylaw_4 rfl <| At.getR fl_X11_20 sh_1 (le149 sh_1) rf_1_1 dX11_isBylaw_5 <| ?_
  obtain ⟨q1, hq1, h⟩ := bnd_e h
  refine At.cV0 (av := [vr 7]) (rest := []) mv_X6_copyOf lk_X11_170 dX11_isBylaw_8 rfl rfl sh_15 (Nat.le_of_ble_eq_true rfl) (by decide) ⟨rfl, rfl⟩ (rX6_copyOf sh_15 sh_7 hq1) <| At.aloadn dX11_isBylaw_11 rfl <| At.getR fl_X11_29 sh_1 (le149 sh_1) rf_1_3 dX11_isBylaw_12 <| At.iloadn dX11_isBylaw_15 rfl <| At.aloadn dX11_isBylaw_16 rfl <| At.getR fl_X11_12 sh_1 (le149 sh_1) rf_1_0 dX11_isBylaw_17 <| At.getI fl_X11_160 sh_2 (le149 sh_2) dX11_isBylaw_20 <| ?_
  obtain ⟨q2, hq2, h⟩ := bnd_e h
  refine At.cV0 (av := [vi p2, vi (q1 2 6)]) (rest := []) mv_X6_signAll lk_X11_300 dX11_isBylaw_23 rfl rfl sh_15 (Nat.le_of_ble_eq_true rfl) (by decide) ⟨rfl, rfl⟩ (rX6_signAll sh_15 hq2) <| At.aloadn dX11_isBylaw_26 rfl <| At.getR fl_X11_62 sh_1 (le149 sh_1) rf_1_7 dX11_isBylaw_27 <| At.iloadn dX11_isBylaw_30 rfl <| At.aloadn dX11_isBylaw_31 rfl <| At.getR fl_X11_29 sh_1 (le149 sh_1) rf_1_3 dX11_isBylaw_32 <| At.iloadn dX11_isBylaw_35 rfl <| ?_
  obtain ⟨q3, hq3, h⟩ := bnd_e h
  refine At.cV1 (av := [vi p1]) (rest := [vi p1, vr 35]) mv_X6_spotOf lk_X11_163 dX11_isBylaw_36 rfl rfl sh_15 (Nat.le_of_ble_eq_true rfl) (by decide) ⟨rfl, rfl⟩ (rX6_spotOf sh_15 hq3) <| At.aloadn dX11_isBylaw_39 rfl <| At.getR fl_X11_29 sh_1 (le149 sh_1) rf_1_3 dX11_isBylaw_40 <| ?_
  obtain ⟨q4, hq4, h⟩ := bnd_e h
  rcases ite_e h with ⟨c5, h⟩ | ⟨c5, h⟩
  · refine At.cV1 (av := [vi p1, vi q3, vr 15]) (rest := []) mv_X10_hasRing lk_X11_304 dX11_isBylaw_43 rfl rfl sh_35 (Nat.le_of_ble_eq_true rfl) (by decide) ⟨rfl, rfl⟩ (rX10_hasRing sh_35 sh_15 hq4) <| At.bifne_t (tgt := 53) dX11_isBylaw_46 (by decide) c5 <| ?_
    refine At.iconst dX11_isBylaw_53 (by decide) <| ?_
    obtain rfl := Option.some.inj h
    exact At.zret (b := false) rfl (Nat.zero_le _) (Nat.zero_le _) ⟨rfl, rfl⟩ dX11_isBylaw_54
  · refine At.cV1 (av := [vi p1, vi q3, vr 15]) (rest := []) mv_X10_hasRing lk_X11_304 dX11_isBylaw_43 rfl rfl sh_35 (Nat.le_of_ble_eq_true rfl) (by decide) ⟨rfl, rfl⟩ (rX10_hasRing sh_35 sh_15 hq4) <| At.bifne_f (tgt := 53) dX11_isBylaw_46 (by decide) c5 <| ?_
    refine At.iconst dX11_isBylaw_49 (by decide) <| At.goto (tgt := 54) dX11_isBylaw_50 (by decide) <| ?_
    obtain rfl := Option.some.inj h
    exact At.zret (b := true) rfl (Nat.zero_le _) (Nat.zero_le _) ⟨rfl, rfl⟩ dX11_isBylaw_54
def fX11_laws_L44 (l1 : Int) (l2 : Int) : Nat → Int → Int → SS → Option (Int × SS)
  | 0, _, _, _ => none
  | n + 1, l3, l4, S =>
    if l2 < l4 then (
      some (l3, S)
    ) else (
      Option.bind (
        if (jand l4 (jxor l2 ((-1)))) = 0 then (
          Option.bind (fX11_isBylaw l1 l4 S) fun q2 =>
          if q2.1 = true then (
            lt (w32 (l3 + 1)) fun x3 =>
            some (x3, q2.2)
          ) else (
            some (l3, q2.2)
          )
        ) else (
          some (l3, S)
        )
        : Option (Int × SS)) fun q1 =>
      lt (w32 (l4 + 1)) fun x6 =>
      fX11_laws_L44 l1 l2 n q1.1 x6 q1.2
    )
def fX11_laws (p1 : Int) (S : SS) : Option (Int × SS) :=
  Option.bind (fX8_hasGoer 2 p1 S) fun q1 =>
  if q1 = true then (
    Option.bind (fX8_allStreets 2 S) fun q2 =>
    Option.bind (fX6_shutStreets 7 (S 2 6) S) fun q3 =>
    lt (jand q2 (jxor q3 ((-1)))) fun x4 =>
    Option.bind (fX11_laws_L44 p1 x4 FU 0 0 S) fun q5 =>
    some (q5.1, q5.2)
  ) else (
    some ((-2), S)
  )
set_option maxRecDepth 100000 in
set_option maxHeartbeats 4000000 in
theorem lX11_laws_L44 {G : GG} {Φ : Option VV → MM → Prop} {l1 : Int} {l2 : Int} : ∀ (n : Nat) (l3 : Int) (l4 : Int) (S : SS) (q : Int × SS), fX11_laws_L44 l1 l2 n l3 l4 S = some q → At G mX11_laws 7 78 [(3, vi q.1)] [] (mm q.2) 0 0 Φ → At G mX11_laws 7 44 [(0, vr 1), (1, vi l1), (2, vi l2), (3, vi l3), (4, vi l4)] [] (mm S) 0 0 Φ := by
  intro n
  induction n with
  | zero =>
    intro _ _ _ _ h
    cases h
  | succ n ih =>
    intro l3 l4 S q h K78
    unfold fX11_laws_L44 at h
    rcases ite_e h with ⟨c7, h⟩ | ⟨c7, h⟩
    · refine At.iload dX11_laws_44 rfl <| At.iloadn dX11_laws_46 rfl <| At.icmp_gt_t (tgt := 78) dX11_laws_47 (by decide) c7 <| ?_
      obtain rfl := Option.some.inj h
      exact At.sub [3] rfl K78
    · refine At.iload dX11_laws_44 rfl <| At.iloadn dX11_laws_46 rfl <| At.icmp_gt_f (tgt := 78) dX11_laws_47 (by decide) c7 <| ?_
      obtain ⟨q1, hj72, h⟩ := bnd_e h
      have K72 : At G mX11_laws 7 72 [(0, vr 1), (1, vi l1), (2, vi l2), (3, vi q1.1), (4, vi l4)] [] (mm q1.2) 0 0 Φ := by
        obtain ⟨x6, hx6, h⟩ := lt_e h
        refine At.iinc (ls' := [(4, vi x6), (0, vr 1), (1, vi l1), (2, vi l2), (3, vi q1.1)]) dX11_laws_72 rfl (by decide) (by rw [hx6]; rfl) <| At.goto (tgt := 44) dX11_laws_75 (by decide) <| ?_
        exact At.sub [1, 2, 3, 4, 0] rfl (ih _ _ _ _ h K78)
      clear h; have h := hj72; clear hj72
      rcases ite_e h with ⟨c5, h⟩ | ⟨c5, h⟩
      · refine At.iload dX11_laws_50 rfl <| At.iloadn dX11_laws_52 rfl <| At.iconst dX11_laws_53 (by decide) <| At.ixor dX11_laws_54 <| At.iand dX11_laws_55 <| At.if_ne_f (tgt := 72) dX11_laws_56 (by decide) c5 <| ?_
        refine At.aloadn dX11_laws_59 rfl <| At.iloadn dX11_laws_60 rfl <| At.iload dX11_laws_61 rfl <| ?_
        obtain ⟨q2, hq2, h⟩ := bnd_e h
        rcases ite_e h with ⟨c4, h⟩ | ⟨c4, h⟩
        · refine At.cV1 (av := [vi l1, vi l4]) (rest := []) mv_X11_isBylaw lk_X11_294 dX11_laws_63 rfl rfl sh_1 (Nat.le_of_ble_eq_true rfl) (by decide) ⟨rfl, rfl⟩ (rX11_isBylaw hq2) <| At.bifeq_f (tgt := 72) dX11_laws_66 (by decide) c4 <| ?_
          obtain ⟨x3, hx3, h⟩ := lt_e h
          refine At.iinc (ls' := [(3, vi x3), (0, vr 1), (1, vi l1), (2, vi l2), (4, vi l4)]) dX11_laws_69 rfl (by decide) (by rw [hx3]; rfl) <| ?_
          obtain rfl := Option.some.inj h
          exact At.sub [1, 2, 3, 0, 4] rfl K72
        · refine At.cV1 (av := [vi l1, vi l4]) (rest := []) mv_X11_isBylaw lk_X11_294 dX11_laws_63 rfl rfl sh_1 (Nat.le_of_ble_eq_true rfl) (by decide) ⟨rfl, rfl⟩ (rX11_isBylaw hq2) <| At.bifeq_t (tgt := 72) dX11_laws_66 (by decide) c4 <| ?_
          obtain rfl := Option.some.inj h
          exact At.sub [0, 1, 2, 3, 4] rfl K72
      · refine At.iload dX11_laws_50 rfl <| At.iloadn dX11_laws_52 rfl <| At.iconst dX11_laws_53 (by decide) <| At.ixor dX11_laws_54 <| At.iand dX11_laws_55 <| At.if_ne_t (tgt := 72) dX11_laws_56 (by decide) c5 <| ?_
        obtain rfl := Option.some.inj h
        exact At.sub [0, 1, 2, 3, 4] rfl K72
set_option maxRecDepth 100000 in
set_option maxHeartbeats 4000000 in
theorem rX11_laws {G : GG} {p1 : Int} {S : SS} {rr : (Int × SS)} (h : fX11_laws p1 S = some rr) : RD G mX11_laws 7 [vr 1, vi p1] S (some (vi rr.1)) rr.2 := by
  unfold fX11_laws at h
  refine Runs.of pl_X11 (Nat.le_of_ble_eq_true rfl) ?_
  show At G mX11_laws 7 0 [(0, vr 1), (1, vi p1)] [] (mm S) 0 0 (EQ (some (vi rr.1)) rr.2)
  refine At.aloadn dX11_laws_0 rfl <| At.getR fl_X11_12 sh_1 (le149 sh_1) rf_1_0 dX11_laws_1 <| At.iloadn dX11_laws_4 rfl <| ?_
  obtain ⟨q1, hq1, h⟩ := bnd_e h
  rcases ite_e h with ⟨c7, h⟩ | ⟨c7, h⟩
  · refine At.cV1 (av := [vi p1]) (rest := []) mv_X8_hasGoer lk_X11_148 dX11_laws_5 rfl rfl sh_2 (Nat.le_of_ble_eq_true rfl) (by decide) ⟨rfl, rfl⟩ (rX8_hasGoer sh_2 hq1) <| At.bifne_t (tgt := 14) dX11_laws_8 (by decide) c7 <| ?_
    refine At.aloadn dX11_laws_14 rfl <| At.getR fl_X11_12 sh_1 (le149 sh_1) rf_1_0 dX11_laws_15 <| ?_
    obtain ⟨q2, hq2, h⟩ := bnd_e h
    refine At.cV1 (av := []) (rest := []) mv_X8_allStreets lk_X11_287 dX11_laws_18 rfl rfl sh_2 (Nat.le_of_ble_eq_true rfl) (by decide) ⟨rfl, rfl⟩ (rX8_allStreets sh_2 hq2) <| At.aloadn dX11_laws_21 rfl <| At.getR fl_X11_20 sh_1 (le149 sh_1) rf_1_1 dX11_laws_22 <| At.aloadn dX11_laws_25 rfl <| At.getR fl_X11_12 sh_1 (le149 sh_1) rf_1_0 dX11_laws_26 <| At.getI fl_X11_160 sh_2 (le149 sh_2) dX11_laws_29 <| ?_
    obtain ⟨q3, hq3, h⟩ := bnd_e h
    refine At.cV1 (av := [vi (S 2 6)]) (rest := [vi q2]) mv_X6_shutStreets lk_X11_291 dX11_laws_32 rfl rfl sh_7 (Nat.le_of_ble_eq_true rfl) (by decide) ⟨rfl, rfl⟩ (rX6_shutStreets sh_7 hq3) <| At.iconst dX11_laws_35 (by decide) <| At.ixor dX11_laws_36 <| At.iand dX11_laws_37 <| ?_
    obtain ⟨x4, hx4, h⟩ := lt_e h
    refine At.nm hx4 <| At.istoren (ls' := [(2, vi x4), (0, vr 1), (1, vi p1)]) dX11_laws_38 (by decide) rfl <| At.iconst dX11_laws_39 (by decide) <| At.istoren (ls' := [(3, vi 0), (2, vi x4), (0, vr 1), (1, vi p1)]) dX11_laws_40 (by decide) rfl <| At.iconst dX11_laws_41 (by decide) <| At.istore (ls' := [(4, vi 0), (3, vi 0), (2, vi x4), (0, vr 1), (1, vi p1)]) dX11_laws_42 (by decide) rfl <| ?_
    obtain ⟨q5, ho6, h⟩ := bnd_e h
    refine At.sub [3, 4, 2, 1, 0] rfl (lX11_laws_L44 FU _ _ _ q5 ho6 ?_)
    refine At.iloadn dX11_laws_78 rfl <| ?_
    obtain rfl := Option.some.inj h
    exact At.iret rfl (Nat.zero_le _) (Nat.zero_le _) ⟨rfl, rfl⟩ dX11_laws_79
  · refine At.cV1 (av := [vi p1]) (rest := []) mv_X8_hasGoer lk_X11_148 dX11_laws_5 rfl rfl sh_2 (Nat.le_of_ble_eq_true rfl) (by decide) ⟨rfl, rfl⟩ (rX8_hasGoer sh_2 hq1) <| At.bifne_f (tgt := 14) dX11_laws_8 (by decide) c7 <| ?_
    refine At.bipush dX11_laws_11 (by decide) <| ?_
    obtain rfl := Option.some.inj h
    exact At.iret rfl (Nat.zero_le _) (Nat.zero_le _) ⟨rfl, rfl⟩ dX11_laws_13
def fX11_otherSigns_L4 (l1 : Int) (S : SS) : Nat → Int → Int → Option (Int)
  | 0, _, _ => none
  | n + 1, l2, l3 =>
    if (S 2 6) ≤ l3 then (
      some l2
    ) else (
      Option.bind (fX6_signOf 7 l3 S) fun q1 =>
      Option.bind (
        if q1 = 3 then (
          some l2
        ) else (
          if q1 = (jand (jshr l1 l3) 1) then (
            some l2
          ) else (
            lt (w32 (l2 + 1)) fun x3 =>
            some x3
          )
        )
        : Option (Int)) fun q2 =>
      lt (w32 (l3 + 1)) fun x6 =>
      fX11_otherSigns_L4 l1 S n q2 x6
    )
def fX11_otherSigns (p1 : Int) (S : SS) : Option Int :=
  Option.bind (fX11_otherSigns_L4 p1 S FU 0 0) fun q1 =>
  some q1
set_option maxRecDepth 100000 in
set_option maxHeartbeats 4000000 in
theorem lX11_otherSigns_L4 {G : GG} {Φ : Option VV → MM → Prop} {l1 : Int} {S : SS} : ∀ (n : Nat) (l2 : Int) (l3 : Int) (q : Int), fX11_otherSigns_L4 l1 S n l2 l3 = some q → At G mX11_otherSigns 2 50 [(2, vi q)] [] (mm S) 0 0 Φ → At G mX11_otherSigns 2 4 [(0, vr 1), (1, vi l1), (2, vi l2), (3, vi l3)] [] (mm S) 0 0 Φ := by
  intro n
  induction n with
  | zero =>
    intro _ _ _ h
    cases h
  | succ n ih =>
    intro l2 l3 q h K50
    unfold fX11_otherSigns_L4 at h
    rcases ite_e h with ⟨c7, h⟩ | ⟨c7, h⟩
    · refine At.iloadn dX11_otherSigns_4 rfl <| At.aloadn dX11_otherSigns_5 rfl <| At.getR fl_X11_12 sh_1 (le149 sh_1) rf_1_0 dX11_otherSigns_6 <| At.getI fl_X11_160 sh_2 (le149 sh_2) dX11_otherSigns_9 <| At.icmp_ge_t (tgt := 50) dX11_otherSigns_12 (by decide) c7 <| ?_
      obtain rfl := Option.some.inj h
      exact At.sub [2] rfl K50
    · refine At.iloadn dX11_otherSigns_4 rfl <| At.aloadn dX11_otherSigns_5 rfl <| At.getR fl_X11_12 sh_1 (le149 sh_1) rf_1_0 dX11_otherSigns_6 <| At.getI fl_X11_160 sh_2 (le149 sh_2) dX11_otherSigns_9 <| At.icmp_ge_f (tgt := 50) dX11_otherSigns_12 (by decide) c7 <| ?_
      refine At.aloadn dX11_otherSigns_15 rfl <| At.getR fl_X11_20 sh_1 (le149 sh_1) rf_1_1 dX11_otherSigns_16 <| At.iloadn dX11_otherSigns_19 rfl <| ?_
      obtain ⟨q1, hq1, h⟩ := bnd_e h
      obtain ⟨q2, hj44, h⟩ := bnd_e h
      have K44 : At G mX11_otherSigns 2 44 [(0, vr 1), (1, vi l1), (2, vi q2), (3, vi l3)] [] (mm S) 0 0 Φ := by
        obtain ⟨x6, hx6, h⟩ := lt_e h
        refine At.iinc (ls' := [(3, vi x6), (0, vr 1), (1, vi l1), (2, vi q2)]) dX11_otherSigns_44 rfl (by decide) (by rw [hx6]; rfl) <| At.goto (tgt := 4) dX11_otherSigns_47 (by decide) <| ?_
        exact At.sub [1, 2, 3, 0] rfl (ih _ _ _ h K50)
      clear h; have h := hj44; clear hj44
      rcases ite_e h with ⟨c5, h⟩ | ⟨c5, h⟩
      · refine At.cV1 (av := [vi l3]) (rest := []) mv_X6_signOf lk_X11_141 dX11_otherSigns_20 rfl rfl sh_7 (Nat.le_of_ble_eq_true rfl) (by decide) ⟨rfl, rfl⟩ (rX6_signOf sh_7 hq1) <| At.istore (ls' := [(4, vi q1), (0, vr 1), (1, vi l1), (2, vi l2), (3, vi l3)]) dX11_otherSigns_23 (by decide) rfl <| At.iload dX11_otherSigns_25 rfl <| At.iconst dX11_otherSigns_27 (by decide) <| At.icmp_eq_t (tgt := 44) dX11_otherSigns_28 (by decide) c5 <| ?_
        obtain rfl := Option.some.inj h
        exact At.sub [1, 2, 3, 4] rfl K44
      · refine At.cV1 (av := [vi l3]) (rest := []) mv_X6_signOf lk_X11_141 dX11_otherSigns_20 rfl rfl sh_7 (Nat.le_of_ble_eq_true rfl) (by decide) ⟨rfl, rfl⟩ (rX6_signOf sh_7 hq1) <| At.istore (ls' := [(4, vi q1), (0, vr 1), (1, vi l1), (2, vi l2), (3, vi l3)]) dX11_otherSigns_23 (by decide) rfl <| At.iload dX11_otherSigns_25 rfl <| At.iconst dX11_otherSigns_27 (by decide) <| At.icmp_eq_f (tgt := 44) dX11_otherSigns_28 (by decide) c5 <| ?_
        rcases ite_e h with ⟨c4, h⟩ | ⟨c4, h⟩
        · refine At.iload dX11_otherSigns_31 rfl <| At.iloadn dX11_otherSigns_33 rfl <| At.iloadn dX11_otherSigns_34 rfl <| At.ishr dX11_otherSigns_35 <| At.iconst dX11_otherSigns_36 (by decide) <| At.iand dX11_otherSigns_37 <| At.icmp_eq_t (tgt := 44) dX11_otherSigns_38 (by decide) c4 <| ?_
          obtain rfl := Option.some.inj h
          exact At.sub [1, 2, 3, 4] rfl K44
        · refine At.iload dX11_otherSigns_31 rfl <| At.iloadn dX11_otherSigns_33 rfl <| At.iloadn dX11_otherSigns_34 rfl <| At.ishr dX11_otherSigns_35 <| At.iconst dX11_otherSigns_36 (by decide) <| At.iand dX11_otherSigns_37 <| At.icmp_eq_f (tgt := 44) dX11_otherSigns_38 (by decide) c4 <| ?_
          obtain ⟨x3, hx3, h⟩ := lt_e h
          refine At.iinc (ls' := [(2, vi x3), (4, vi q1), (0, vr 1), (1, vi l1), (3, vi l3)]) dX11_otherSigns_41 rfl (by decide) (by rw [hx3]; rfl) <| ?_
          obtain rfl := Option.some.inj h
          exact At.sub [2, 3, 0, 4] rfl K44
set_option maxRecDepth 100000 in
set_option maxHeartbeats 4000000 in
theorem rX11_otherSigns {G : GG} {p1 : Int} {S : SS} {rr : Int} (h : fX11_otherSigns p1 S = some rr) : RD G mX11_otherSigns 2 [vr 1, vi p1] S (some (vi rr)) S := by
  unfold fX11_otherSigns at h
  refine Runs.of pl_X11 (Nat.le_of_ble_eq_true rfl) ?_
  show At G mX11_otherSigns 2 0 [(0, vr 1), (1, vi p1)] [] (mm S) 0 0 (EQ (some (vi rr)) S)
  refine At.iconst dX11_otherSigns_0 (by decide) <| At.istoren (ls' := [(2, vi 0), (0, vr 1), (1, vi p1)]) dX11_otherSigns_1 (by decide) rfl <| At.iconst dX11_otherSigns_2 (by decide) <| At.istoren (ls' := [(3, vi 0), (2, vi 0), (0, vr 1), (1, vi p1)]) dX11_otherSigns_3 (by decide) rfl <| ?_
  obtain ⟨q1, ho2, h⟩ := bnd_e h
  refine At.sub [2, 3, 1, 0] rfl (lX11_otherSigns_L4 FU _ _ q1 ho2 ?_)
  refine At.iloadn dX11_otherSigns_50 rfl <| ?_
  obtain rfl := Option.some.inj h
  exact At.iret rfl (Nat.zero_le _) (Nat.zero_le _) ⟨rfl, rfl⟩ dX11_otherSigns_51
def fX11_bylaw_L58 (l1 : Int) (l2 : Int) (l3 : Int) : Nat → Int → Int → Int → SS → Option (Int × Int × SS)
  | 0, _, _, _, _ => none
  | n + 1, l4, l5, l6, S =>
    if l3 < l6 then (
      some (l4, l5, S)
    ) else (
      Option.bind (
        if (jand l6 (jxor l3 ((-1)))) = 0 then (
          Option.bind (fX11_otherSigns l6 S) fun q2 =>
          if l5 ≤ q2 then (
            some (l4, l5, S)
          ) else (
            Option.bind (fX11_isBylaw l1 l6 S) fun q3 =>
            if q3.1 = true then (
              Option.bind (fX11_otherSigns l6 q3.2) fun q4 =>
              some (l6, q4, q3.2)
            ) else (
              some (l4, l5, q3.2)
            )
          )
        ) else (
          some (l4, l5, S)
        )
        : Option (Int × Int × SS)) fun q1 =>
      lt (w32 (l6 + 1)) fun x8 =>
      fX11_bylaw_L58 l1 l2 l3 n q1.1 q1.2.1 x8 q1.2.2
    )
def fX11_bylaw (p1 : Int) (p2 : Int) (S : SS) : Option (Int × SS) :=
  Option.bind (fX8_hasGoer 2 p1 S) fun q1 =>
  if q1 = true then (
    if p2 < 0 then (
      some ((-2), S)
    ) else (
      if p2 ≤ 1 then (
        Option.bind (fX8_allStreets 2 S) fun q2 =>
        Option.bind (fX6_shutStreets 7 (S 2 6) S) fun q3 =>
        lt (jand q2 (jxor q3 ((-1)))) fun x4 =>
        lt ((-1)) fun x5 =>
        Option.bind (fX11_bylaw_L58 p1 p2 x4 FU x5 9 0 S) fun q6 =>
        if q6.1 = ((-1)) then (
          some ((-1), q6.2.2)
        ) else (
          if p2 = 0 then (
            some (q6.2.1, q6.2.2)
          ) else (
            some (q6.1, q6.2.2)
          )
        )
      ) else (
        some ((-2), S)
      )
    )
  ) else (
    some ((-2), S)
  )
set_option maxRecDepth 100000 in
set_option maxHeartbeats 4000000 in
theorem lX11_bylaw_L58 {G : GG} {Φ : Option VV → MM → Prop} {l1 : Int} {l2 : Int} {l3 : Int} : ∀ (n : Nat) (l4 : Int) (l5 : Int) (l6 : Int) (S : SS) (q : Int × Int × SS), fX11_bylaw_L58 l1 l2 l3 n l4 l5 l6 S = some q → At G mX11_bylaw 7 112 [(2, vi l2), (4, vi q.1), (5, vi q.2.1)] [] (mm q.2.2) 0 0 Φ → At G mX11_bylaw 7 58 [(0, vr 1), (1, vi l1), (2, vi l2), (3, vi l3), (4, vi l4), (5, vi l5), (6, vi l6)] [] (mm S) 0 0 Φ := by
  intro n
  induction n with
  | zero =>
    intro _ _ _ _ _ h
    cases h
  | succ n ih =>
    intro l4 l5 l6 S q h K112
    unfold fX11_bylaw_L58 at h
    rcases ite_e h with ⟨c9, h⟩ | ⟨c9, h⟩
    · refine At.iload dX11_bylaw_58 rfl <| At.iloadn dX11_bylaw_60 rfl <| At.icmp_gt_t (tgt := 112) dX11_bylaw_61 (by decide) c9 <| ?_
      obtain rfl := Option.some.inj h
      exact At.sub [2, 4, 5] rfl K112
    · refine At.iload dX11_bylaw_58 rfl <| At.iloadn dX11_bylaw_60 rfl <| At.icmp_gt_f (tgt := 112) dX11_bylaw_61 (by decide) c9 <| ?_
      obtain ⟨q1, hj106, h⟩ := bnd_e h
      have K106 : At G mX11_bylaw 7 106 [(0, vr 1), (1, vi l1), (2, vi l2), (3, vi l3), (4, vi q1.1), (5, vi q1.2.1), (6, vi l6)] [] (mm q1.2.2) 0 0 Φ := by
        obtain ⟨x8, hx8, h⟩ := lt_e h
        refine At.iinc (ls' := [(6, vi x8), (0, vr 1), (1, vi l1), (2, vi l2), (3, vi l3), (4, vi q1.1), (5, vi q1.2.1)]) dX11_bylaw_106 rfl (by decide) (by rw [hx8]; rfl) <| At.goto (tgt := 58) dX11_bylaw_109 (by decide) <| ?_
        exact At.sub [1, 2, 3, 4, 5, 6, 0] rfl (ih _ _ _ _ _ h K112)
      clear h; have h := hj106; clear hj106
      rcases ite_e h with ⟨c7, h⟩ | ⟨c7, h⟩
      · refine At.iload dX11_bylaw_64 rfl <| At.iloadn dX11_bylaw_66 rfl <| At.iconst dX11_bylaw_67 (by decide) <| At.ixor dX11_bylaw_68 <| At.iand dX11_bylaw_69 <| At.if_ne_f (tgt := 106) dX11_bylaw_70 (by decide) c7 <| ?_
        refine At.aloadn dX11_bylaw_73 rfl <| At.iload dX11_bylaw_74 rfl <| ?_
        obtain ⟨q2, hq2, h⟩ := bnd_e h
        rcases ite_e h with ⟨c6, h⟩ | ⟨c6, h⟩
        · refine At.cV1 (av := [vi l6]) (rest := []) mv_X11_otherSigns lk_X11_297 dX11_bylaw_76 rfl rfl sh_1 (Nat.le_of_ble_eq_true rfl) (by decide) ⟨rfl, rfl⟩ (rX11_otherSigns hq2) <| At.iload dX11_bylaw_79 rfl <| At.icmp_ge_t (tgt := 106) dX11_bylaw_81 (by decide) c6 <| ?_
          obtain rfl := Option.some.inj h
          exact At.sub [0, 1, 2, 3, 4, 5, 6] rfl K106
        · refine At.cV1 (av := [vi l6]) (rest := []) mv_X11_otherSigns lk_X11_297 dX11_bylaw_76 rfl rfl sh_1 (Nat.le_of_ble_eq_true rfl) (by decide) ⟨rfl, rfl⟩ (rX11_otherSigns hq2) <| At.iload dX11_bylaw_79 rfl <| At.icmp_ge_f (tgt := 106) dX11_bylaw_81 (by decide) c6 <| ?_
          refine At.aloadn dX11_bylaw_84 rfl <| At.iloadn dX11_bylaw_85 rfl <| At.iload dX11_bylaw_86 rfl <| ?_
          obtain ⟨q3, hq3, h⟩ := bnd_e h
          rcases ite_e h with ⟨c5, h⟩ | ⟨c5, h⟩
          · refine At.cV1 (av := [vi l1, vi l6]) (rest := []) mv_X11_isBylaw lk_X11_294 dX11_bylaw_88 rfl rfl sh_1 (Nat.le_of_ble_eq_true rfl) (by decide) ⟨rfl, rfl⟩ (rX11_isBylaw hq3) <| At.bifeq_f (tgt := 106) dX11_bylaw_91 (by decide) c5 <| ?_
            refine At.iload dX11_bylaw_94 rfl <| At.istore (ls' := [(4, vi l6), (0, vr 1), (1, vi l1), (2, vi l2), (3, vi l3), (5, vi l5), (6, vi l6)]) dX11_bylaw_96 (by decide) rfl <| At.aloadn dX11_bylaw_98 rfl <| At.iload dX11_bylaw_99 rfl <| ?_
            obtain ⟨q4, hq4, h⟩ := bnd_e h
            refine At.cV1 (av := [vi l6]) (rest := []) mv_X11_otherSigns lk_X11_297 dX11_bylaw_101 rfl rfl sh_1 (Nat.le_of_ble_eq_true rfl) (by decide) ⟨rfl, rfl⟩ (rX11_otherSigns hq4) <| At.istore (ls' := [(5, vi q4), (4, vi l6), (0, vr 1), (1, vi l1), (2, vi l2), (3, vi l3), (6, vi l6)]) dX11_bylaw_104 (by decide) rfl <| ?_
            obtain rfl := Option.some.inj h
            exact At.sub [2, 3, 4, 5, 1, 0, 6] rfl K106
          · refine At.cV1 (av := [vi l1, vi l6]) (rest := []) mv_X11_isBylaw lk_X11_294 dX11_bylaw_88 rfl rfl sh_1 (Nat.le_of_ble_eq_true rfl) (by decide) ⟨rfl, rfl⟩ (rX11_isBylaw hq3) <| At.bifeq_t (tgt := 106) dX11_bylaw_91 (by decide) c5 <| ?_
            obtain rfl := Option.some.inj h
            exact At.sub [0, 1, 2, 3, 4, 5, 6] rfl K106
      · refine At.iload dX11_bylaw_64 rfl <| At.iloadn dX11_bylaw_66 rfl <| At.iconst dX11_bylaw_67 (by decide) <| At.ixor dX11_bylaw_68 <| At.iand dX11_bylaw_69 <| At.if_ne_t (tgt := 106) dX11_bylaw_70 (by decide) c7 <| ?_
        obtain rfl := Option.some.inj h
        exact At.sub [0, 1, 2, 3, 4, 5, 6] rfl K106
set_option maxRecDepth 100000 in
set_option maxHeartbeats 4000000 in
theorem rX11_bylaw {G : GG} {p1 : Int} {p2 : Int} {S : SS} {rr : (Int × SS)} (h : fX11_bylaw p1 p2 S = some rr) : RD G mX11_bylaw 7 [vr 1, vi p1, vi p2] S (some (vi rr.1)) rr.2 := by
  unfold fX11_bylaw at h
  refine Runs.of pl_X11 (Nat.le_of_ble_eq_true rfl) ?_
  show At G mX11_bylaw 7 0 [(0, vr 1), (1, vi p1), (2, vi p2)] [] (mm S) 0 0 (EQ (some (vi rr.1)) rr.2)
  refine At.aloadn dX11_bylaw_0 rfl <| At.getR fl_X11_12 sh_1 (le149 sh_1) rf_1_0 dX11_bylaw_1 <| At.iloadn dX11_bylaw_4 rfl <| ?_
  obtain ⟨q1, hq1, h⟩ := bnd_e h
  rcases ite_e h with ⟨c12, h⟩ | ⟨c12, h⟩
  · refine At.cV1 (av := [vi p1]) (rest := []) mv_X8_hasGoer lk_X11_148 dX11_bylaw_5 rfl rfl sh_2 (Nat.le_of_ble_eq_true rfl) (by decide) ⟨rfl, rfl⟩ (rX8_hasGoer sh_2 hq1) <| At.bifeq_f (tgt := 20) dX11_bylaw_8 (by decide) c12 <| ?_
    rcases ite_e h with ⟨c11, h⟩ | ⟨c11, h⟩
    · refine At.iloadn dX11_bylaw_11 rfl <| At.if_lt_t (tgt := 20) dX11_bylaw_12 (by decide) c11 <| ?_
      refine At.bipush dX11_bylaw_20 (by decide) <| ?_
      obtain rfl := Option.some.inj h
      exact At.iret rfl (Nat.zero_le _) (Nat.zero_le _) ⟨rfl, rfl⟩ dX11_bylaw_22
    · refine At.iloadn dX11_bylaw_11 rfl <| At.if_lt_f (tgt := 20) dX11_bylaw_12 (by decide) c11 <| ?_
      rcases ite_e h with ⟨c10, h⟩ | ⟨c10, h⟩
      · refine At.iloadn dX11_bylaw_15 rfl <| At.iconst dX11_bylaw_16 (by decide) <| At.icmp_le_t (tgt := 23) dX11_bylaw_17 (by decide) c10 <| ?_
        refine At.aloadn dX11_bylaw_23 rfl <| At.getR fl_X11_12 sh_1 (le149 sh_1) rf_1_0 dX11_bylaw_24 <| ?_
        obtain ⟨q2, hq2, h⟩ := bnd_e h
        refine At.cV1 (av := []) (rest := []) mv_X8_allStreets lk_X11_287 dX11_bylaw_27 rfl rfl sh_2 (Nat.le_of_ble_eq_true rfl) (by decide) ⟨rfl, rfl⟩ (rX8_allStreets sh_2 hq2) <| At.aloadn dX11_bylaw_30 rfl <| At.getR fl_X11_20 sh_1 (le149 sh_1) rf_1_1 dX11_bylaw_31 <| At.aloadn dX11_bylaw_34 rfl <| At.getR fl_X11_12 sh_1 (le149 sh_1) rf_1_0 dX11_bylaw_35 <| At.getI fl_X11_160 sh_2 (le149 sh_2) dX11_bylaw_38 <| ?_
        obtain ⟨q3, hq3, h⟩ := bnd_e h
        refine At.cV1 (av := [vi (S 2 6)]) (rest := [vi q2]) mv_X6_shutStreets lk_X11_291 dX11_bylaw_41 rfl rfl sh_7 (Nat.le_of_ble_eq_true rfl) (by decide) ⟨rfl, rfl⟩ (rX6_shutStreets sh_7 hq3) <| At.iconst dX11_bylaw_44 (by decide) <| At.ixor dX11_bylaw_45 <| At.iand dX11_bylaw_46 <| ?_
        obtain ⟨x4, hx4, h⟩ := lt_e h
        refine At.nm hx4 <| At.istoren (ls' := [(3, vi x4), (0, vr 1), (1, vi p1), (2, vi p2)]) dX11_bylaw_47 (by decide) rfl <| At.iconst dX11_bylaw_48 (by decide) <| ?_
        obtain ⟨x5, hx5, h⟩ := lt_e h
        refine At.nm hx5 <| At.istore (ls' := [(4, vi x5), (3, vi x4), (0, vr 1), (1, vi p1), (2, vi p2)]) dX11_bylaw_49 (by decide) rfl <| At.bipush dX11_bylaw_51 (by decide) <| At.istore (ls' := [(5, vi 9), (4, vi x5), (3, vi x4), (0, vr 1), (1, vi p1), (2, vi p2)]) dX11_bylaw_53 (by decide) rfl <| At.iconst dX11_bylaw_55 (by decide) <| At.istore (ls' := [(6, vi 0), (5, vi 9), (4, vi x5), (3, vi x4), (0, vr 1), (1, vi p1), (2, vi p2)]) dX11_bylaw_56 (by decide) rfl <| ?_
        obtain ⟨q6, ho7, h⟩ := bnd_e h
        refine At.sub [4, 5, 6, 3, 2, 1, 0] rfl (lX11_bylaw_L58 FU _ _ _ _ q6 ho7 ?_)
        rcases ite_e h with ⟨c9, h⟩ | ⟨c9, h⟩
        · refine At.iload dX11_bylaw_112 rfl <| At.iconst dX11_bylaw_114 (by decide) <| At.icmp_ne_f (tgt := 120) dX11_bylaw_115 (by decide) c9 <| ?_
          refine At.iconst dX11_bylaw_118 (by decide) <| ?_
          obtain rfl := Option.some.inj h
          exact At.iret rfl (Nat.zero_le _) (Nat.zero_le _) ⟨rfl, rfl⟩ dX11_bylaw_119
        · refine At.iload dX11_bylaw_112 rfl <| At.iconst dX11_bylaw_114 (by decide) <| At.icmp_ne_t (tgt := 120) dX11_bylaw_115 (by decide) c9 <| ?_
          rcases ite_e h with ⟨c8, h⟩ | ⟨c8, h⟩
          · refine At.iloadn dX11_bylaw_120 rfl <| At.if_ne_f (tgt := 129) dX11_bylaw_121 (by decide) c8 <| ?_
            refine At.iload dX11_bylaw_124 rfl <| At.goto (tgt := 131) dX11_bylaw_126 (by decide) <| ?_
            obtain rfl := Option.some.inj h
            exact At.iret rfl (Nat.zero_le _) (Nat.zero_le _) ⟨rfl, rfl⟩ dX11_bylaw_131
          · refine At.iloadn dX11_bylaw_120 rfl <| At.if_ne_t (tgt := 129) dX11_bylaw_121 (by decide) c8 <| ?_
            refine At.iload dX11_bylaw_129 rfl <| ?_
            obtain rfl := Option.some.inj h
            exact At.iret rfl (Nat.zero_le _) (Nat.zero_le _) ⟨rfl, rfl⟩ dX11_bylaw_131
      · refine At.iloadn dX11_bylaw_15 rfl <| At.iconst dX11_bylaw_16 (by decide) <| At.icmp_le_f (tgt := 23) dX11_bylaw_17 (by decide) c10 <| ?_
        refine At.bipush dX11_bylaw_20 (by decide) <| ?_
        obtain rfl := Option.some.inj h
        exact At.iret rfl (Nat.zero_le _) (Nat.zero_le _) ⟨rfl, rfl⟩ dX11_bylaw_22
  · refine At.cV1 (av := [vi p1]) (rest := []) mv_X8_hasGoer lk_X11_148 dX11_bylaw_5 rfl rfl sh_2 (Nat.le_of_ble_eq_true rfl) (by decide) ⟨rfl, rfl⟩ (rX8_hasGoer sh_2 hq1) <| At.bifeq_t (tgt := 20) dX11_bylaw_8 (by decide) c12 <| ?_
    refine At.bipush dX11_bylaw_20 (by decide) <| ?_
    obtain rfl := Option.some.inj h
    exact At.iret rfl (Nat.zero_le _) (Nat.zero_le _) ⟨rfl, rfl⟩ dX11_bylaw_22
def fJ6_bitCount_0f7a4 (p0 : Int) : Option Int :=
  lt (w32 (p0 - (jand (jushr p0 1) 1431655765))) fun x1 =>
  lt (w32 ((jand x1 858993459) + (jand (jushr x1 2) 858993459))) fun x2 =>
  lt (jand (w32 (x2 + (jushr x2 4))) 252645135) fun x3 =>
  lt (w32 (x3 + (jushr x3 8))) fun x4 =>
  lt (w32 (x4 + (jushr x4 16))) fun x5 =>
  some (jand x5 63)
set_option maxRecDepth 100000 in
set_option maxHeartbeats 4000000 in
theorem rJ6_bitCount_0f7a4 {G : GG} {p0 : Int} {S : SS} {rr : Int} (h : fJ6_bitCount_0f7a4 p0 = some rr) : RD G mJ6_bitCount_0f7a4 1 [vi p0] S (some (vi rr)) S := by
  unfold fJ6_bitCount_0f7a4 at h
  refine Runs.of pl_J6 (Nat.le_of_ble_eq_true rfl) ?_
  show At G mJ6_bitCount_0f7a4 1 0 [(0, vi p0)] [] (mm S) 0 0 (EQ (some (vi rr)) S)
  refine At.iloadn dJ6_bitCount_0f7a4_0 rfl <| At.iloadn dJ6_bitCount_0f7a4_1 rfl <| At.iconst dJ6_bitCount_0f7a4_2 (by decide) <| At.iushr dJ6_bitCount_0f7a4_3 <| At.ldcw dJ6_bitCount_0f7a4_4 ki_J6_265 (by decide) <| At.iand dJ6_bitCount_0f7a4_7 <| At.isub dJ6_bitCount_0f7a4_8 <| ?_
  obtain ⟨x1, hx1, h⟩ := lt_e h
  refine At.nm hx1 <| At.istoren (ls' := [(0, vi x1)]) dJ6_bitCount_0f7a4_9 (by decide) rfl <| At.iloadn dJ6_bitCount_0f7a4_10 rfl <| At.ldcw dJ6_bitCount_0f7a4_11 ki_J6_266 (by decide) <| At.iand dJ6_bitCount_0f7a4_14 <| At.iloadn dJ6_bitCount_0f7a4_15 rfl <| At.iconst dJ6_bitCount_0f7a4_16 (by decide) <| At.iushr dJ6_bitCount_0f7a4_17 <| At.ldcw dJ6_bitCount_0f7a4_18 ki_J6_266 (by decide) <| At.iand dJ6_bitCount_0f7a4_21 <| At.iadd dJ6_bitCount_0f7a4_22 <| ?_
  obtain ⟨x2, hx2, h⟩ := lt_e h
  refine At.nm hx2 <| At.istoren (ls' := [(0, vi x2)]) dJ6_bitCount_0f7a4_23 (by decide) rfl <| At.iloadn dJ6_bitCount_0f7a4_24 rfl <| At.iloadn dJ6_bitCount_0f7a4_25 rfl <| At.iconst dJ6_bitCount_0f7a4_26 (by decide) <| At.iushr dJ6_bitCount_0f7a4_27 <| At.iadd dJ6_bitCount_0f7a4_28 <| At.ldcw dJ6_bitCount_0f7a4_29 ki_J6_267 (by decide) <| At.iand dJ6_bitCount_0f7a4_32 <| ?_
  obtain ⟨x3, hx3, h⟩ := lt_e h
  refine At.nm hx3 <| At.istoren (ls' := [(0, vi x3)]) dJ6_bitCount_0f7a4_33 (by decide) rfl <| At.iloadn dJ6_bitCount_0f7a4_34 rfl <| At.iloadn dJ6_bitCount_0f7a4_35 rfl <| At.bipush dJ6_bitCount_0f7a4_36 (by decide) <| At.iushr dJ6_bitCount_0f7a4_38 <| At.iadd dJ6_bitCount_0f7a4_39 <| ?_
  obtain ⟨x4, hx4, h⟩ := lt_e h
  refine At.nm hx4 <| At.istoren (ls' := [(0, vi x4)]) dJ6_bitCount_0f7a4_40 (by decide) rfl <| At.iloadn dJ6_bitCount_0f7a4_41 rfl <| At.iloadn dJ6_bitCount_0f7a4_42 rfl <| At.bipush dJ6_bitCount_0f7a4_43 (by decide) <| At.iushr dJ6_bitCount_0f7a4_45 <| At.iadd dJ6_bitCount_0f7a4_46 <| ?_
  obtain ⟨x5, hx5, h⟩ := lt_e h
  refine At.nm hx5 <| At.istoren (ls' := [(0, vi x5)]) dJ6_bitCount_0f7a4_47 (by decide) rfl <| At.iloadn dJ6_bitCount_0f7a4_48 rfl <| At.bipush dJ6_bitCount_0f7a4_49 (by decide) <| At.iand dJ6_bitCount_0f7a4_51 <| ?_
  obtain rfl := Option.some.inj h
  exact At.iret rfl (Nat.zero_le _) (Nat.zero_le _) ⟨rfl, rfl⟩ dJ6_bitCount_0f7a4_52
def fX6_shutAll_L2 (l0 : Nat) (l1 : Int) (l2 : Int) : Nat → Int → SS → Option (SS)
  | 0, _, _ => none
  | n + 1, l3, S =>
    if l2 ≤ l3 then (
      some S
    ) else (
      if 8 ≤ l3 then (
        some S
      ) else (
        Option.bind (
          if (jand (jshr l1 l3) 1) = 1 then (
            wrA S (l0 + 1) 8 l3 3 fun S2 =>
            some S2
          ) else (
            some S
          )
          : Option (SS)) fun q1 =>
        lt (w32 (l3 + 1)) fun x5 =>
        fX6_shutAll_L2 l0 l1 l2 n x5 q1
      )
    )
def fX6_shutAll (t : Nat) (p1 : Int) (p2 : Int) (S : SS) : Option SS :=
  Option.bind (fX6_shutAll_L2 t p1 p2 FU 0 S) fun q1 =>
  some q1
set_option maxRecDepth 100000 in
set_option maxHeartbeats 4000000 in
theorem lX6_shutAll_L2 {G : GG} {Φ : Option VV → MM → Prop} {l0 : Nat} {l1 : Int} {l2 : Int} (hl0 : sh l0 = (6, 4)) : ∀ (n : Nat) (l3 : Int) (S : SS) (q : SS), fX6_shutAll_L2 l0 l1 l2 n l3 S = some q → At G mX6_shutAll 1 38 [] [] (mm q) 0 0 Φ → At G mX6_shutAll 1 2 [(0, vr l0), (1, vi l1), (2, vi l2), (3, vi l3)] [] (mm S) 0 0 Φ := by
  intro n
  induction n with
  | zero =>
    intro _ _ _ h
    cases h
  | succ n ih =>
    intro l3 S q h K38
    unfold fX6_shutAll_L2 at h
    rcases ite_e h with ⟨c7, h⟩ | ⟨c7, h⟩
    · refine At.iloadn dX6_shutAll_2 rfl <| At.iloadn dX6_shutAll_3 rfl <| At.icmp_ge_t (tgt := 38) dX6_shutAll_4 (by decide) c7 <| ?_
      obtain rfl := Option.some.inj h
      exact At.sub [] rfl K38
    · refine At.iloadn dX6_shutAll_2 rfl <| At.iloadn dX6_shutAll_3 rfl <| At.icmp_ge_f (tgt := 38) dX6_shutAll_4 (by decide) c7 <| ?_
      rcases ite_e h with ⟨c6, h⟩ | ⟨c6, h⟩
      · refine At.iloadn dX6_shutAll_7 rfl <| At.aloadn dX6_shutAll_8 rfl <| At.getR fl_X6_9 hl0 (le149 hl0) (rfO_6_0 hl0) dX6_shutAll_9 <| At.alenI (shO_6_0 hl0) (le149 (shO_6_0 hl0)) (by decide) (z := 8) rfl dX6_shutAll_12 <| At.icmp_ge_t (tgt := 38) dX6_shutAll_13 (by decide) c6 <| ?_
        obtain rfl := Option.some.inj h
        exact At.sub [] rfl K38
      · refine At.iloadn dX6_shutAll_7 rfl <| At.aloadn dX6_shutAll_8 rfl <| At.getR fl_X6_9 hl0 (le149 hl0) (rfO_6_0 hl0) dX6_shutAll_9 <| At.alenI (shO_6_0 hl0) (le149 (shO_6_0 hl0)) (by decide) (z := 8) rfl dX6_shutAll_12 <| At.icmp_ge_f (tgt := 38) dX6_shutAll_13 (by decide) c6 <| ?_
        obtain ⟨q1, hj32, h⟩ := bnd_e h
        have K32 : At G mX6_shutAll 1 32 [(0, vr l0), (1, vi l1), (2, vi l2), (3, vi l3)] [] (mm q1) 0 0 Φ := by
          obtain ⟨x5, hx5, h⟩ := lt_e h
          refine At.iinc (ls' := [(3, vi x5), (0, vr l0), (1, vi l1), (2, vi l2)]) dX6_shutAll_32 rfl (by decide) (by rw [hx5]; rfl) <| At.goto (tgt := 2) dX6_shutAll_35 (by decide) <| ?_
          exact At.sub [1, 2, 3, 0] rfl (ih _ _ _ h K38)
        clear h; have h := hj32; clear hj32
        rcases ite_e h with ⟨c4, h⟩ | ⟨c4, h⟩
        · refine At.iloadn dX6_shutAll_16 rfl <| At.iloadn dX6_shutAll_17 rfl <| At.ishr dX6_shutAll_18 <| At.iconst dX6_shutAll_19 (by decide) <| At.iand dX6_shutAll_20 <| At.iconst dX6_shutAll_21 (by decide) <| At.icmp_ne_f (tgt := 32) dX6_shutAll_22 (by decide) c4 <| ?_
          refine At.aloadn dX6_shutAll_25 rfl <| At.getR fl_X6_9 hl0 (le149 hl0) (rfO_6_0 hl0) dX6_shutAll_26 <| At.iloadn dX6_shutAll_29 rfl <| At.iconst dX6_shutAll_30 (by decide) <| ?_
          obtain ⟨S2, hS2, g3, h⟩ := wrA_e h
          refine At.iast (shO_6_0 hl0) (le149 (shO_6_0 hl0)) g3.1 g3.2 dX6_shutAll_31 <| At.nmS hS2 <| ?_
          obtain rfl := Option.some.inj h
          exact At.sub [0, 1, 2, 3] rfl K32
        · refine At.iloadn dX6_shutAll_16 rfl <| At.iloadn dX6_shutAll_17 rfl <| At.ishr dX6_shutAll_18 <| At.iconst dX6_shutAll_19 (by decide) <| At.iand dX6_shutAll_20 <| At.iconst dX6_shutAll_21 (by decide) <| At.icmp_ne_t (tgt := 32) dX6_shutAll_22 (by decide) c4 <| ?_
          obtain rfl := Option.some.inj h
          exact At.sub [0, 1, 2, 3] rfl K32
set_option maxRecDepth 100000 in
set_option maxHeartbeats 4000000 in
theorem rX6_shutAll {G : GG} {t : Nat} {p1 : Int} {p2 : Int} {S : SS} {rr : SS} (ht : sh t = (6, 4)) (h : fX6_shutAll t p1 p2 S = some rr) : RD G mX6_shutAll 1 [vr t, vi p1, vi p2] S none rr := by
  unfold fX6_shutAll at h
  refine Runs.of pl_X6 (Nat.le_of_ble_eq_true rfl) ?_
  show At G mX6_shutAll 1 0 [(0, vr t), (1, vi p1), (2, vi p2)] [] (mm S) 0 0 (EQ none rr)
  refine At.iconst dX6_shutAll_0 (by decide) <| At.istoren (ls' := [(3, vi 0), (0, vr t), (1, vi p1), (2, vi p2)]) dX6_shutAll_1 (by decide) rfl <| ?_
  obtain ⟨q1, ho2, h⟩ := bnd_e h
  refine At.sub [1, 2, 3, 0] rfl (lX6_shutAll_L2 ht FU _ _ q1 ho2 ?_)
  obtain rfl := Option.some.inj h
  exact At.vret rfl (Nat.zero_le _) (Nat.zero_le _) ⟨rfl, rfl⟩ dX6_shutAll_38
def fX11_shutsOff (p1 : Int) (p2 : Int) (p3 : Int) (S : SS) : Option (Bool × SS) :=
  Option.bind (fX6_copyOf 15 7 S) fun q1 =>
  Option.bind (fX6_shutAll 15 p3 (q1 2 6) q1) fun q2 =>
  Option.bind (fX11_comesTo p1 p2 ((-1)) 15 q2) fun q3 =>
  if q3.1 = ((-1)) then (
    some (true, q3.2)
  ) else (
    some (false, q3.2)
  )
set_option maxRecDepth 100000 in
set_option maxHeartbeats 4000000 in
theorem rX11_shutsOff {G : GG} {p1 : Int} {p2 : Int} {p3 : Int} {S : SS} {rr : (Bool × SS)} (h : fX11_shutsOff p1 p2 p3 S = some rr) : RD G mX11_shutsOff 7 [vr 1, vi p1, vi p2, vi p3] S (some (vi (bI rr.1))) rr.2 := by
  unfold fX11_shutsOff at h
  refine Runs.of pl_X11 (Nat.le_of_ble_eq_true rfl) ?_
  show At G mX11_shutsOff 7 0 [(0, vr 1), (1, vi p1), (2, vi p2), (3, vi p3)] [] (mm S) 0 0 (EQ (some (vi (bI rr.1))) rr.2)
  refine At.aloadn dX11_shutsOff_0 rfl <| At.getR fl_X11_29 sh_1 (le149 sh_1) rf_1_3 dX11_shutsOff_1 <| At.aloadn dX11_shutsOff_4 rfl <| At.getR fl_X11_20 sh_1 (le149 sh_1) rf_1_1 dX11_shutsOff_5 <| ?_
  obtain ⟨q1, hq1, h⟩ := bnd_e h
  refine At.cV0 (av := [vr 7]) (rest := []) mv_X6_copyOf lk_X11_170 dX11_shutsOff_8 rfl rfl sh_15 (Nat.le_of_ble_eq_true rfl) (by decide) ⟨rfl, rfl⟩ (rX6_copyOf sh_15 sh_7 hq1) <| At.aloadn dX11_shutsOff_11 rfl <| At.getR fl_X11_29 sh_1 (le149 sh_1) rf_1_3 dX11_shutsOff_12 <| At.iloadn dX11_shutsOff_15 rfl <| At.aloadn dX11_shutsOff_16 rfl <| At.getR fl_X11_12 sh_1 (le149 sh_1) rf_1_0 dX11_shutsOff_17 <| At.getI fl_X11_160 sh_2 (le149 sh_2) dX11_shutsOff_20 <| ?_
  obtain ⟨q2, hq2, h⟩ := bnd_e h
  refine At.cV0 (av := [vi p3, vi (q1 2 6)]) (rest := []) mv_X6_shutAll lk_X11_317 dX11_shutsOff_23 rfl rfl sh_15 (Nat.le_of_ble_eq_true rfl) (by decide) ⟨rfl, rfl⟩ (rX6_shutAll sh_15 hq2) <| At.aloadn dX11_shutsOff_26 rfl <| At.iloadn dX11_shutsOff_27 rfl <| At.iloadn dX11_shutsOff_28 rfl <| At.iconst dX11_shutsOff_29 (by decide) <| At.aloadn dX11_shutsOff_30 rfl <| At.getR fl_X11_29 sh_1 (le149 sh_1) rf_1_3 dX11_shutsOff_31 <| ?_
  obtain ⟨q3, hq3, h⟩ := bnd_e h
  rcases ite_e h with ⟨c4, h⟩ | ⟨c4, h⟩
  · refine At.cV1 (av := [vi p1, vi p2, vi ((-1)), vr 15]) (rest := []) mv_X11_comesTo lk_X11_233 dX11_shutsOff_34 rfl rfl sh_1 (Nat.le_of_ble_eq_true rfl) (by decide) ⟨rfl, rfl⟩ (rX11_comesTo sh_15 hq3) <| At.iconst dX11_shutsOff_37 (by decide) <| At.icmp_ne_f (tgt := 45) dX11_shutsOff_38 (by decide) c4 <| ?_
    refine At.iconst dX11_shutsOff_41 (by decide) <| At.goto (tgt := 46) dX11_shutsOff_42 (by decide) <| ?_
    obtain rfl := Option.some.inj h
    exact At.zret (b := true) rfl (Nat.zero_le _) (Nat.zero_le _) ⟨rfl, rfl⟩ dX11_shutsOff_46
  · refine At.cV1 (av := [vi p1, vi p2, vi ((-1)), vr 15]) (rest := []) mv_X11_comesTo lk_X11_233 dX11_shutsOff_34 rfl rfl sh_1 (Nat.le_of_ble_eq_true rfl) (by decide) ⟨rfl, rfl⟩ (rX11_comesTo sh_15 hq3) <| At.iconst dX11_shutsOff_37 (by decide) <| At.icmp_ne_t (tgt := 45) dX11_shutsOff_38 (by decide) c4 <| ?_
    refine At.iconst dX11_shutsOff_45 (by decide) <| ?_
    obtain rfl := Option.some.inj h
    exact At.zret (b := false) rfl (Nat.zero_le _) (Nat.zero_le _) ⟨rfl, rfl⟩ dX11_shutsOff_46
def fX11_shut_L81 (l1 : Int) (l2 : Int) (l3 : Int) (l4 : Int) : Nat → Int → Int → SS → Option (Int × SS)
  | 0, _, _, _ => none
  | n + 1, l5, l6, S =>
    if l4 ≤ l6 then (
      some (l5, S)
    ) else (
      Option.bind (fJ6_bitCount_0f7a4 l6) fun q1 =>
      Option.bind (fJ6_bitCount_0f7a4 l5) fun q2 =>
      Option.bind (
        if q2 ≤ q1 then (
          some 0
        ) else (
          some 1
        )
        : Option (Int)) fun q3 =>
      Option.bind (
        if (jand l6 (jxor l4 ((-1)))) = 0 then (
          if q3 = 0 then (
            some (l5, S)
          ) else (
            Option.bind (fX11_shutsOff l1 l2 l6 S) fun q6 =>
            if q6.1 = true then (
              some (l6, q6.2)
            ) else (
              some (l5, q6.2)
            )
          )
        ) else (
          some (l5, S)
        )
        : Option (Int × SS)) fun q5 =>
      lt (w32 (l6 + 1)) fun x10 =>
      fX11_shut_L81 l1 l2 l3 l4 n q5.1 x10 q5.2
    )
def fX11_shut (p1 : Int) (p2 : Int) (p3 : Int) (S : SS) : Option (Int × SS) :=
  Option.bind (fX8_hasGoer 2 p1 S) fun q1 =>
  if q1 = true then (
    Option.bind (fX8_hasCorner 2 p2 S) fun q2 =>
    if q2 = true then (
      if p3 < 0 then (
        some ((-2), S)
      ) else (
        if p3 ≤ 1 then (
          Option.bind (fX6_cornerOf 7 p1 S) fun q3 =>
          if q3 = p2 then (
            some ((-1), S)
          ) else (
            Option.bind (fX8_allStreets 2 S) fun q4 =>
            Option.bind (fX6_shutStreets 7 (S 2 6) S) fun q5 =>
            lt (jand q4 (jxor q5 ((-1)))) fun x6 =>
            Option.bind (fX11_shut_L81 p1 p2 p3 x6 FU x6 0 S) fun q7 =>
            if p3 = 0 then (
              Option.bind (fJ6_bitCount_0f7a4 q7.1) fun q9 =>
              some (q9, q7.2)
            ) else (
              some (q7.1, q7.2)
            )
          )
        ) else (
          some ((-2), S)
        )
      )
    ) else (
      some ((-2), S)
    )
  ) else (
    some ((-2), S)
  )
set_option maxRecDepth 100000 in
set_option maxHeartbeats 4000000 in
theorem lX11_shut_L81 {G : GG} {Φ : Option VV → MM → Prop} {l1 : Int} {l2 : Int} {l3 : Int} {l4 : Int} : ∀ (n : Nat) (l5 : Int) (l6 : Int) (S : SS) (q : Int × SS), fX11_shut_L81 l1 l2 l3 l4 n l5 l6 S = some q → At G mX11_shut 8 144 [(3, vi l3), (5, vi q.1)] [] (mm q.2) 0 0 Φ → At G mX11_shut 8 81 [(0, vr 1), (1, vi l1), (2, vi l2), (3, vi l3), (4, vi l4), (5, vi l5), (6, vi l6)] [] (mm S) 0 0 Φ := by
  intro n
  induction n with
  | zero =>
    intro _ _ _ _ h
    cases h
  | succ n ih =>
    intro l5 l6 S q h K144
    unfold fX11_shut_L81 at h
    rcases ite_e h with ⟨c11, h⟩ | ⟨c11, h⟩
    · refine At.iload dX11_shut_81 rfl <| At.iload dX11_shut_83 rfl <| At.icmp_ge_t (tgt := 144) dX11_shut_85 (by decide) c11 <| ?_
      obtain rfl := Option.some.inj h
      exact At.sub [3, 5] rfl K144
    · refine At.iload dX11_shut_81 rfl <| At.iload dX11_shut_83 rfl <| At.icmp_ge_f (tgt := 144) dX11_shut_85 (by decide) c11 <| ?_
      refine At.iload dX11_shut_88 rfl <| ?_
      obtain ⟨q1, hq1, h⟩ := bnd_e h
      refine At.cS1 (av := [vi l6]) (rest := []) ms_J6_bitCount_0f7a4 lk_X11_308 dX11_shut_90 rfl rfl (Nat.le_of_ble_eq_true rfl) (by decide) ⟨rfl, rfl⟩ (rJ6_bitCount_0f7a4 hq1) <| At.iload dX11_shut_93 rfl <| ?_
      obtain ⟨q2, hq2, h⟩ := bnd_e h
      obtain ⟨q3, hj106, h⟩ := bnd_e h
      have K106 : At G mX11_shut 8 106 [(0, vr 1), (1, vi l1), (2, vi l2), (3, vi l3), (4, vi l4), (5, vi l5), (6, vi l6)] [vi q3] (mm S) 0 0 Φ := by
        obtain ⟨q5, hj138, h⟩ := bnd_e h
        have K138 : At G mX11_shut 8 138 [(0, vr 1), (1, vi l1), (2, vi l2), (3, vi l3), (4, vi l4), (5, vi q5.1), (6, vi l6)] [] (mm q5.2) 0 0 Φ := by
          obtain ⟨x10, hx10, h⟩ := lt_e h
          refine At.iinc (ls' := [(6, vi x10), (0, vr 1), (1, vi l1), (2, vi l2), (3, vi l3), (4, vi l4), (5, vi q5.1)]) dX11_shut_138 rfl (by decide) (by rw [hx10]; rfl) <| At.goto (tgt := 81) dX11_shut_141 (by decide) <| ?_
          exact At.sub [1, 2, 3, 4, 5, 6, 0] rfl (ih _ _ _ _ h K144)
        clear h; have h := hj138; clear hj138
        rcases ite_e h with ⟨c9, h⟩ | ⟨c9, h⟩
        · refine At.istore (ls' := [(7, vi q3), (0, vr 1), (1, vi l1), (2, vi l2), (3, vi l3), (4, vi l4), (5, vi l5), (6, vi l6)]) dX11_shut_106 (by decide) rfl <| At.iload dX11_shut_108 rfl <| At.iload dX11_shut_110 rfl <| At.iconst dX11_shut_112 (by decide) <| At.ixor dX11_shut_113 <| At.iand dX11_shut_114 <| At.if_ne_f (tgt := 138) dX11_shut_115 (by decide) c9 <| ?_
          rcases ite_e h with ⟨c8, h⟩ | ⟨c8, h⟩
          · refine At.iload dX11_shut_118 rfl <| At.if_eq_t (tgt := 138) dX11_shut_120 (by decide) c8 <| ?_
            obtain rfl := Option.some.inj h
            exact At.sub [1, 2, 3, 4, 5, 6, 7] rfl K138
          · refine At.iload dX11_shut_118 rfl <| At.if_eq_f (tgt := 138) dX11_shut_120 (by decide) c8 <| ?_
            refine At.aloadn dX11_shut_123 rfl <| At.iloadn dX11_shut_124 rfl <| At.iloadn dX11_shut_125 rfl <| At.iload dX11_shut_126 rfl <| ?_
            obtain ⟨q6, hq6, h⟩ := bnd_e h
            rcases ite_e h with ⟨c7, h⟩ | ⟨c7, h⟩
            · refine At.cV1 (av := [vi l1, vi l2, vi l6]) (rest := []) mv_X11_shutsOff lk_X11_313 dX11_shut_128 rfl rfl sh_1 (Nat.le_of_ble_eq_true rfl) (by decide) ⟨rfl, rfl⟩ (rX11_shutsOff hq6) <| At.bifeq_f (tgt := 138) dX11_shut_131 (by decide) c7 <| ?_
              refine At.iload dX11_shut_134 rfl <| At.istore (ls' := [(5, vi l6), (7, vi q3), (0, vr 1), (1, vi l1), (2, vi l2), (3, vi l3), (4, vi l4), (6, vi l6)]) dX11_shut_136 (by decide) rfl <| ?_
              obtain rfl := Option.some.inj h
              exact At.sub [2, 3, 4, 5, 6, 0, 7] rfl K138
            · refine At.cV1 (av := [vi l1, vi l2, vi l6]) (rest := []) mv_X11_shutsOff lk_X11_313 dX11_shut_128 rfl rfl sh_1 (Nat.le_of_ble_eq_true rfl) (by decide) ⟨rfl, rfl⟩ (rX11_shutsOff hq6) <| At.bifeq_t (tgt := 138) dX11_shut_131 (by decide) c7 <| ?_
              obtain rfl := Option.some.inj h
              exact At.sub [1, 2, 3, 4, 5, 6, 7] rfl K138
        · refine At.istore (ls' := [(7, vi q3), (0, vr 1), (1, vi l1), (2, vi l2), (3, vi l3), (4, vi l4), (5, vi l5), (6, vi l6)]) dX11_shut_106 (by decide) rfl <| At.iload dX11_shut_108 rfl <| At.iload dX11_shut_110 rfl <| At.iconst dX11_shut_112 (by decide) <| At.ixor dX11_shut_113 <| At.iand dX11_shut_114 <| At.if_ne_t (tgt := 138) dX11_shut_115 (by decide) c9 <| ?_
          obtain rfl := Option.some.inj h
          exact At.sub [1, 2, 3, 4, 5, 6, 7] rfl K138
      clear h; have h := hj106; clear hj106
      rcases ite_e h with ⟨c4, h⟩ | ⟨c4, h⟩
      · refine At.cS1 (av := [vi l5]) (rest := [vi q1]) ms_J6_bitCount_0f7a4 lk_X11_308 dX11_shut_95 rfl rfl (Nat.le_of_ble_eq_true rfl) (by decide) ⟨rfl, rfl⟩ (rJ6_bitCount_0f7a4 hq2) <| At.icmp_ge_t (tgt := 105) dX11_shut_98 (by decide) c4 <| ?_
        refine At.iconst dX11_shut_105 (by decide) <| ?_
        obtain rfl := Option.some.inj h
        exact At.sub [0, 1, 2, 3, 4, 5, 6] rfl K106
      · refine At.cS1 (av := [vi l5]) (rest := [vi q1]) ms_J6_bitCount_0f7a4 lk_X11_308 dX11_shut_95 rfl rfl (Nat.le_of_ble_eq_true rfl) (by decide) ⟨rfl, rfl⟩ (rJ6_bitCount_0f7a4 hq2) <| At.icmp_ge_f (tgt := 105) dX11_shut_98 (by decide) c4 <| ?_
        refine At.iconst dX11_shut_101 (by decide) <| At.goto (tgt := 106) dX11_shut_102 (by decide) <| ?_
        obtain rfl := Option.some.inj h
        exact At.sub [0, 1, 2, 3, 4, 5, 6] rfl K106
set_option maxRecDepth 100000 in
set_option maxHeartbeats 4000000 in
theorem rX11_shut {G : GG} {p1 : Int} {p2 : Int} {p3 : Int} {S : SS} {rr : (Int × SS)} (h : fX11_shut p1 p2 p3 S = some rr) : RD G mX11_shut 8 [vr 1, vi p1, vi p2, vi p3] S (some (vi rr.1)) rr.2 := by
  unfold fX11_shut at h
  refine Runs.of pl_X11 (Nat.le_of_ble_eq_true rfl) ?_
  show At G mX11_shut 8 0 [(0, vr 1), (1, vi p1), (2, vi p2), (3, vi p3)] [] (mm S) 0 0 (EQ (some (vi rr.1)) rr.2)
  refine At.aloadn dX11_shut_0 rfl <| At.getR fl_X11_12 sh_1 (le149 sh_1) rf_1_0 dX11_shut_1 <| At.iloadn dX11_shut_4 rfl <| ?_
  obtain ⟨q1, hq1, h⟩ := bnd_e h
  rcases ite_e h with ⟨c15, h⟩ | ⟨c15, h⟩
  · refine At.cV1 (av := [vi p1]) (rest := []) mv_X8_hasGoer lk_X11_148 dX11_shut_5 rfl rfl sh_2 (Nat.le_of_ble_eq_true rfl) (by decide) ⟨rfl, rfl⟩ (rX8_hasGoer sh_2 hq1) <| At.bifeq_f (tgt := 31) dX11_shut_8 (by decide) c15 <| ?_
    refine At.aloadn dX11_shut_11 rfl <| At.getR fl_X11_12 sh_1 (le149 sh_1) rf_1_0 dX11_shut_12 <| At.iloadn dX11_shut_15 rfl <| ?_
    obtain ⟨q2, hq2, h⟩ := bnd_e h
    rcases ite_e h with ⟨c14, h⟩ | ⟨c14, h⟩
    · refine At.cV1 (av := [vi p2]) (rest := []) mv_X8_hasCorner lk_X11_253 dX11_shut_16 rfl rfl sh_2 (Nat.le_of_ble_eq_true rfl) (by decide) ⟨rfl, rfl⟩ (rX8_hasCorner sh_2 hq2) <| At.bifeq_f (tgt := 31) dX11_shut_19 (by decide) c14 <| ?_
      rcases ite_e h with ⟨c13, h⟩ | ⟨c13, h⟩
      · refine At.iloadn dX11_shut_22 rfl <| At.if_lt_t (tgt := 31) dX11_shut_23 (by decide) c13 <| ?_
        refine At.bipush dX11_shut_31 (by decide) <| ?_
        obtain rfl := Option.some.inj h
        exact At.iret rfl (Nat.zero_le _) (Nat.zero_le _) ⟨rfl, rfl⟩ dX11_shut_33
      · refine At.iloadn dX11_shut_22 rfl <| At.if_lt_f (tgt := 31) dX11_shut_23 (by decide) c13 <| ?_
        rcases ite_e h with ⟨c12, h⟩ | ⟨c12, h⟩
        · refine At.iloadn dX11_shut_26 rfl <| At.iconst dX11_shut_27 (by decide) <| At.icmp_le_t (tgt := 34) dX11_shut_28 (by decide) c12 <| ?_
          refine At.aloadn dX11_shut_34 rfl <| At.getR fl_X11_20 sh_1 (le149 sh_1) rf_1_1 dX11_shut_35 <| At.iloadn dX11_shut_38 rfl <| ?_
          obtain ⟨q3, hq3, h⟩ := bnd_e h
          rcases ite_e h with ⟨c11, h⟩ | ⟨c11, h⟩
          · refine At.cV1 (av := [vi p1]) (rest := []) mv_X6_cornerOf lk_X11_151 dX11_shut_39 rfl rfl sh_7 (Nat.le_of_ble_eq_true rfl) (by decide) ⟨rfl, rfl⟩ (rX6_cornerOf sh_7 hq3) <| At.iloadn dX11_shut_42 rfl <| At.icmp_ne_f (tgt := 48) dX11_shut_43 (by decide) c11 <| ?_
            refine At.iconst dX11_shut_46 (by decide) <| ?_
            obtain rfl := Option.some.inj h
            exact At.iret rfl (Nat.zero_le _) (Nat.zero_le _) ⟨rfl, rfl⟩ dX11_shut_47
          · refine At.cV1 (av := [vi p1]) (rest := []) mv_X6_cornerOf lk_X11_151 dX11_shut_39 rfl rfl sh_7 (Nat.le_of_ble_eq_true rfl) (by decide) ⟨rfl, rfl⟩ (rX6_cornerOf sh_7 hq3) <| At.iloadn dX11_shut_42 rfl <| At.icmp_ne_t (tgt := 48) dX11_shut_43 (by decide) c11 <| ?_
            refine At.aloadn dX11_shut_48 rfl <| At.getR fl_X11_12 sh_1 (le149 sh_1) rf_1_0 dX11_shut_49 <| ?_
            obtain ⟨q4, hq4, h⟩ := bnd_e h
            refine At.cV1 (av := []) (rest := []) mv_X8_allStreets lk_X11_287 dX11_shut_52 rfl rfl sh_2 (Nat.le_of_ble_eq_true rfl) (by decide) ⟨rfl, rfl⟩ (rX8_allStreets sh_2 hq4) <| At.aloadn dX11_shut_55 rfl <| At.getR fl_X11_20 sh_1 (le149 sh_1) rf_1_1 dX11_shut_56 <| At.aloadn dX11_shut_59 rfl <| At.getR fl_X11_12 sh_1 (le149 sh_1) rf_1_0 dX11_shut_60 <| At.getI fl_X11_160 sh_2 (le149 sh_2) dX11_shut_63 <| ?_
            obtain ⟨q5, hq5, h⟩ := bnd_e h
            refine At.cV1 (av := [vi (S 2 6)]) (rest := [vi q4]) mv_X6_shutStreets lk_X11_291 dX11_shut_66 rfl rfl sh_7 (Nat.le_of_ble_eq_true rfl) (by decide) ⟨rfl, rfl⟩ (rX6_shutStreets sh_7 hq5) <| At.iconst dX11_shut_69 (by decide) <| At.ixor dX11_shut_70 <| At.iand dX11_shut_71 <| ?_
            obtain ⟨x6, hx6, h⟩ := lt_e h
            refine At.nm hx6 <| At.istore (ls' := [(4, vi x6), (0, vr 1), (1, vi p1), (2, vi p2), (3, vi p3)]) dX11_shut_72 (by decide) rfl <| At.iload dX11_shut_74 rfl <| At.istore (ls' := [(5, vi x6), (4, vi x6), (0, vr 1), (1, vi p1), (2, vi p2), (3, vi p3)]) dX11_shut_76 (by decide) rfl <| At.iconst dX11_shut_78 (by decide) <| At.istore (ls' := [(6, vi 0), (5, vi x6), (4, vi x6), (0, vr 1), (1, vi p1), (2, vi p2), (3, vi p3)]) dX11_shut_79 (by decide) rfl <| ?_
            obtain ⟨q7, ho8, h⟩ := bnd_e h
            refine At.sub [3, 4, 5, 6, 2, 1, 0] rfl (lX11_shut_L81 FU _ _ _ q7 ho8 ?_)
            rcases ite_e h with ⟨c10, h⟩ | ⟨c10, h⟩
            · refine At.iloadn dX11_shut_144 rfl <| At.if_ne_f (tgt := 156) dX11_shut_145 (by decide) c10 <| ?_
              refine At.iload dX11_shut_148 rfl <| ?_
              obtain ⟨q9, hq9, h⟩ := bnd_e h
              refine At.cS1 (av := [vi q7.1]) (rest := []) ms_J6_bitCount_0f7a4 lk_X11_308 dX11_shut_150 rfl rfl (Nat.le_of_ble_eq_true rfl) (by decide) ⟨rfl, rfl⟩ (rJ6_bitCount_0f7a4 hq9) <| At.goto (tgt := 158) dX11_shut_153 (by decide) <| ?_
              obtain rfl := Option.some.inj h
              exact At.iret rfl (Nat.zero_le _) (Nat.zero_le _) ⟨rfl, rfl⟩ dX11_shut_158
            · refine At.iloadn dX11_shut_144 rfl <| At.if_ne_t (tgt := 156) dX11_shut_145 (by decide) c10 <| ?_
              refine At.iload dX11_shut_156 rfl <| ?_
              obtain rfl := Option.some.inj h
              exact At.iret rfl (Nat.zero_le _) (Nat.zero_le _) ⟨rfl, rfl⟩ dX11_shut_158
        · refine At.iloadn dX11_shut_26 rfl <| At.iconst dX11_shut_27 (by decide) <| At.icmp_le_f (tgt := 34) dX11_shut_28 (by decide) c12 <| ?_
          refine At.bipush dX11_shut_31 (by decide) <| ?_
          obtain rfl := Option.some.inj h
          exact At.iret rfl (Nat.zero_le _) (Nat.zero_le _) ⟨rfl, rfl⟩ dX11_shut_33
    · refine At.cV1 (av := [vi p2]) (rest := []) mv_X8_hasCorner lk_X11_253 dX11_shut_16 rfl rfl sh_2 (Nat.le_of_ble_eq_true rfl) (by decide) ⟨rfl, rfl⟩ (rX8_hasCorner sh_2 hq2) <| At.bifeq_t (tgt := 31) dX11_shut_19 (by decide) c14 <| ?_
      refine At.bipush dX11_shut_31 (by decide) <| ?_
      obtain rfl := Option.some.inj h
      exact At.iret rfl (Nat.zero_le _) (Nat.zero_le _) ⟨rfl, rfl⟩ dX11_shut_33
  · refine At.cV1 (av := [vi p1]) (rest := []) mv_X8_hasGoer lk_X11_148 dX11_shut_5 rfl rfl sh_2 (Nat.le_of_ble_eq_true rfl) (by decide) ⟨rfl, rfl⟩ (rX8_hasGoer sh_2 hq1) <| At.bifeq_t (tgt := 31) dX11_shut_8 (by decide) c15 <| ?_
    refine At.bipush dX11_shut_31 (by decide) <| ?_
    obtain rfl := Option.some.inj h
    exact At.iret rfl (Nat.zero_le _) (Nat.zero_le _) ⟨rfl, rfl⟩ dX11_shut_33
def fX11_needed_L47 (l1 : Int) (l2 : Int) : Nat → Int → Int → SS → Option (Int × SS)
  | 0, _, _, _ => none
  | n + 1, l3, l4, S =>
    if (S 2 6) ≤ l4 then (
      some (l3, S)
    ) else (
      Option.bind (fX6_signOf 7 l4 S) fun q1 =>
      Option.bind (
        if q1 = 3 then (
          some (l3, S)
        ) else (
          Option.bind (fX11_shutsOff l1 l2 (jshl 1 l4) S) fun q3 =>
          if q3.1 = true then (
            lt (jor l3 (jshl 1 l4)) fun x4 =>
            some (x4, q3.2)
          ) else (
            some (l3, q3.2)
          )
        )
        : Option (Int × SS)) fun q2 =>
      lt (w32 (l4 + 1)) fun x7 =>
      fX11_needed_L47 l1 l2 n q2.1 x7 q2.2
    )
def fX11_needed (p1 : Int) (p2 : Int) (S : SS) : Option (Int × SS) :=
  Option.bind (fX8_hasGoer 2 p1 S) fun q1 =>
  if q1 = true then (
    Option.bind (fX8_hasCorner 2 p2 S) fun q2 =>
    if q2 = true then (
      Option.bind (fX11_comesTo p1 p2 ((-1)) 7 S) fun q3 =>
      if q3.1 = ((-1)) then (
        some (0, q3.2)
      ) else (
        Option.bind (fX11_needed_L47 p1 p2 FU 0 0 q3.2) fun q4 =>
        some (q4.1, q4.2)
      )
    ) else (
      some ((-2), S)
    )
  ) else (
    some ((-2), S)
  )
set_option maxRecDepth 100000 in
set_option maxHeartbeats 4000000 in
theorem lX11_needed_L47 {G : GG} {Φ : Option VV → MM → Prop} {l1 : Int} {l2 : Int} : ∀ (n : Nat) (l3 : Int) (l4 : Int) (S : SS) (q : Int × SS), fX11_needed_L47 l1 l2 n l3 l4 S = some q → At G mX11_needed 8 98 [(3, vi q.1)] [] (mm q.2) 0 0 Φ → At G mX11_needed 8 47 [(0, vr 1), (1, vi l1), (2, vi l2), (3, vi l3), (4, vi l4)] [] (mm S) 0 0 Φ := by
  intro n
  induction n with
  | zero =>
    intro _ _ _ _ h
    cases h
  | succ n ih =>
    intro l3 l4 S q h K98
    unfold fX11_needed_L47 at h
    rcases ite_e h with ⟨c8, h⟩ | ⟨c8, h⟩
    · refine At.iload dX11_needed_47 rfl <| At.aloadn dX11_needed_49 rfl <| At.getR fl_X11_12 sh_1 (le149 sh_1) rf_1_0 dX11_needed_50 <| At.getI fl_X11_160 sh_2 (le149 sh_2) dX11_needed_53 <| At.icmp_ge_t (tgt := 98) dX11_needed_56 (by decide) c8 <| ?_
      obtain rfl := Option.some.inj h
      exact At.sub [3] rfl K98
    · refine At.iload dX11_needed_47 rfl <| At.aloadn dX11_needed_49 rfl <| At.getR fl_X11_12 sh_1 (le149 sh_1) rf_1_0 dX11_needed_50 <| At.getI fl_X11_160 sh_2 (le149 sh_2) dX11_needed_53 <| At.icmp_ge_f (tgt := 98) dX11_needed_56 (by decide) c8 <| ?_
      refine At.aloadn dX11_needed_59 rfl <| At.getR fl_X11_20 sh_1 (le149 sh_1) rf_1_1 dX11_needed_60 <| At.iload dX11_needed_63 rfl <| ?_
      obtain ⟨q1, hq1, h⟩ := bnd_e h
      obtain ⟨q2, hj92, h⟩ := bnd_e h
      have K92 : At G mX11_needed 8 92 [(0, vr 1), (1, vi l1), (2, vi l2), (3, vi q2.1), (4, vi l4)] [] (mm q2.2) 0 0 Φ := by
        obtain ⟨x7, hx7, h⟩ := lt_e h
        refine At.iinc (ls' := [(4, vi x7), (0, vr 1), (1, vi l1), (2, vi l2), (3, vi q2.1)]) dX11_needed_92 rfl (by decide) (by rw [hx7]; rfl) <| At.goto (tgt := 47) dX11_needed_95 (by decide) <| ?_
        exact At.sub [1, 2, 3, 4, 0] rfl (ih _ _ _ _ h K98)
      clear h; have h := hj92; clear hj92
      rcases ite_e h with ⟨c6, h⟩ | ⟨c6, h⟩
      · refine At.cV1 (av := [vi l4]) (rest := []) mv_X6_signOf lk_X11_141 dX11_needed_65 rfl rfl sh_7 (Nat.le_of_ble_eq_true rfl) (by decide) ⟨rfl, rfl⟩ (rX6_signOf sh_7 hq1) <| At.iconst dX11_needed_68 (by decide) <| At.icmp_eq_t (tgt := 92) dX11_needed_69 (by decide) c6 <| ?_
        obtain rfl := Option.some.inj h
        exact At.sub [0, 1, 2, 3, 4] rfl K92
      · refine At.cV1 (av := [vi l4]) (rest := []) mv_X6_signOf lk_X11_141 dX11_needed_65 rfl rfl sh_7 (Nat.le_of_ble_eq_true rfl) (by decide) ⟨rfl, rfl⟩ (rX6_signOf sh_7 hq1) <| At.iconst dX11_needed_68 (by decide) <| At.icmp_eq_f (tgt := 92) dX11_needed_69 (by decide) c6 <| ?_
        refine At.aloadn dX11_needed_72 rfl <| At.iloadn dX11_needed_73 rfl <| At.iloadn dX11_needed_74 rfl <| At.iconst dX11_needed_75 (by decide) <| At.iload dX11_needed_76 rfl <| At.ishl dX11_needed_78 <| ?_
        obtain ⟨q3, hq3, h⟩ := bnd_e h
        rcases ite_e h with ⟨c5, h⟩ | ⟨c5, h⟩
        · refine At.cV1 (av := [vi l1, vi l2, vi (jshl 1 l4)]) (rest := []) mv_X11_shutsOff lk_X11_313 dX11_needed_79 rfl rfl sh_1 (Nat.le_of_ble_eq_true rfl) (by decide) ⟨rfl, rfl⟩ (rX11_shutsOff hq3) <| At.bifeq_f (tgt := 92) dX11_needed_82 (by decide) c5 <| ?_
          refine At.iloadn dX11_needed_85 rfl <| At.iconst dX11_needed_86 (by decide) <| At.iload dX11_needed_87 rfl <| At.ishl dX11_needed_89 <| At.ior dX11_needed_90 <| ?_
          obtain ⟨x4, hx4, h⟩ := lt_e h
          refine At.nm hx4 <| At.istoren (ls' := [(3, vi x4), (0, vr 1), (1, vi l1), (2, vi l2), (4, vi l4)]) dX11_needed_91 (by decide) rfl <| ?_
          obtain rfl := Option.some.inj h
          exact At.sub [1, 2, 3, 0, 4] rfl K92
        · refine At.cV1 (av := [vi l1, vi l2, vi (jshl 1 l4)]) (rest := []) mv_X11_shutsOff lk_X11_313 dX11_needed_79 rfl rfl sh_1 (Nat.le_of_ble_eq_true rfl) (by decide) ⟨rfl, rfl⟩ (rX11_shutsOff hq3) <| At.bifeq_t (tgt := 92) dX11_needed_82 (by decide) c5 <| ?_
          obtain rfl := Option.some.inj h
          exact At.sub [0, 1, 2, 3, 4] rfl K92
set_option maxRecDepth 100000 in
set_option maxHeartbeats 4000000 in
theorem rX11_needed {G : GG} {p1 : Int} {p2 : Int} {S : SS} {rr : (Int × SS)} (h : fX11_needed p1 p2 S = some rr) : RD G mX11_needed 8 [vr 1, vi p1, vi p2] S (some (vi rr.1)) rr.2 := by
  unfold fX11_needed at h
  refine Runs.of pl_X11 (Nat.le_of_ble_eq_true rfl) ?_
  show At G mX11_needed 8 0 [(0, vr 1), (1, vi p1), (2, vi p2)] [] (mm S) 0 0 (EQ (some (vi rr.1)) rr.2)
  refine At.aloadn dX11_needed_0 rfl <| At.getR fl_X11_12 sh_1 (le149 sh_1) rf_1_0 dX11_needed_1 <| At.iloadn dX11_needed_4 rfl <| ?_
  obtain ⟨q1, hq1, h⟩ := bnd_e h
  rcases ite_e h with ⟨c8, h⟩ | ⟨c8, h⟩
  · refine At.cV1 (av := [vi p1]) (rest := []) mv_X8_hasGoer lk_X11_148 dX11_needed_5 rfl rfl sh_2 (Nat.le_of_ble_eq_true rfl) (by decide) ⟨rfl, rfl⟩ (rX8_hasGoer sh_2 hq1) <| At.bifeq_f (tgt := 22) dX11_needed_8 (by decide) c8 <| ?_
    refine At.aloadn dX11_needed_11 rfl <| At.getR fl_X11_12 sh_1 (le149 sh_1) rf_1_0 dX11_needed_12 <| At.iloadn dX11_needed_15 rfl <| ?_
    obtain ⟨q2, hq2, h⟩ := bnd_e h
    rcases ite_e h with ⟨c7, h⟩ | ⟨c7, h⟩
    · refine At.cV1 (av := [vi p2]) (rest := []) mv_X8_hasCorner lk_X11_253 dX11_needed_16 rfl rfl sh_2 (Nat.le_of_ble_eq_true rfl) (by decide) ⟨rfl, rfl⟩ (rX8_hasCorner sh_2 hq2) <| At.bifne_t (tgt := 25) dX11_needed_19 (by decide) c7 <| ?_
      refine At.aloadn dX11_needed_25 rfl <| At.iloadn dX11_needed_26 rfl <| At.iloadn dX11_needed_27 rfl <| At.iconst dX11_needed_28 (by decide) <| At.aloadn dX11_needed_29 rfl <| At.getR fl_X11_20 sh_1 (le149 sh_1) rf_1_1 dX11_needed_30 <| ?_
      obtain ⟨q3, hq3, h⟩ := bnd_e h
      rcases ite_e h with ⟨c6, h⟩ | ⟨c6, h⟩
      · refine At.cV1 (av := [vi p1, vi p2, vi ((-1)), vr 7]) (rest := []) mv_X11_comesTo lk_X11_233 dX11_needed_33 rfl rfl sh_1 (Nat.le_of_ble_eq_true rfl) (by decide) ⟨rfl, rfl⟩ (rX11_comesTo sh_7 hq3) <| At.iconst dX11_needed_36 (by decide) <| At.icmp_ne_f (tgt := 42) dX11_needed_37 (by decide) c6 <| ?_
        refine At.iconst dX11_needed_40 (by decide) <| ?_
        obtain rfl := Option.some.inj h
        exact At.iret rfl (Nat.zero_le _) (Nat.zero_le _) ⟨rfl, rfl⟩ dX11_needed_41
      · refine At.cV1 (av := [vi p1, vi p2, vi ((-1)), vr 7]) (rest := []) mv_X11_comesTo lk_X11_233 dX11_needed_33 rfl rfl sh_1 (Nat.le_of_ble_eq_true rfl) (by decide) ⟨rfl, rfl⟩ (rX11_comesTo sh_7 hq3) <| At.iconst dX11_needed_36 (by decide) <| At.icmp_ne_t (tgt := 42) dX11_needed_37 (by decide) c6 <| ?_
        refine At.iconst dX11_needed_42 (by decide) <| At.istoren (ls' := [(3, vi 0), (0, vr 1), (1, vi p1), (2, vi p2)]) dX11_needed_43 (by decide) rfl <| At.iconst dX11_needed_44 (by decide) <| At.istore (ls' := [(4, vi 0), (3, vi 0), (0, vr 1), (1, vi p1), (2, vi p2)]) dX11_needed_45 (by decide) rfl <| ?_
        obtain ⟨q4, ho5, h⟩ := bnd_e h
        refine At.sub [2, 3, 4, 1, 0] rfl (lX11_needed_L47 FU _ _ _ q4 ho5 ?_)
        refine At.iloadn dX11_needed_98 rfl <| ?_
        obtain rfl := Option.some.inj h
        exact At.iret rfl (Nat.zero_le _) (Nat.zero_le _) ⟨rfl, rfl⟩ dX11_needed_99
    · refine At.cV1 (av := [vi p2]) (rest := []) mv_X8_hasCorner lk_X11_253 dX11_needed_16 rfl rfl sh_2 (Nat.le_of_ble_eq_true rfl) (by decide) ⟨rfl, rfl⟩ (rX8_hasCorner sh_2 hq2) <| At.bifne_f (tgt := 25) dX11_needed_19 (by decide) c7 <| ?_
      refine At.bipush dX11_needed_22 (by decide) <| ?_
      obtain rfl := Option.some.inj h
      exact At.iret rfl (Nat.zero_le _) (Nat.zero_le _) ⟨rfl, rfl⟩ dX11_needed_24
  · refine At.cV1 (av := [vi p1]) (rest := []) mv_X8_hasGoer lk_X11_148 dX11_needed_5 rfl rfl sh_2 (Nat.le_of_ble_eq_true rfl) (by decide) ⟨rfl, rfl⟩ (rX8_hasGoer sh_2 hq1) <| At.bifeq_t (tgt := 22) dX11_needed_8 (by decide) c8 <| ?_
    refine At.bipush dX11_needed_22 (by decide) <| ?_
    obtain rfl := Option.some.inj h
    exact At.iret rfl (Nat.zero_le _) (Nat.zero_le _) ⟨rfl, rfl⟩ dX11_needed_24
def fX11_refusesTook_L51 (l1 : Nat) (l3 : Int) (S : SS) : Nat → Int → Option (Nat)
  | 0, _ => none
  | n + 1, l4 =>
    if (S l1 2) ≤ l4 then (
      some 1
    ) else (
      Option.bind (fX9_valueAt l1 l4 S) fun q1 =>
      if (lc q1 0) < 0 then (
        some 0
      ) else (
        Option.bind (fX9_valueAt l1 l4 S) fun q2 =>
        if (lc q2 (S 2 6)) < 0 then (
          lt (w32 (l4 + 1)) fun x3 =>
          fX11_refusesTook_L51 l1 l3 S n x3
        ) else (
          some 0
        )
      )
    )
def fX11_refusesTook (p1 : Nat) (p2 : Int) (p3 : Int) (S : SS) : Option Int :=
  if p1 = 0 then (
    some ((-2))
  ) else (
    Option.bind (fX8_hasGoer 2 p2 S) fun q1 =>
    if q1 = true then (
      gsh p1 (9, 3) <|
      Option.bind (fX9_isMissing p1 S) fun q3 =>
      if q3 = true then (
        some ((-6))
      ) else (
        if (S p1 2) < 1 then (
          some ((-4))
        ) else (
          if (S p1 2) ≤ 10 then (
            Option.bind (fX11_refusesTook_L51 p1 p3 S FU 0) fun q4 =>
            if q4 = 0 then (
              some ((-3))
            ) else (
              Option.bind (fX11_isYear p3) fun q6 =>
              if q6 = true then (
                some 0
              ) else (
                some ((-3))
              )
            )
          ) else (
            some ((-4))
          )
        )
      )
    ) else (
      some ((-2))
    )
  )
set_option maxRecDepth 100000 in
set_option maxHeartbeats 4000000 in
theorem lX11_refusesTook_L51 {G : GG} {Φ : Option VV → MM → Prop} {l1 : Nat} {l3 : Int} {S : SS} (hl1 : sh l1 = (9, 3)) : ∀ (n : Nat) (l4 : Int) (q : Nat), fX11_refusesTook_L51 l1 l3 S n l4 = some q → (q = 0 → At G mX11_refusesTook 3 89 [] [] (mm S) 0 0 Φ) → (q = 1 → At G mX11_refusesTook 3 98 [(3, vi l3)] [] (mm S) 0 0 Φ) → At G mX11_refusesTook 3 51 [(0, vr 1), (1, vr l1), (3, vi l3), (4, vi l4)] [] (mm S) 0 0 Φ := by
  intro n
  induction n with
  | zero =>
    intro _ _ h
    cases h
  | succ n ih =>
    intro l4 q h K89 K98
    unfold fX11_refusesTook_L51 at h
    rcases ite_e h with ⟨c6, h⟩ | ⟨c6, h⟩
    · refine At.iload dX11_refusesTook_51 rfl <| At.aloadn dX11_refusesTook_53 rfl <| At.getI fl_X11_337 hl1 (le149 hl1) dX11_refusesTook_54 <| At.icmp_ge_t (tgt := 98) dX11_refusesTook_57 (by decide) c6 <| ?_
      obtain rfl := Option.some.inj h
      exact At.sub [2] rfl (K98 rfl)
    · refine At.iload dX11_refusesTook_51 rfl <| At.aloadn dX11_refusesTook_53 rfl <| At.getI fl_X11_337 hl1 (le149 hl1) dX11_refusesTook_54 <| At.icmp_ge_f (tgt := 98) dX11_refusesTook_57 (by decide) c6 <| ?_
      refine At.aloadn dX11_refusesTook_60 rfl <| At.iload dX11_refusesTook_61 rfl <| ?_
      obtain ⟨q1, hq1, h⟩ := bnd_e h
      rcases ite_e h with ⟨c5, h⟩ | ⟨c5, h⟩
      · refine At.cV1 (av := [vi l4]) (rest := []) mv_X9_valueAt lk_X11_340 dX11_refusesTook_63 rfl rfl hl1 (Nat.le_of_ble_eq_true rfl) (by decide) ⟨rfl, rfl⟩ (rX9_valueAt hl1 hq1) <| At.lconst0 dX11_refusesTook_66 <| At.lcmp dX11_refusesTook_67 <| At.if_lt_t (tgt := 89) dX11_refusesTook_68 (by decide) c5 <| ?_
        obtain rfl := Option.some.inj h
        exact At.sub [] rfl (K89 rfl)
      · refine At.cV1 (av := [vi l4]) (rest := []) mv_X9_valueAt lk_X11_340 dX11_refusesTook_63 rfl rfl hl1 (Nat.le_of_ble_eq_true rfl) (by decide) ⟨rfl, rfl⟩ (rX9_valueAt hl1 hq1) <| At.lconst0 dX11_refusesTook_66 <| At.lcmp dX11_refusesTook_67 <| At.if_lt_f (tgt := 89) dX11_refusesTook_68 (by decide) c5 <| ?_
        refine At.aloadn dX11_refusesTook_71 rfl <| At.iload dX11_refusesTook_72 rfl <| ?_
        obtain ⟨q2, hq2, h⟩ := bnd_e h
        rcases ite_e h with ⟨c4, h⟩ | ⟨c4, h⟩
        · refine At.cV1 (av := [vi l4]) (rest := []) mv_X9_valueAt lk_X11_340 dX11_refusesTook_74 rfl rfl hl1 (Nat.le_of_ble_eq_true rfl) (by decide) ⟨rfl, rfl⟩ (rX9_valueAt hl1 hq2) <| At.aloadn dX11_refusesTook_77 rfl <| At.getR fl_X11_12 sh_1 (le149 sh_1) rf_1_0 dX11_refusesTook_78 <| At.getI fl_X11_160 sh_2 (le149 sh_2) dX11_refusesTook_81 <| At.i2l dX11_refusesTook_84 <| At.lcmp dX11_refusesTook_85 <| At.if_lt_t (tgt := 92) dX11_refusesTook_86 (by decide) c4 <| ?_
          obtain ⟨x3, hx3, h⟩ := lt_e h
          refine At.iinc (ls' := [(4, vi x3), (0, vr 1), (1, vr l1), (3, vi l3)]) dX11_refusesTook_92 rfl (by decide) (by rw [hx3]; rfl) <| At.goto (tgt := 51) dX11_refusesTook_95 (by decide) <| ?_
          exact At.sub [1, 2, 3, 0] rfl (ih _ _ h K89 K98)
        · refine At.cV1 (av := [vi l4]) (rest := []) mv_X9_valueAt lk_X11_340 dX11_refusesTook_74 rfl rfl hl1 (Nat.le_of_ble_eq_true rfl) (by decide) ⟨rfl, rfl⟩ (rX9_valueAt hl1 hq2) <| At.aloadn dX11_refusesTook_77 rfl <| At.getR fl_X11_12 sh_1 (le149 sh_1) rf_1_0 dX11_refusesTook_78 <| At.getI fl_X11_160 sh_2 (le149 sh_2) dX11_refusesTook_81 <| At.i2l dX11_refusesTook_84 <| At.lcmp dX11_refusesTook_85 <| At.if_lt_f (tgt := 92) dX11_refusesTook_86 (by decide) c4 <| ?_
          obtain rfl := Option.some.inj h
          exact At.sub [] rfl (K89 rfl)
set_option maxRecDepth 100000 in
set_option maxHeartbeats 4000000 in
theorem rX11_refusesTook {G : GG} {p1 : Nat} {p2 : Int} {p3 : Int} {S : SS} {rr : Int} (h : fX11_refusesTook p1 p2 p3 S = some rr) : RD G mX11_refusesTook 3 [vr 1, vr p1, vi p2, vi p3] S (some (vi rr)) S := by
  unfold fX11_refusesTook at h
  refine Runs.of pl_X11 (Nat.le_of_ble_eq_true rfl) ?_
  show At G mX11_refusesTook 3 0 [(0, vr 1), (1, vr p1), (2, vi p2), (3, vi p3)] [] (mm S) 0 0 (EQ (some (vi rr)) S)
  rcases ite_e h with ⟨c12, h⟩ | ⟨c12, h⟩
  · refine At.aloadn dX11_refusesTook_0 rfl <| At.ifnull_t (tgt := 15) dX11_refusesTook_1 (by decide) c12 <| ?_
    refine At.bipush dX11_refusesTook_15 (by decide) <| ?_
    obtain rfl := Option.some.inj h
    exact At.iret rfl (Nat.zero_le _) (Nat.zero_le _) ⟨rfl, rfl⟩ dX11_refusesTook_17
  · refine At.aloadn dX11_refusesTook_0 rfl <| At.ifnull_f (tgt := 15) dX11_refusesTook_1 (by decide) c12 <| ?_
    refine At.aloadn dX11_refusesTook_4 rfl <| At.getR fl_X11_12 sh_1 (le149 sh_1) rf_1_0 dX11_refusesTook_5 <| At.iloadn dX11_refusesTook_8 rfl <| ?_
    obtain ⟨q1, hq1, h⟩ := bnd_e h
    rcases ite_e h with ⟨c11, h⟩ | ⟨c11, h⟩
    · refine At.cV1 (av := [vi p2]) (rest := []) mv_X8_hasGoer lk_X11_148 dX11_refusesTook_9 rfl rfl sh_2 (Nat.le_of_ble_eq_true rfl) (by decide) ⟨rfl, rfl⟩ (rX8_hasGoer sh_2 hq1) <| At.bifne_t (tgt := 18) dX11_refusesTook_12 (by decide) c11 <| ?_
      refine At.aloadn dX11_refusesTook_18 rfl <| ?_
      obtain ⟨g2, h⟩ := gsh_e h
      obtain ⟨q3, hq3, h⟩ := bnd_e h
      rcases ite_e h with ⟨c10, h⟩ | ⟨c10, h⟩
      · refine At.cV1 (av := []) (rest := []) mv_X9_isMissing lk_X11_208 dX11_refusesTook_19 rfl rfl g2 (Nat.le_of_ble_eq_true rfl) (by decide) ⟨rfl, rfl⟩ (rX9_isMissing g2 hq3) <| At.bifeq_f (tgt := 28) dX11_refusesTook_22 (by decide) c10 <| ?_
        refine At.bipush dX11_refusesTook_25 (by decide) <| ?_
        obtain rfl := Option.some.inj h
        exact At.iret rfl (Nat.zero_le _) (Nat.zero_le _) ⟨rfl, rfl⟩ dX11_refusesTook_27
      · refine At.cV1 (av := []) (rest := []) mv_X9_isMissing lk_X11_208 dX11_refusesTook_19 rfl rfl g2 (Nat.le_of_ble_eq_true rfl) (by decide) ⟨rfl, rfl⟩ (rX9_isMissing g2 hq3) <| At.bifeq_t (tgt := 28) dX11_refusesTook_22 (by decide) c10 <| ?_
        rcases ite_e h with ⟨c9, h⟩ | ⟨c9, h⟩
        · refine At.aloadn dX11_refusesTook_28 rfl <| At.getI fl_X11_337 g2 (le149 g2) dX11_refusesTook_29 <| At.iconst dX11_refusesTook_32 (by decide) <| At.icmp_lt_t (tgt := 45) dX11_refusesTook_33 (by decide) c9 <| ?_
          refine At.bipush dX11_refusesTook_45 (by decide) <| ?_
          obtain rfl := Option.some.inj h
          exact At.iret rfl (Nat.zero_le _) (Nat.zero_le _) ⟨rfl, rfl⟩ dX11_refusesTook_47
        · refine At.aloadn dX11_refusesTook_28 rfl <| At.getI fl_X11_337 g2 (le149 g2) dX11_refusesTook_29 <| At.iconst dX11_refusesTook_32 (by decide) <| At.icmp_lt_f (tgt := 45) dX11_refusesTook_33 (by decide) c9 <| ?_
          rcases ite_e h with ⟨c8, h⟩ | ⟨c8, h⟩
          · refine At.aloadn dX11_refusesTook_36 rfl <| At.getI fl_X11_337 g2 (le149 g2) dX11_refusesTook_37 <| At.bipush dX11_refusesTook_40 (by decide) <| At.icmp_le_t (tgt := 48) dX11_refusesTook_42 (by decide) c8 <| ?_
            refine At.iconst dX11_refusesTook_48 (by decide) <| At.istore (ls' := [(4, vi 0), (0, vr 1), (1, vr p1), (2, vi p2), (3, vi p3)]) dX11_refusesTook_49 (by decide) rfl <| ?_
            obtain ⟨q4, ho5, h⟩ := bnd_e h
            refine At.sub [1, 2, 4, 0] rfl (lX11_refusesTook_L51 g2 FU _ q4 ho5 (fun hq => ?_) (fun hq => ?_))
            · rw [if_pos hq] at h
              refine At.bipush dX11_refusesTook_89 (by decide) <| ?_
              obtain rfl := Option.some.inj h
              exact At.iret rfl (Nat.zero_le _) (Nat.zero_le _) ⟨rfl, rfl⟩ dX11_refusesTook_91
            · rw [if_neg (by omega)] at h
              refine At.iloadn dX11_refusesTook_98 rfl <| ?_
              obtain ⟨q6, hq6, h⟩ := bnd_e h
              rcases ite_e h with ⟨c7, h⟩ | ⟨c7, h⟩
              · refine At.cS1 (av := [vi p3]) (rest := []) ms_X11_isYear lk_X11_344 dX11_refusesTook_99 rfl rfl (Nat.le_of_ble_eq_true rfl) (by decide) ⟨rfl, rfl⟩ (rX11_isYear hq6) <| At.bifeq_f (tgt := 109) dX11_refusesTook_102 (by decide) c7 <| ?_
                refine At.iconst dX11_refusesTook_105 (by decide) <| At.goto (tgt := 111) dX11_refusesTook_106 (by decide) <| ?_
                obtain rfl := Option.some.inj h
                exact At.iret rfl (Nat.zero_le _) (Nat.zero_le _) ⟨rfl, rfl⟩ dX11_refusesTook_111
              · refine At.cS1 (av := [vi p3]) (rest := []) ms_X11_isYear lk_X11_344 dX11_refusesTook_99 rfl rfl (Nat.le_of_ble_eq_true rfl) (by decide) ⟨rfl, rfl⟩ (rX11_isYear hq6) <| At.bifeq_t (tgt := 109) dX11_refusesTook_102 (by decide) c7 <| ?_
                refine At.bipush dX11_refusesTook_109 (by decide) <| ?_
                obtain rfl := Option.some.inj h
                exact At.iret rfl (Nat.zero_le _) (Nat.zero_le _) ⟨rfl, rfl⟩ dX11_refusesTook_111
          · refine At.aloadn dX11_refusesTook_36 rfl <| At.getI fl_X11_337 g2 (le149 g2) dX11_refusesTook_37 <| At.bipush dX11_refusesTook_40 (by decide) <| At.icmp_le_f (tgt := 48) dX11_refusesTook_42 (by decide) c8 <| ?_
            refine At.bipush dX11_refusesTook_45 (by decide) <| ?_
            obtain rfl := Option.some.inj h
            exact At.iret rfl (Nat.zero_le _) (Nat.zero_le _) ⟨rfl, rfl⟩ dX11_refusesTook_47
    · refine At.cV1 (av := [vi p2]) (rest := []) mv_X8_hasGoer lk_X11_148 dX11_refusesTook_9 rfl rfl sh_2 (Nat.le_of_ble_eq_true rfl) (by decide) ⟨rfl, rfl⟩ (rX8_hasGoer sh_2 hq1) <| At.bifne_f (tgt := 18) dX11_refusesTook_12 (by decide) c11 <| ?_
      refine At.bipush dX11_refusesTook_15 (by decide) <| ?_
      obtain rfl := Option.some.inj h
      exact At.iret rfl (Nat.zero_le _) (Nat.zero_le _) ⟨rfl, rfl⟩ dX11_refusesTook_17
def fX11_yearBehindRow_L22 (l1 : Nat) (l2 : Int) (l4 : Nat) : Nat → Int → Int → SS → Option (Int × SS)
  | 0, _, _, _ => none
  | n + 1, l5, l6, S =>
    gsh l1 (9, 3) <|
    if (S l1 2) ≤ l6 then (
      some (l5, S)
    ) else (
      if l5 < 0 then (
        some (l5, S)
      ) else (
        Option.bind (fX9_valueAt l1 l6 S) fun q2 =>
        Option.bind (fX5_after l2 (w32 q2) l5 l4 S) fun q3 =>
        lt (w32 (l6 + 1)) fun x4 =>
        fX11_yearBehindRow_L22 l1 l2 l4 n q3.1 x4 q3.2
      )
    )
def fX11_yearBehindRow (p1 : Nat) (p2 : Int) (p3 : Int) (p4 : Nat) (S : SS) : Option (Int × SS) :=
  if p1 = 0 then (
    some ((-1), S)
  ) else (
    Option.bind (fX6_yearOf p4 p2 S) fun q1 =>
    lt (w32 ((w32 (p3 * 20)) + q1)) fun x2 =>
    Option.bind (fX11_yearBehindRow_L22 p1 p2 p4 FU x2 0 S) fun q3 =>
    if 0 ≤ q3.1 then (
      some (Int.tmod q3.1 20, q3.2)
    ) else (
      some ((-1), q3.2)
    )
  )
set_option maxRecDepth 100000 in
set_option maxHeartbeats 4000000 in
theorem lX11_yearBehindRow_L22 {G : GG} {Φ : Option VV → MM → Prop} {l1 : Nat} {l2 : Int} {l4 : Nat} (hl4 : sh l4 = (6, 4)) : ∀ (n : Nat) (l5 : Int) (l6 : Int) (S : SS) (q : Int × SS), fX11_yearBehindRow_L22 l1 l2 l4 n l5 l6 S = some q → At G mX11_yearBehindRow 5 63 [(5, vi q.1)] [] (mm q.2) 0 0 Φ → At G mX11_yearBehindRow 5 22 [(0, vr 1), (1, vr l1), (2, vi l2), (4, vr l4), (5, vi l5), (6, vi l6)] [] (mm S) 0 0 Φ := by
  intro n
  induction n with
  | zero =>
    intro _ _ _ _ h
    cases h
  | succ n ih =>
    intro l5 l6 S q h K63
    unfold fX11_yearBehindRow_L22 at h
    refine At.iload dX11_yearBehindRow_22 rfl <| At.aloadn dX11_yearBehindRow_24 rfl <| ?_
    obtain ⟨g1, h⟩ := gsh_e h
    rcases ite_e h with ⟨c6, h⟩ | ⟨c6, h⟩
    · refine At.getI fl_X11_337 g1 (le149 g1) dX11_yearBehindRow_25 <| At.icmp_ge_t (tgt := 63) dX11_yearBehindRow_28 (by decide) c6 <| ?_
      obtain rfl := Option.some.inj h
      exact At.sub [4] rfl K63
    · refine At.getI fl_X11_337 g1 (le149 g1) dX11_yearBehindRow_25 <| At.icmp_ge_f (tgt := 63) dX11_yearBehindRow_28 (by decide) c6 <| ?_
      rcases ite_e h with ⟨c5, h⟩ | ⟨c5, h⟩
      · refine At.iload dX11_yearBehindRow_31 rfl <| At.if_lt_t (tgt := 63) dX11_yearBehindRow_33 (by decide) c5 <| ?_
        obtain rfl := Option.some.inj h
        exact At.sub [4] rfl K63
      · refine At.iload dX11_yearBehindRow_31 rfl <| At.if_lt_f (tgt := 63) dX11_yearBehindRow_33 (by decide) c5 <| ?_
        refine At.aloadn dX11_yearBehindRow_36 rfl <| At.getR fl_X11_44 sh_1 (le149 sh_1) rf_1_5 dX11_yearBehindRow_37 <| At.iloadn dX11_yearBehindRow_40 rfl <| At.aloadn dX11_yearBehindRow_41 rfl <| At.iload dX11_yearBehindRow_42 rfl <| ?_
        obtain ⟨q2, hq2, h⟩ := bnd_e h
        refine At.cV1 (av := [vi l6]) (rest := [vi l2, vr 30]) mv_X9_valueAt lk_X11_340 dX11_yearBehindRow_44 rfl rfl g1 (Nat.le_of_ble_eq_true rfl) (by decide) ⟨rfl, rfl⟩ (rX9_valueAt g1 hq2) <| At.l2i dX11_yearBehindRow_47 <| At.iload dX11_yearBehindRow_48 rfl <| At.aload dX11_yearBehindRow_50 rfl <| ?_
        obtain ⟨q3, hq3, h⟩ := bnd_e h
        refine At.cV1 (av := [vi l2, vi (w32 q2), vi l5, vr l4]) (rest := []) mv_X5_after lk_X11_166 dX11_yearBehindRow_52 rfl rfl sh_30 (Nat.le_of_ble_eq_true rfl) (by decide) ⟨rfl, rfl⟩ (rX5_after hl4 hq3) <| At.istore (ls' := [(5, vi q3.1), (0, vr 1), (1, vr l1), (2, vi l2), (4, vr l4), (6, vi l6)]) dX11_yearBehindRow_55 (by decide) rfl <| ?_
        obtain ⟨x4, hx4, h⟩ := lt_e h
        refine At.iinc (ls' := [(6, vi x4), (5, vi q3.1), (0, vr 1), (1, vr l1), (2, vi l2), (4, vr l4)]) dX11_yearBehindRow_57 rfl (by decide) (by rw [hx4]; rfl) <| At.goto (tgt := 22) dX11_yearBehindRow_60 (by decide) <| ?_
        exact At.sub [2, 3, 4, 5, 1, 0] rfl (ih _ _ _ _ h K63)
set_option maxRecDepth 100000 in
set_option maxHeartbeats 4000000 in
theorem rX11_yearBehindRow {G : GG} {p1 : Nat} {p2 : Int} {p3 : Int} {p4 : Nat} {S : SS} {rr : (Int × SS)} (hp4 : sh p4 = (6, 4)) (h : fX11_yearBehindRow p1 p2 p3 p4 S = some rr) : RD G mX11_yearBehindRow 5 [vr 1, vr p1, vi p2, vi p3, vr p4] S (some (vi rr.1)) rr.2 := by
  unfold fX11_yearBehindRow at h
  refine Runs.of pl_X11 (Nat.le_of_ble_eq_true rfl) ?_
  show At G mX11_yearBehindRow 5 0 [(0, vr 1), (1, vr p1), (2, vi p2), (3, vi p3), (4, vr p4)] [] (mm S) 0 0 (EQ (some (vi rr.1)) rr.2)
  rcases ite_e h with ⟨c6, h⟩ | ⟨c6, h⟩
  · refine At.aloadn dX11_yearBehindRow_0 rfl <| At.ifnonnull_f (tgt := 6) dX11_yearBehindRow_1 (by decide) c6 <| ?_
    refine At.iconst dX11_yearBehindRow_4 (by decide) <| ?_
    obtain rfl := Option.some.inj h
    exact At.iret rfl (Nat.zero_le _) (Nat.zero_le _) ⟨rfl, rfl⟩ dX11_yearBehindRow_5
  · refine At.aloadn dX11_yearBehindRow_0 rfl <| At.ifnonnull_t (tgt := 6) dX11_yearBehindRow_1 (by decide) c6 <| ?_
    refine At.iloadn dX11_yearBehindRow_6 rfl <| At.bipush dX11_yearBehindRow_7 (by decide) <| At.imul dX11_yearBehindRow_9 <| At.aload dX11_yearBehindRow_10 rfl <| At.iloadn dX11_yearBehindRow_12 rfl <| ?_
    obtain ⟨q1, hq1, h⟩ := bnd_e h
    refine At.cV1 (av := [vi p2]) (rest := [vi (w32 (p3 * 20))]) mv_X6_yearOf lk_X11_154 dX11_yearBehindRow_13 rfl rfl hp4 (Nat.le_of_ble_eq_true rfl) (by decide) ⟨rfl, rfl⟩ (rX6_yearOf hp4 hq1) <| At.iadd dX11_yearBehindRow_16 <| ?_
    obtain ⟨x2, hx2, h⟩ := lt_e h
    refine At.nm hx2 <| At.istore (ls' := [(5, vi x2), (0, vr 1), (1, vr p1), (2, vi p2), (3, vi p3), (4, vr p4)]) dX11_yearBehindRow_17 (by decide) rfl <| At.iconst dX11_yearBehindRow_19 (by decide) <| At.istore (ls' := [(6, vi 0), (5, vi x2), (0, vr 1), (1, vr p1), (2, vi p2), (3, vi p3), (4, vr p4)]) dX11_yearBehindRow_20 (by decide) rfl <| ?_
    obtain ⟨q3, ho4, h⟩ := bnd_e h
    refine At.sub [2, 3, 4, 6, 1, 0] rfl (lX11_yearBehindRow_L22 hp4 FU _ _ _ q3 ho4 ?_)
    rcases ite_e h with ⟨c5, h⟩ | ⟨c5, h⟩
    · refine At.iload dX11_yearBehindRow_63 rfl <| At.if_ge_t (tgt := 72) dX11_yearBehindRow_65 (by decide) c5 <| ?_
      refine At.iload dX11_yearBehindRow_72 rfl <| At.bipush dX11_yearBehindRow_74 (by decide) <| At.irem dX11_yearBehindRow_76 (by decide) <| ?_
      obtain rfl := Option.some.inj h
      exact At.iret rfl (Nat.zero_le _) (Nat.zero_le _) ⟨rfl, rfl⟩ dX11_yearBehindRow_77
    · refine At.iload dX11_yearBehindRow_63 rfl <| At.if_ge_f (tgt := 72) dX11_yearBehindRow_65 (by decide) c5 <| ?_
      refine At.iconst dX11_yearBehindRow_68 (by decide) <| At.goto (tgt := 77) dX11_yearBehindRow_69 (by decide) <| ?_
      obtain rfl := Option.some.inj h
      exact At.iret rfl (Nat.zero_le _) (Nat.zero_le _) ⟨rfl, rfl⟩ dX11_yearBehindRow_77
def fX11_from_L31 (l2 : Int) (l3 : Int) (l4 : Nat) : Nat → Int → Int → SS → Option (Int × SS)
  | 0, _, _, _ => none
  | n + 1, l6, l7, S =>
    if (S 2 5) ≤ l7 then (
      some (l6, S)
    ) else (
      Option.bind (fX11_yearBehindRow l4 l2 l7 7 S) fun q1 =>
      Option.bind (
        if q1.1 = l3 then (
          lt (jor l6 (jshl 1 l7)) fun x3 =>
          some x3
        ) else (
          some l6
        )
        : Option (Int)) fun q2 =>
      lt (w32 (l7 + 1)) fun x5 =>
      fX11_from_L31 l2 l3 l4 n q2 x5 q1.2
    )
def fX11_from (p1 : Int) (p2 : Int) (p3 : Int) (S : SS) : Option (Int × SS) :=
  Option.bind (fX11_trayAt p1 S) fun q1 =>
  Option.bind (fX11_refusesTook q1 p2 p3 S) fun q2 =>
  if q2 = 0 then (
    Option.bind (fX11_from_L31 p2 p3 q1 FU 0 0 S) fun q3 =>
    some (q3.1, q3.2)
  ) else (
    some (q2, S)
  )
set_option maxRecDepth 100000 in
set_option maxHeartbeats 4000000 in
theorem lX11_from_L31 {G : GG} {Φ : Option VV → MM → Prop} {l2 : Int} {l3 : Int} {l4 : Nat} : ∀ (n : Nat) (l6 : Int) (l7 : Int) (S : SS) (q : Int × SS), fX11_from_L31 l2 l3 l4 n l6 l7 S = some q → At G mX11_from 6 75 [(6, vi q.1)] [] (mm q.2) 0 0 Φ → At G mX11_from 6 31 [(0, vr 1), (2, vi l2), (3, vi l3), (4, vr l4), (6, vi l6), (7, vi l7)] [] (mm S) 0 0 Φ := by
  intro n
  induction n with
  | zero =>
    intro _ _ _ _ h
    cases h
  | succ n ih =>
    intro l6 l7 S q h K75
    unfold fX11_from_L31 at h
    rcases ite_e h with ⟨c6, h⟩ | ⟨c6, h⟩
    · refine At.iload dX11_from_31 rfl <| At.aloadn dX11_from_33 rfl <| At.getR fl_X11_12 sh_1 (le149 sh_1) rf_1_0 dX11_from_34 <| At.getI fl_X11_324 sh_2 (le149 sh_2) dX11_from_37 <| At.icmp_ge_t (tgt := 75) dX11_from_40 (by decide) c6 <| ?_
      obtain rfl := Option.some.inj h
      exact At.sub [4] rfl K75
    · refine At.iload dX11_from_31 rfl <| At.aloadn dX11_from_33 rfl <| At.getR fl_X11_12 sh_1 (le149 sh_1) rf_1_0 dX11_from_34 <| At.getI fl_X11_324 sh_2 (le149 sh_2) dX11_from_37 <| At.icmp_ge_f (tgt := 75) dX11_from_40 (by decide) c6 <| ?_
      refine At.aloadn dX11_from_43 rfl <| At.aload dX11_from_44 rfl <| At.iloadn dX11_from_46 rfl <| At.iload dX11_from_47 rfl <| At.aloadn dX11_from_49 rfl <| At.getR fl_X11_20 sh_1 (le149 sh_1) rf_1_1 dX11_from_50 <| ?_
      obtain ⟨q1, hq1, h⟩ := bnd_e h
      obtain ⟨q2, hj69, h⟩ := bnd_e h
      have K69 : At G mX11_from 6 69 [(0, vr 1), (2, vi l2), (3, vi l3), (4, vr l4), (6, vi q2), (7, vi l7)] [] (mm q1.2) 0 0 Φ := by
        obtain ⟨x5, hx5, h⟩ := lt_e h
        refine At.iinc (ls' := [(7, vi x5), (0, vr 1), (2, vi l2), (3, vi l3), (4, vr l4), (6, vi q2)]) dX11_from_69 rfl (by decide) (by rw [hx5]; rfl) <| At.goto (tgt := 31) dX11_from_72 (by decide) <| ?_
        exact At.sub [1, 2, 3, 4, 5, 0] rfl (ih _ _ _ _ h K75)
      clear h; have h := hj69; clear hj69
      rcases ite_e h with ⟨c4, h⟩ | ⟨c4, h⟩
      · refine At.cV1 (av := [vr l4, vi l2, vi l7, vr 7]) (rest := []) mv_X11_yearBehindRow lk_X11_327 dX11_from_53 rfl rfl sh_1 (Nat.le_of_ble_eq_true rfl) (by decide) ⟨rfl, rfl⟩ (rX11_yearBehindRow sh_7 hq1) <| At.iloadn dX11_from_56 rfl <| At.icmp_ne_f (tgt := 69) dX11_from_57 (by decide) c4 <| ?_
        refine At.iload dX11_from_60 rfl <| At.iconst dX11_from_62 (by decide) <| At.iload dX11_from_63 rfl <| At.ishl dX11_from_65 <| At.ior dX11_from_66 <| ?_
        obtain ⟨x3, hx3, h⟩ := lt_e h
        refine At.nm hx3 <| At.istore (ls' := [(6, vi x3), (0, vr 1), (2, vi l2), (3, vi l3), (4, vr l4), (7, vi l7)]) dX11_from_67 (by decide) rfl <| ?_
        obtain rfl := Option.some.inj h
        exact At.sub [1, 2, 3, 4, 0, 5] rfl K69
      · refine At.cV1 (av := [vr l4, vi l2, vi l7, vr 7]) (rest := []) mv_X11_yearBehindRow lk_X11_327 dX11_from_53 rfl rfl sh_1 (Nat.le_of_ble_eq_true rfl) (by decide) ⟨rfl, rfl⟩ (rX11_yearBehindRow sh_7 hq1) <| At.iloadn dX11_from_56 rfl <| At.icmp_ne_t (tgt := 69) dX11_from_57 (by decide) c4 <| ?_
        obtain rfl := Option.some.inj h
        exact At.sub [0, 1, 2, 3, 4, 5] rfl K69
set_option maxRecDepth 100000 in
set_option maxHeartbeats 4000000 in
theorem rX11_from {G : GG} {p1 : Int} {p2 : Int} {p3 : Int} {S : SS} {rr : (Int × SS)} (h : fX11_from p1 p2 p3 S = some rr) : RD G mX11_from 6 [vr 1, vi p1, vi p2, vi p3] S (some (vi rr.1)) rr.2 := by
  unfold fX11_from at h
  refine Runs.of pl_X11 (Nat.le_of_ble_eq_true rfl) ?_
  show At G mX11_from 6 0 [(0, vr 1), (1, vi p1), (2, vi p2), (3, vi p3)] [] (mm S) 0 0 (EQ (some (vi rr.1)) rr.2)
  refine At.aloadn dX11_from_0 rfl <| At.iloadn dX11_from_1 rfl <| ?_
  obtain ⟨q1, hq1, h⟩ := bnd_e h
  refine At.cV1 (av := [vi p1]) (rest := []) mv_X11_trayAt lk_X11_204 dX11_from_2 rfl rfl sh_1 (Nat.le_of_ble_eq_true rfl) (by decide) ⟨rfl, rfl⟩ (rX11_trayAt hq1) <| At.astore (ls' := [(4, vr q1), (0, vr 1), (1, vi p1), (2, vi p2), (3, vi p3)]) dX11_from_5 (by decide) rfl <| At.aloadn dX11_from_7 rfl <| At.aload dX11_from_8 rfl <| At.iloadn dX11_from_10 rfl <| At.iloadn dX11_from_11 rfl <| ?_
  obtain ⟨q2, hq2, h⟩ := bnd_e h
  rcases ite_e h with ⟨c5, h⟩ | ⟨c5, h⟩
  · refine At.cV1 (av := [vr q1, vi p2, vi p3]) (rest := []) mv_X11_refusesTook lk_X11_320 dX11_from_12 rfl rfl sh_1 (Nat.le_of_ble_eq_true rfl) (by decide) ⟨rfl, rfl⟩ (rX11_refusesTook hq2) <| At.istore (ls' := [(5, vi q2), (4, vr q1), (0, vr 1), (1, vi p1), (2, vi p2), (3, vi p3)]) dX11_from_15 (by decide) rfl <| At.iload dX11_from_17 rfl <| At.if_eq_t (tgt := 25) dX11_from_19 (by decide) c5 <| ?_
    refine At.iconst dX11_from_25 (by decide) <| At.istore (ls' := [(6, vi 0), (5, vi q2), (4, vr q1), (0, vr 1), (1, vi p1), (2, vi p2), (3, vi p3)]) dX11_from_26 (by decide) rfl <| At.iconst dX11_from_28 (by decide) <| At.istore (ls' := [(7, vi 0), (6, vi 0), (5, vi q2), (4, vr q1), (0, vr 1), (1, vi p1), (2, vi p2), (3, vi p3)]) dX11_from_29 (by decide) rfl <| ?_
    obtain ⟨q3, ho4, h⟩ := bnd_e h
    refine At.sub [4, 6, 7, 3, 1, 0] rfl (lX11_from_L31 FU _ _ _ q3 ho4 ?_)
    refine At.iload dX11_from_75 rfl <| ?_
    obtain rfl := Option.some.inj h
    exact At.iret rfl (Nat.zero_le _) (Nat.zero_le _) ⟨rfl, rfl⟩ dX11_from_77
  · refine At.cV1 (av := [vr q1, vi p2, vi p3]) (rest := []) mv_X11_refusesTook lk_X11_320 dX11_from_12 rfl rfl sh_1 (Nat.le_of_ble_eq_true rfl) (by decide) ⟨rfl, rfl⟩ (rX11_refusesTook hq2) <| At.istore (ls' := [(5, vi q2), (4, vr q1), (0, vr 1), (1, vi p1), (2, vi p2), (3, vi p3)]) dX11_from_15 (by decide) rfl <| At.iload dX11_from_17 rfl <| At.if_eq_f (tgt := 25) dX11_from_19 (by decide) c5 <| ?_
    refine At.iload dX11_from_22 rfl <| ?_
    obtain rfl := Option.some.inj h
    exact At.iret rfl (Nat.zero_le _) (Nat.zero_le _) ⟨rfl, rfl⟩ dX11_from_24
def fX11_bollardsTold_L17 (l1 : Nat) (l2 : Int) (l3 : Int) : Nat → Int → Int → SS → Option (Int × SS)
  | 0, _, _, _ => none
  | n + 1, l4, l5, S =>
    if 9 < l5 then (
      some (l4, S)
    ) else (
      lt (up S 15 3 l5) fun S1 =>
      Option.bind (fX6_cornerOf 7 l2 S1) fun q2 =>
      Option.bind (fX11_yearBehindRow l1 l2 q2 15 S1) fun q3 =>
      Option.bind (
        if q3.1 = l3 then (
          lt (jor l4 (jshl 1 l5)) fun x5 =>
          some x5
        ) else (
          some l4
        )
        : Option (Int)) fun q4 =>
      lt (w32 (l5 + 1)) fun x7 =>
      fX11_bollardsTold_L17 l1 l2 l3 n q4 x7 q3.2
    )
def fX11_bollardsTold (p1 : Nat) (p2 : Int) (p3 : Int) (S : SS) : Option (Int × SS) :=
  Option.bind (fX6_copyOf 15 7 S) fun q1 =>
  Option.bind (fX11_bollardsTold_L17 p1 p2 p3 FU 0 0 q1) fun q2 =>
  some (q2.1, q2.2)
set_option maxRecDepth 100000 in
set_option maxHeartbeats 4000000 in
theorem lX11_bollardsTold_L17 {G : GG} {Φ : Option VV → MM → Prop} {l1 : Nat} {l2 : Int} {l3 : Int} : ∀ (n : Nat) (l4 : Int) (l5 : Int) (S : SS) (q : Int × SS), fX11_bollardsTold_L17 l1 l2 l3 n l4 l5 S = some q → At G mX11_bollardsTold 6 70 [(4, vi q.1)] [] (mm q.2) 0 0 Φ → At G mX11_bollardsTold 6 17 [(0, vr 1), (1, vr l1), (2, vi l2), (3, vi l3), (4, vi l4), (5, vi l5)] [] (mm S) 0 0 Φ := by
  intro n
  induction n with
  | zero =>
    intro _ _ _ _ h
    cases h
  | succ n ih =>
    intro l4 l5 S q h K70
    unfold fX11_bollardsTold_L17 at h
    rcases ite_e h with ⟨c8, h⟩ | ⟨c8, h⟩
    · refine At.iload dX11_bollardsTold_17 rfl <| At.bipush dX11_bollardsTold_19 (by decide) <| At.icmp_gt_t (tgt := 70) dX11_bollardsTold_21 (by decide) c8 <| ?_
      obtain rfl := Option.some.inj h
      exact At.sub [4] rfl K70
    · refine At.iload dX11_bollardsTold_17 rfl <| At.bipush dX11_bollardsTold_19 (by decide) <| At.icmp_gt_f (tgt := 70) dX11_bollardsTold_21 (by decide) c8 <| ?_
      refine At.aloadn dX11_bollardsTold_24 rfl <| At.getR fl_X11_29 sh_1 (le149 sh_1) rf_1_3 dX11_bollardsTold_25 <| At.iload dX11_bollardsTold_28 rfl <| ?_
      obtain ⟨S1, hS1, h⟩ := lt_e h
      refine At.putI fw_X11_188 sh_15 (le149 sh_15) dX11_bollardsTold_30 <| At.nmS hS1 <| At.aloadn dX11_bollardsTold_33 rfl <| At.aloadn dX11_bollardsTold_34 rfl <| At.iloadn dX11_bollardsTold_35 rfl <| At.aloadn dX11_bollardsTold_36 rfl <| At.getR fl_X11_20 sh_1 (le149 sh_1) rf_1_1 dX11_bollardsTold_37 <| At.iloadn dX11_bollardsTold_40 rfl <| ?_
      obtain ⟨q2, hq2, h⟩ := bnd_e h
      refine At.cV1 (av := [vi l2]) (rest := [vi l2, vr l1, vr 1]) mv_X6_cornerOf lk_X11_151 dX11_bollardsTold_41 rfl rfl sh_7 (Nat.le_of_ble_eq_true rfl) (by decide) ⟨rfl, rfl⟩ (rX6_cornerOf sh_7 hq2) <| At.aloadn dX11_bollardsTold_44 rfl <| At.getR fl_X11_29 sh_1 (le149 sh_1) rf_1_3 dX11_bollardsTold_45 <| ?_
      obtain ⟨q3, hq3, h⟩ := bnd_e h
      obtain ⟨q4, hj64, h⟩ := bnd_e h
      have K64 : At G mX11_bollardsTold 6 64 [(0, vr 1), (1, vr l1), (2, vi l2), (3, vi l3), (4, vi q4), (5, vi l5)] [] (mm q3.2) 0 0 Φ := by
        obtain ⟨x7, hx7, h⟩ := lt_e h
        refine At.iinc (ls' := [(5, vi x7), (0, vr 1), (1, vr l1), (2, vi l2), (3, vi l3), (4, vi q4)]) dX11_bollardsTold_64 rfl (by decide) (by rw [hx7]; rfl) <| At.goto (tgt := 17) dX11_bollardsTold_67 (by decide) <| ?_
        exact At.sub [1, 2, 3, 4, 5, 0] rfl (ih _ _ _ _ h K70)
      clear h; have h := hj64; clear hj64
      rcases ite_e h with ⟨c6, h⟩ | ⟨c6, h⟩
      · refine At.cV1 (av := [vr l1, vi l2, vi q2, vr 15]) (rest := []) mv_X11_yearBehindRow lk_X11_327 dX11_bollardsTold_48 rfl rfl sh_1 (Nat.le_of_ble_eq_true rfl) (by decide) ⟨rfl, rfl⟩ (rX11_yearBehindRow sh_15 hq3) <| At.iloadn dX11_bollardsTold_51 rfl <| At.icmp_ne_f (tgt := 64) dX11_bollardsTold_52 (by decide) c6 <| ?_
        refine At.iload dX11_bollardsTold_55 rfl <| At.iconst dX11_bollardsTold_57 (by decide) <| At.iload dX11_bollardsTold_58 rfl <| At.ishl dX11_bollardsTold_60 <| At.ior dX11_bollardsTold_61 <| ?_
        obtain ⟨x5, hx5, h⟩ := lt_e h
        refine At.nm hx5 <| At.istore (ls' := [(4, vi x5), (0, vr 1), (1, vr l1), (2, vi l2), (3, vi l3), (5, vi l5)]) dX11_bollardsTold_62 (by decide) rfl <| ?_
        obtain rfl := Option.some.inj h
        exact At.sub [1, 2, 3, 4, 0, 5] rfl K64
      · refine At.cV1 (av := [vr l1, vi l2, vi q2, vr 15]) (rest := []) mv_X11_yearBehindRow lk_X11_327 dX11_bollardsTold_48 rfl rfl sh_1 (Nat.le_of_ble_eq_true rfl) (by decide) ⟨rfl, rfl⟩ (rX11_yearBehindRow sh_15 hq3) <| At.iloadn dX11_bollardsTold_51 rfl <| At.icmp_ne_t (tgt := 64) dX11_bollardsTold_52 (by decide) c6 <| ?_
        obtain rfl := Option.some.inj h
        exact At.sub [0, 1, 2, 3, 4, 5] rfl K64
set_option maxRecDepth 100000 in
set_option maxHeartbeats 4000000 in
theorem rX11_bollardsTold {G : GG} {p1 : Nat} {p2 : Int} {p3 : Int} {S : SS} {rr : (Int × SS)} (h : fX11_bollardsTold p1 p2 p3 S = some rr) : RD G mX11_bollardsTold 6 [vr 1, vr p1, vi p2, vi p3] S (some (vi rr.1)) rr.2 := by
  unfold fX11_bollardsTold at h
  refine Runs.of pl_X11 (Nat.le_of_ble_eq_true rfl) ?_
  show At G mX11_bollardsTold 6 0 [(0, vr 1), (1, vr p1), (2, vi p2), (3, vi p3)] [] (mm S) 0 0 (EQ (some (vi rr.1)) rr.2)
  refine At.aloadn dX11_bollardsTold_0 rfl <| At.getR fl_X11_29 sh_1 (le149 sh_1) rf_1_3 dX11_bollardsTold_1 <| At.aloadn dX11_bollardsTold_4 rfl <| At.getR fl_X11_20 sh_1 (le149 sh_1) rf_1_1 dX11_bollardsTold_5 <| ?_
  obtain ⟨q1, hq1, h⟩ := bnd_e h
  refine At.cV0 (av := [vr 7]) (rest := []) mv_X6_copyOf lk_X11_170 dX11_bollardsTold_8 rfl rfl sh_15 (Nat.le_of_ble_eq_true rfl) (by decide) ⟨rfl, rfl⟩ (rX6_copyOf sh_15 sh_7 hq1) <| At.iconst dX11_bollardsTold_11 (by decide) <| At.istore (ls' := [(4, vi 0), (0, vr 1), (1, vr p1), (2, vi p2), (3, vi p3)]) dX11_bollardsTold_12 (by decide) rfl <| At.iconst dX11_bollardsTold_14 (by decide) <| At.istore (ls' := [(5, vi 0), (4, vi 0), (0, vr 1), (1, vr p1), (2, vi p2), (3, vi p3)]) dX11_bollardsTold_15 (by decide) rfl <| ?_
  obtain ⟨q2, ho3, h⟩ := bnd_e h
  refine At.sub [2, 3, 4, 5, 1, 0] rfl (lX11_bollardsTold_L17 FU _ _ _ q2 ho3 ?_)
  refine At.iload dX11_bollardsTold_70 rfl <| ?_
  obtain rfl := Option.some.inj h
  exact At.iret rfl (Nat.zero_le _) (Nat.zero_le _) ⟨rfl, rfl⟩ dX11_bollardsTold_72
def fX11_bollardsBy (p1 : Int) (p2 : Int) (p3 : Int) (S : SS) : Option (Int × SS) :=
  Option.bind (fX11_trayAt p1 S) fun q1 =>
  Option.bind (fX11_refusesTook q1 p2 p3 S) fun q2 =>
  if q2 = 0 then (
    Option.bind (fX11_bollardsTold q1 p2 p3 S) fun q3 =>
    some (q3.1, q3.2)
  ) else (
    some (q2, S)
  )
set_option maxRecDepth 100000 in
set_option maxHeartbeats 4000000 in
theorem rX11_bollardsBy {G : GG} {p1 : Int} {p2 : Int} {p3 : Int} {S : SS} {rr : (Int × SS)} (h : fX11_bollardsBy p1 p2 p3 S = some rr) : RD G mX11_bollardsBy 7 [vr 1, vi p1, vi p2, vi p3] S (some (vi rr.1)) rr.2 := by
  unfold fX11_bollardsBy at h
  refine Runs.of pl_X11 (Nat.le_of_ble_eq_true rfl) ?_
  show At G mX11_bollardsBy 7 0 [(0, vr 1), (1, vi p1), (2, vi p2), (3, vi p3)] [] (mm S) 0 0 (EQ (some (vi rr.1)) rr.2)
  refine At.aloadn dX11_bollardsBy_0 rfl <| At.iloadn dX11_bollardsBy_1 rfl <| ?_
  obtain ⟨q1, hq1, h⟩ := bnd_e h
  refine At.cV1 (av := [vi p1]) (rest := []) mv_X11_trayAt lk_X11_204 dX11_bollardsBy_2 rfl rfl sh_1 (Nat.le_of_ble_eq_true rfl) (by decide) ⟨rfl, rfl⟩ (rX11_trayAt hq1) <| At.astore (ls' := [(4, vr q1), (0, vr 1), (1, vi p1), (2, vi p2), (3, vi p3)]) dX11_bollardsBy_5 (by decide) rfl <| At.aloadn dX11_bollardsBy_7 rfl <| At.aload dX11_bollardsBy_8 rfl <| At.iloadn dX11_bollardsBy_10 rfl <| At.iloadn dX11_bollardsBy_11 rfl <| ?_
  obtain ⟨q2, hq2, h⟩ := bnd_e h
  rcases ite_e h with ⟨c4, h⟩ | ⟨c4, h⟩
  · refine At.cV1 (av := [vr q1, vi p2, vi p3]) (rest := []) mv_X11_refusesTook lk_X11_320 dX11_bollardsBy_12 rfl rfl sh_1 (Nat.le_of_ble_eq_true rfl) (by decide) ⟨rfl, rfl⟩ (rX11_refusesTook hq2) <| At.istore (ls' := [(5, vi q2), (4, vr q1), (0, vr 1), (1, vi p1), (2, vi p2), (3, vi p3)]) dX11_bollardsBy_15 (by decide) rfl <| At.iload dX11_bollardsBy_17 rfl <| At.if_eq_t (tgt := 25) dX11_bollardsBy_19 (by decide) c4 <| ?_
    refine At.aloadn dX11_bollardsBy_25 rfl <| At.aload dX11_bollardsBy_26 rfl <| At.iloadn dX11_bollardsBy_28 rfl <| At.iloadn dX11_bollardsBy_29 rfl <| ?_
    obtain ⟨q3, hq3, h⟩ := bnd_e h
    refine At.cV1 (av := [vr q1, vi p2, vi p3]) (rest := []) mv_X11_bollardsTold lk_X11_331 dX11_bollardsBy_30 rfl rfl sh_1 (Nat.le_of_ble_eq_true rfl) (by decide) ⟨rfl, rfl⟩ (rX11_bollardsTold hq3) <| ?_
    obtain rfl := Option.some.inj h
    exact At.iret rfl (Nat.zero_le _) (Nat.zero_le _) ⟨rfl, rfl⟩ dX11_bollardsBy_33
  · refine At.cV1 (av := [vr q1, vi p2, vi p3]) (rest := []) mv_X11_refusesTook lk_X11_320 dX11_bollardsBy_12 rfl rfl sh_1 (Nat.le_of_ble_eq_true rfl) (by decide) ⟨rfl, rfl⟩ (rX11_refusesTook hq2) <| At.istore (ls' := [(5, vi q2), (4, vr q1), (0, vr 1), (1, vi p1), (2, vi p2), (3, vi p3)]) dX11_bollardsBy_15 (by decide) rfl <| At.iload dX11_bollardsBy_17 rfl <| At.if_eq_f (tgt := 25) dX11_bollardsBy_19 (by decide) c4 <| ?_
    refine At.iload dX11_bollardsBy_22 rfl <| ?_
    obtain rfl := Option.some.inj h
    exact At.iret rfl (Nat.zero_le _) (Nat.zero_le _) ⟨rfl, rfl⟩ dX11_bollardsBy_24
def fJ7_fill_53178_20_L5 (l0 : Nat) (l1 : Int) (l3 : Int) : Nat → Int → SS → Option (SS)
  | 0, _, _ => none
  | n + 1, l2, S =>
    if l3 ≤ l2 then (
      some S
    ) else (
      wrA S l0 20 l2 l1 fun S1 =>
      lt (w32 (l2 + 1)) fun x3 =>
      fJ7_fill_53178_20_L5 l0 l1 l3 n x3 S1
    )
def fJ7_fill_53178_20 (p0 : Nat) (p1 : Int) (S : SS) : Option SS :=
  Option.bind (fJ7_fill_53178_20_L5 p0 p1 20 FU 0 S) fun q1 =>
  some q1
set_option maxRecDepth 100000 in
set_option maxHeartbeats 4000000 in
theorem lJ7_fill_53178_20_L5 {G : GG} {Φ : Option VV → MM → Prop} {l0 : Nat} {l1 : Int} {l3 : Int} (hl0 : sh l0 = (20, 20)) : ∀ (n : Nat) (l2 : Int) (S : SS) (q : SS), fJ7_fill_53178_20_L5 l0 l1 l3 n l2 S = some q → At G mJ7_fill_53178 1 20 [] [] (mm q) 0 0 Φ → At G mJ7_fill_53178 1 5 [(0, vr l0), (1, vi l1), (2, vi l2), (3, vi l3)] [] (mm S) 0 0 Φ := by
  intro n
  induction n with
  | zero =>
    intro _ _ _ h
    cases h
  | succ n ih =>
    intro l2 S q h K20
    unfold fJ7_fill_53178_20_L5 at h
    rcases ite_e h with ⟨c4, h⟩ | ⟨c4, h⟩
    · refine At.iloadn dJ7_fill_53178_5 rfl <| At.iloadn dJ7_fill_53178_6 rfl <| At.icmp_ge_t (tgt := 20) dJ7_fill_53178_7 (by decide) c4 <| ?_
      obtain rfl := Option.some.inj h
      exact At.sub [] rfl K20
    · refine At.iloadn dJ7_fill_53178_5 rfl <| At.iloadn dJ7_fill_53178_6 rfl <| At.icmp_ge_f (tgt := 20) dJ7_fill_53178_7 (by decide) c4 <| ?_
      refine At.aloadn dJ7_fill_53178_10 rfl <| At.iloadn dJ7_fill_53178_11 rfl <| At.iloadn dJ7_fill_53178_12 rfl <| ?_
      obtain ⟨S1, hS1, g2, h⟩ := wrA_e h
      refine At.iast hl0 (le149 hl0) g2.1 g2.2 dJ7_fill_53178_13 <| At.nmS hS1 <| ?_
      obtain ⟨x3, hx3, h⟩ := lt_e h
      refine At.iinc (ls' := [(2, vi x3), (0, vr l0), (1, vi l1), (3, vi l3)]) dJ7_fill_53178_14 rfl (by decide) (by rw [hx3]; rfl) <| At.goto (tgt := 5) dJ7_fill_53178_17 (by decide) <| ?_
      exact At.sub [1, 2, 0, 3] rfl (ih _ _ _ h K20)
set_option maxRecDepth 100000 in
set_option maxHeartbeats 4000000 in
theorem rJ7_fill_53178_20 {G : GG} {p0 : Nat} {p1 : Int} {S : SS} {rr : SS} (hp0 : sh p0 = (20, 20)) (h : fJ7_fill_53178_20 p0 p1 S = some rr) : RD G mJ7_fill_53178 1 [vr p0, vi p1] S none rr := by
  unfold fJ7_fill_53178_20 at h
  refine Runs.of pl_J7 (Nat.le_of_ble_eq_true rfl) ?_
  show At G mJ7_fill_53178 1 0 [(0, vr p0), (1, vi p1)] [] (mm S) 0 0 (EQ none rr)
  refine At.iconst dJ7_fill_53178_0 (by decide) <| At.istoren (ls' := [(2, vi 0), (0, vr p0), (1, vi p1)]) dJ7_fill_53178_1 (by decide) rfl <| At.aloadn dJ7_fill_53178_2 rfl <| At.alenI hp0 (le149 hp0) (by decide) (z := 20) rfl dJ7_fill_53178_3 <| At.istoren (ls' := [(3, vi 20), (2, vi 0), (0, vr p0), (1, vi p1)]) dJ7_fill_53178_4 (by decide) rfl <| ?_
  obtain ⟨q1, ho2, h⟩ := bnd_e h
  refine At.sub [2, 3, 1, 0] rfl (lJ7_fill_53178_20_L5 hp0 FU _ _ q1 ho2 ?_)
  obtain rfl := Option.some.inj h
  exact At.vret rfl (Nat.zero_le _) (Nat.zero_le _) ⟨rfl, rfl⟩ dJ7_fill_53178_20
def fX11_mostAlike_L25 (l1 : Int) (l2 : Int) (l3 : Int) : Nat → Int → Int → SS → Option (Int × SS)
  | 0, _, _, _ => none
  | n + 1, l4, l5, S =>
    if 9 < l5 then (
      some (l4, S)
    ) else (
      Option.bind (
        if (jand (jshr l3 l5) 1) = 0 then (
          some (l4, S)
        ) else (
          lt (up S 15 3 l5) fun S2 =>
          Option.bind (fX6_spotOf 7 l1 S2) fun q3 =>
          Option.bind (fX5_after l1 l2 q3 15 S2) fun q4 =>
          Option.bind (
            if 0 ≤ q4.1 then (
              some (Int.tmod q4.1 20)
            ) else (
              Option.bind (fX6_yearOf 7 l1 q4.2) fun q6 =>
              some q6
            )
            : Option (Int)) fun q5 =>
          Option.bind (fX11_isYear q5) fun q8 =>
          if q8 = true then (
            rdA q4.2 103 20 q5 fun v9 =>
            wrA q4.2 103 20 q5 (w32 (v9 + 1)) fun S11 =>
            rdA S11 103 20 q5 fun v13 =>
            lt (if l4 < v13 then v13 else l4) fun x15 =>
            some (x15, S11)
          ) else (
            some (l4, q4.2)
          )
        )
        : Option (Int × SS)) fun q1 =>
      lt (w32 (l5 + 1)) fun x18 =>
      fX11_mostAlike_L25 l1 l2 l3 n q1.1 x18 q1.2
    )
def fX11_mostAlike (p1 : Int) (p2 : Int) (p3 : Int) (S : SS) : Option (Int × SS) :=
  Option.bind (fX6_copyOf 15 7 S) fun q1 =>
  Option.bind (fJ7_fill_53178_20 103 0 q1) fun q2 =>
  Option.bind (fX11_mostAlike_L25 p1 p2 p3 FU 0 0 q2) fun q3 =>
  some (q3.1, q3.2)
set_option maxRecDepth 100000 in
set_option maxHeartbeats 4000000 in
theorem lX11_mostAlike_L25 {G : GG} {Φ : Option VV → MM → Prop} {l1 : Int} {l2 : Int} {l3 : Int} : ∀ (n : Nat) (l4 : Int) (l5 : Int) (S : SS) (q : Int × SS), fX11_mostAlike_L25 l1 l2 l3 n l4 l5 S = some q → At G mX11_mostAlike 5 138 [(4, vi q.1)] [] (mm q.2) 0 0 Φ → At G mX11_mostAlike 5 25 [(0, vr 1), (1, vi l1), (2, vi l2), (3, vi l3), (4, vi l4), (5, vi l5)] [] (mm S) 0 0 Φ := by
  intro n
  induction n with
  | zero =>
    intro _ _ _ _ h
    cases h
  | succ n ih =>
    intro l4 l5 S q h K138
    unfold fX11_mostAlike_L25 at h
    rcases ite_e h with ⟨c19, h⟩ | ⟨c19, h⟩
    · refine At.iload dX11_mostAlike_25 rfl <| At.bipush dX11_mostAlike_27 (by decide) <| At.icmp_gt_t (tgt := 138) dX11_mostAlike_29 (by decide) c19 <| ?_
      obtain rfl := Option.some.inj h
      exact At.sub [4] rfl K138
    · refine At.iload dX11_mostAlike_25 rfl <| At.bipush dX11_mostAlike_27 (by decide) <| At.icmp_gt_f (tgt := 138) dX11_mostAlike_29 (by decide) c19 <| ?_
      obtain ⟨q1, hj132, h⟩ := bnd_e h
      have K132 : At G mX11_mostAlike 5 132 [(0, vr 1), (1, vi l1), (2, vi l2), (3, vi l3), (4, vi q1.1), (5, vi l5)] [] (mm q1.2) 0 0 Φ := by
        obtain ⟨x18, hx18, h⟩ := lt_e h
        refine At.iinc (ls' := [(5, vi x18), (0, vr 1), (1, vi l1), (2, vi l2), (3, vi l3), (4, vi q1.1)]) dX11_mostAlike_132 rfl (by decide) (by rw [hx18]; rfl) <| At.goto (tgt := 25) dX11_mostAlike_135 (by decide) <| ?_
        exact At.sub [1, 2, 3, 4, 5, 0] rfl (ih _ _ _ _ h K138)
      clear h; have h := hj132; clear hj132
      rcases ite_e h with ⟨c17, h⟩ | ⟨c17, h⟩
      · refine At.iloadn dX11_mostAlike_32 rfl <| At.iload dX11_mostAlike_33 rfl <| At.ishr dX11_mostAlike_35 <| At.iconst dX11_mostAlike_36 (by decide) <| At.iand dX11_mostAlike_37 <| At.if_ne_f (tgt := 44) dX11_mostAlike_38 (by decide) c17 <| ?_
        refine At.goto (tgt := 132) dX11_mostAlike_41 (by decide) <| ?_
        obtain rfl := Option.some.inj h
        exact At.sub [0, 1, 2, 3, 4, 5] rfl K132
      · refine At.iloadn dX11_mostAlike_32 rfl <| At.iload dX11_mostAlike_33 rfl <| At.ishr dX11_mostAlike_35 <| At.iconst dX11_mostAlike_36 (by decide) <| At.iand dX11_mostAlike_37 <| At.if_ne_t (tgt := 44) dX11_mostAlike_38 (by decide) c17 <| ?_
        refine At.aloadn dX11_mostAlike_44 rfl <| At.getR fl_X11_29 sh_1 (le149 sh_1) rf_1_3 dX11_mostAlike_45 <| At.iload dX11_mostAlike_48 rfl <| ?_
        obtain ⟨S2, hS2, h⟩ := lt_e h
        refine At.putI fw_X11_188 sh_15 (le149 sh_15) dX11_mostAlike_50 <| At.nmS hS2 <| At.aloadn dX11_mostAlike_53 rfl <| At.getR fl_X11_44 sh_1 (le149 sh_1) rf_1_5 dX11_mostAlike_54 <| At.iloadn dX11_mostAlike_57 rfl <| At.iloadn dX11_mostAlike_58 rfl <| At.aloadn dX11_mostAlike_59 rfl <| At.getR fl_X11_20 sh_1 (le149 sh_1) rf_1_1 dX11_mostAlike_60 <| At.iloadn dX11_mostAlike_63 rfl <| ?_
        obtain ⟨q3, hq3, h⟩ := bnd_e h
        refine At.cV1 (av := [vi l1]) (rest := [vi l2, vi l1, vr 30]) mv_X6_spotOf lk_X11_163 dX11_mostAlike_64 rfl rfl sh_7 (Nat.le_of_ble_eq_true rfl) (by decide) ⟨rfl, rfl⟩ (rX6_spotOf sh_7 hq3) <| At.aloadn dX11_mostAlike_67 rfl <| At.getR fl_X11_29 sh_1 (le149 sh_1) rf_1_3 dX11_mostAlike_68 <| ?_
        obtain ⟨q4, hq4, h⟩ := bnd_e h
        obtain ⟨q5, hj97, h⟩ := bnd_e h
        have K97 : At G mX11_mostAlike 5 97 [(0, vr 1), (1, vi l1), (2, vi l2), (3, vi l3), (4, vi l4), (5, vi l5)] [vi q5] (mm q4.2) 0 0 Φ := by
          refine At.istore (ls' := [(7, vi q5), (0, vr 1), (1, vi l1), (2, vi l2), (3, vi l3), (4, vi l4), (5, vi l5)]) dX11_mostAlike_97 (by decide) rfl <| At.iload dX11_mostAlike_99 rfl <| ?_
          obtain ⟨q8, hq8, h⟩ := bnd_e h
          rcases ite_e h with ⟨c16, h⟩ | ⟨c16, h⟩
          · refine At.cS1 (av := [vi q5]) (rest := []) ms_X11_isYear lk_X11_344 dX11_mostAlike_101 rfl rfl (Nat.le_of_ble_eq_true rfl) (by decide) ⟨rfl, rfl⟩ (rX11_isYear hq8) <| At.bifeq_f (tgt := 132) dX11_mostAlike_104 (by decide) c16 <| ?_
            refine At.aloadn dX11_mostAlike_107 rfl <| At.getR fl_X11_100 sh_1 (le149 sh_1) rf_1_14 dX11_mostAlike_108 <| At.iload dX11_mostAlike_111 rfl <| At.dup2 rfl rfl dX11_mostAlike_113 <| ?_
            obtain ⟨v9, hv9, g10, h⟩ := rdA_e h
            refine At.iald sh_103 (le149 sh_103) g10.1 g10.2 dX11_mostAlike_114 <| At.nm hv9 <| At.iconst dX11_mostAlike_115 (by decide) <| At.iadd dX11_mostAlike_116 <| ?_
            obtain ⟨S11, hS11, g12, h⟩ := wrA_e h
            refine At.iast sh_103 (le149 sh_103) g12.1 g12.2 dX11_mostAlike_117 <| At.nmS hS11 <| At.iload dX11_mostAlike_118 rfl <| At.aloadn dX11_mostAlike_120 rfl <| At.getR fl_X11_100 sh_1 (le149 sh_1) rf_1_14 dX11_mostAlike_121 <| At.iload dX11_mostAlike_124 rfl <| ?_
            obtain ⟨v13, hv13, g14, h⟩ := rdA_e h
            refine At.iald sh_103 (le149 sh_103) g14.1 g14.2 dX11_mostAlike_126 <| At.nm hv13 <| ?_
            obtain ⟨x15, hx15, h⟩ := lt_e h
            refine At.mmax ln_X11_271 (Nat.le_of_ble_eq_true rfl) (by decide) dX11_mostAlike_127 <| At.nm hx15 <| At.istore (ls' := [(4, vi x15), (7, vi q5), (0, vr 1), (1, vi l1), (2, vi l2), (3, vi l3), (5, vi l5)]) dX11_mostAlike_130 (by decide) rfl <| ?_
            obtain rfl := Option.some.inj h
            exact At.sub [2, 3, 4, 5, 0, 6] rfl K132
          · refine At.cS1 (av := [vi q5]) (rest := []) ms_X11_isYear lk_X11_344 dX11_mostAlike_101 rfl rfl (Nat.le_of_ble_eq_true rfl) (by decide) ⟨rfl, rfl⟩ (rX11_isYear hq8) <| At.bifeq_t (tgt := 132) dX11_mostAlike_104 (by decide) c16 <| ?_
            obtain rfl := Option.some.inj h
            exact At.sub [1, 2, 3, 4, 5, 6] rfl K132
        clear h; have h := hj97; clear hj97
        rcases ite_e h with ⟨c7, h⟩ | ⟨c7, h⟩
        · refine At.cV1 (av := [vi l1, vi l2, vi q3, vr 15]) (rest := []) mv_X5_after lk_X11_166 dX11_mostAlike_71 rfl rfl sh_30 (Nat.le_of_ble_eq_true rfl) (by decide) ⟨rfl, rfl⟩ (rX5_after sh_15 hq4) <| At.istore (ls' := [(6, vi q4.1), (0, vr 1), (1, vi l1), (2, vi l2), (3, vi l3), (4, vi l4), (5, vi l5)]) dX11_mostAlike_74 (by decide) rfl <| At.iload dX11_mostAlike_76 rfl <| At.if_ge_t (tgt := 92) dX11_mostAlike_78 (by decide) c7 <| ?_
          refine At.iload dX11_mostAlike_92 rfl <| At.bipush dX11_mostAlike_94 (by decide) <| At.irem dX11_mostAlike_96 (by decide) <| ?_
          obtain rfl := Option.some.inj h
          exact At.sub [1, 2, 3, 4, 5, 6] rfl K97
        · refine At.cV1 (av := [vi l1, vi l2, vi q3, vr 15]) (rest := []) mv_X5_after lk_X11_166 dX11_mostAlike_71 rfl rfl sh_30 (Nat.le_of_ble_eq_true rfl) (by decide) ⟨rfl, rfl⟩ (rX5_after sh_15 hq4) <| At.istore (ls' := [(6, vi q4.1), (0, vr 1), (1, vi l1), (2, vi l2), (3, vi l3), (4, vi l4), (5, vi l5)]) dX11_mostAlike_74 (by decide) rfl <| At.iload dX11_mostAlike_76 rfl <| At.if_ge_f (tgt := 92) dX11_mostAlike_78 (by decide) c7 <| ?_
          refine At.aloadn dX11_mostAlike_81 rfl <| At.getR fl_X11_20 sh_1 (le149 sh_1) rf_1_1 dX11_mostAlike_82 <| At.iloadn dX11_mostAlike_85 rfl <| ?_
          obtain ⟨q6, hq6, h⟩ := bnd_e h
          refine At.cV1 (av := [vi l1]) (rest := []) mv_X6_yearOf lk_X11_154 dX11_mostAlike_86 rfl rfl sh_7 (Nat.le_of_ble_eq_true rfl) (by decide) ⟨rfl, rfl⟩ (rX6_yearOf sh_7 hq6) <| At.goto (tgt := 97) dX11_mostAlike_89 (by decide) <| ?_
          obtain rfl := Option.some.inj h
          exact At.sub [1, 2, 3, 4, 5, 6] rfl K97
set_option maxRecDepth 100000 in
set_option maxHeartbeats 4000000 in
theorem rX11_mostAlike {G : GG} {p1 : Int} {p2 : Int} {p3 : Int} {S : SS} {rr : (Int × SS)} (h : fX11_mostAlike p1 p2 p3 S = some rr) : RD G mX11_mostAlike 5 [vr 1, vi p1, vi p2, vi p3] S (some (vi rr.1)) rr.2 := by
  unfold fX11_mostAlike at h
  refine Runs.of pl_X11 (Nat.le_of_ble_eq_true rfl) ?_
  show At G mX11_mostAlike 5 0 [(0, vr 1), (1, vi p1), (2, vi p2), (3, vi p3)] [] (mm S) 0 0 (EQ (some (vi rr.1)) rr.2)
  refine At.aloadn dX11_mostAlike_0 rfl <| At.getR fl_X11_29 sh_1 (le149 sh_1) rf_1_3 dX11_mostAlike_1 <| At.aloadn dX11_mostAlike_4 rfl <| At.getR fl_X11_20 sh_1 (le149 sh_1) rf_1_1 dX11_mostAlike_5 <| ?_
  obtain ⟨q1, hq1, h⟩ := bnd_e h
  refine At.cV0 (av := [vr 7]) (rest := []) mv_X6_copyOf lk_X11_170 dX11_mostAlike_8 rfl rfl sh_15 (Nat.le_of_ble_eq_true rfl) (by decide) ⟨rfl, rfl⟩ (rX6_copyOf sh_15 sh_7 hq1) <| At.aloadn dX11_mostAlike_11 rfl <| At.getR fl_X11_100 sh_1 (le149 sh_1) rf_1_14 dX11_mostAlike_12 <| At.iconst dX11_mostAlike_15 (by decide) <| ?_
  obtain ⟨q2, hq2, h⟩ := bnd_e h
  refine At.cS0 (av := [vr 103, vi 0]) (rest := []) ms_J7_fill_53178 lk_X11_347 dX11_mostAlike_16 rfl rfl (Nat.le_of_ble_eq_true rfl) (by decide) ⟨rfl, rfl⟩ (rJ7_fill_53178_20 sh_103 hq2) <| At.iconst dX11_mostAlike_19 (by decide) <| At.istore (ls' := [(4, vi 0), (0, vr 1), (1, vi p1), (2, vi p2), (3, vi p3)]) dX11_mostAlike_20 (by decide) rfl <| At.iconst dX11_mostAlike_22 (by decide) <| At.istore (ls' := [(5, vi 0), (4, vi 0), (0, vr 1), (1, vi p1), (2, vi p2), (3, vi p3)]) dX11_mostAlike_23 (by decide) rfl <| ?_
  obtain ⟨q3, ho4, h⟩ := bnd_e h
  refine At.sub [2, 3, 4, 5, 1, 0] rfl (lX11_mostAlike_L25 FU _ _ _ q3 ho4 ?_)
  refine At.iload dX11_mostAlike_138 rfl <| ?_
  obtain rfl := Option.some.inj h
  exact At.iret rfl (Nat.zero_le _) (Nat.zero_le _) ⟨rfl, rfl⟩ dX11_mostAlike_140
def fX11_attempt_L52 (l2 : Int) (l6 : Int) : Nat → Int → Int → Int → SS → Option (Int × SS)
  | 0, _, _, _, _ => none
  | n + 1, l7, l8, l9, S =>
    if (S 2 6) ≤ l9 then (
      some (l7, S)
    ) else (
      Option.bind (fX11_mostAlike l2 l9 l6 S) fun q1 =>
      Option.bind (
        if l8 ≤ q1.1 then (
          some (l7, l8)
        ) else (
          some (l9, q1.1)
        )
        : Option (Int × Int)) fun q2 =>
      lt (w32 (l9 + 1)) fun x4 =>
      fX11_attempt_L52 l2 l6 n q2.1 q2.2 x4 q1.2
    )
def fX11_attempt (p1 : Int) (p2 : Int) (p3 : Int) (S : SS) : Option (Int × SS) :=
  Option.bind (fX11_trayAt p1 S) fun q1 =>
  Option.bind (fX11_refusesTook q1 p2 p3 S) fun q2 =>
  if q2 = 0 then (
    Option.bind (fX11_bollardsTold q1 p2 p3 S) fun q3 =>
    if q3.1 = 0 then (
      some ((-1), q3.2)
    ) else (
      lt ((-1)) fun x4 =>
      Option.bind (fX11_attempt_L52 p2 q3.1 FU x4 11 0 q3.2) fun q5 =>
      some (q5.1, q5.2)
    )
  ) else (
    some (q2, S)
  )
set_option maxRecDepth 100000 in
set_option maxHeartbeats 4000000 in
theorem lX11_attempt_L52 {G : GG} {Φ : Option VV → MM → Prop} {l2 : Int} {l6 : Int} : ∀ (n : Nat) (l7 : Int) (l8 : Int) (l9 : Int) (S : SS) (q : Int × SS), fX11_attempt_L52 l2 l6 n l7 l8 l9 S = some q → At G mX11_attempt 7 96 [(7, vi q.1)] [] (mm q.2) 0 0 Φ → At G mX11_attempt 7 52 [(0, vr 1), (2, vi l2), (6, vi l6), (7, vi l7), (8, vi l8), (9, vi l9)] [] (mm S) 0 0 Φ := by
  intro n
  induction n with
  | zero =>
    intro _ _ _ _ _ h
    cases h
  | succ n ih =>
    intro l7 l8 l9 S q h K96
    unfold fX11_attempt_L52 at h
    rcases ite_e h with ⟨c5, h⟩ | ⟨c5, h⟩
    · refine At.iload dX11_attempt_52 rfl <| At.aloadn dX11_attempt_54 rfl <| At.getR fl_X11_12 sh_1 (le149 sh_1) rf_1_0 dX11_attempt_55 <| At.getI fl_X11_160 sh_2 (le149 sh_2) dX11_attempt_58 <| At.icmp_ge_t (tgt := 96) dX11_attempt_61 (by decide) c5 <| ?_
      obtain rfl := Option.some.inj h
      exact At.sub [3] rfl K96
    · refine At.iload dX11_attempt_52 rfl <| At.aloadn dX11_attempt_54 rfl <| At.getR fl_X11_12 sh_1 (le149 sh_1) rf_1_0 dX11_attempt_55 <| At.getI fl_X11_160 sh_2 (le149 sh_2) dX11_attempt_58 <| At.icmp_ge_f (tgt := 96) dX11_attempt_61 (by decide) c5 <| ?_
      refine At.aloadn dX11_attempt_64 rfl <| At.iloadn dX11_attempt_65 rfl <| At.iload dX11_attempt_66 rfl <| At.iload dX11_attempt_68 rfl <| ?_
      obtain ⟨q1, hq1, h⟩ := bnd_e h
      obtain ⟨q2, hj90, h⟩ := bnd_e h
      have K90 : At G mX11_attempt 7 90 [(0, vr 1), (2, vi l2), (6, vi l6), (7, vi q2.1), (8, vi q2.2), (9, vi l9)] [] (mm q1.2) 0 0 Φ := by
        obtain ⟨x4, hx4, h⟩ := lt_e h
        refine At.iinc (ls' := [(9, vi x4), (0, vr 1), (2, vi l2), (6, vi l6), (7, vi q2.1), (8, vi q2.2)]) dX11_attempt_90 rfl (by decide) (by rw [hx4]; rfl) <| At.goto (tgt := 52) dX11_attempt_93 (by decide) <| ?_
        exact At.sub [1, 2, 3, 4, 5, 0] rfl (ih _ _ _ _ _ h K96)
      clear h; have h := hj90; clear hj90
      rcases ite_e h with ⟨c3, h⟩ | ⟨c3, h⟩
      · refine At.cV1 (av := [vi l2, vi l9, vi l6]) (rest := []) mv_X11_mostAlike lk_X11_334 dX11_attempt_70 rfl rfl sh_1 (Nat.le_of_ble_eq_true rfl) (by decide) ⟨rfl, rfl⟩ (rX11_mostAlike hq1) <| At.istore (ls' := [(10, vi q1.1), (0, vr 1), (2, vi l2), (6, vi l6), (7, vi l7), (8, vi l8), (9, vi l9)]) dX11_attempt_73 (by decide) rfl <| At.iload dX11_attempt_75 rfl <| At.iload dX11_attempt_77 rfl <| At.icmp_ge_t (tgt := 90) dX11_attempt_79 (by decide) c3 <| ?_
        obtain rfl := Option.some.inj h
        exact At.sub [1, 2, 3, 4, 5, 6] rfl K90
      · refine At.cV1 (av := [vi l2, vi l9, vi l6]) (rest := []) mv_X11_mostAlike lk_X11_334 dX11_attempt_70 rfl rfl sh_1 (Nat.le_of_ble_eq_true rfl) (by decide) ⟨rfl, rfl⟩ (rX11_mostAlike hq1) <| At.istore (ls' := [(10, vi q1.1), (0, vr 1), (2, vi l2), (6, vi l6), (7, vi l7), (8, vi l8), (9, vi l9)]) dX11_attempt_73 (by decide) rfl <| At.iload dX11_attempt_75 rfl <| At.iload dX11_attempt_77 rfl <| At.icmp_ge_f (tgt := 90) dX11_attempt_79 (by decide) c3 <| ?_
        refine At.iload dX11_attempt_82 rfl <| At.istore (ls' := [(7, vi l9), (10, vi q1.1), (0, vr 1), (2, vi l2), (6, vi l6), (8, vi l8), (9, vi l9)]) dX11_attempt_84 (by decide) rfl <| At.iload dX11_attempt_86 rfl <| At.istore (ls' := [(8, vi q1.1), (7, vi l9), (10, vi q1.1), (0, vr 1), (2, vi l2), (6, vi l6), (9, vi l9)]) dX11_attempt_88 (by decide) rfl <| ?_
        obtain rfl := Option.some.inj h
        exact At.sub [3, 4, 5, 1, 0, 6] rfl K90
set_option maxRecDepth 100000 in
set_option maxHeartbeats 4000000 in
theorem rX11_attempt {G : GG} {p1 : Int} {p2 : Int} {p3 : Int} {S : SS} {rr : (Int × SS)} (h : fX11_attempt p1 p2 p3 S = some rr) : RD G mX11_attempt 7 [vr 1, vi p1, vi p2, vi p3] S (some (vi rr.1)) rr.2 := by
  unfold fX11_attempt at h
  refine Runs.of pl_X11 (Nat.le_of_ble_eq_true rfl) ?_
  show At G mX11_attempt 7 0 [(0, vr 1), (1, vi p1), (2, vi p2), (3, vi p3)] [] (mm S) 0 0 (EQ (some (vi rr.1)) rr.2)
  refine At.aloadn dX11_attempt_0 rfl <| At.iloadn dX11_attempt_1 rfl <| ?_
  obtain ⟨q1, hq1, h⟩ := bnd_e h
  refine At.cV1 (av := [vi p1]) (rest := []) mv_X11_trayAt lk_X11_204 dX11_attempt_2 rfl rfl sh_1 (Nat.le_of_ble_eq_true rfl) (by decide) ⟨rfl, rfl⟩ (rX11_trayAt hq1) <| At.astore (ls' := [(4, vr q1), (0, vr 1), (1, vi p1), (2, vi p2), (3, vi p3)]) dX11_attempt_5 (by decide) rfl <| At.aloadn dX11_attempt_7 rfl <| At.aload dX11_attempt_8 rfl <| At.iloadn dX11_attempt_10 rfl <| At.iloadn dX11_attempt_11 rfl <| ?_
  obtain ⟨q2, hq2, h⟩ := bnd_e h
  rcases ite_e h with ⟨c8, h⟩ | ⟨c8, h⟩
  · refine At.cV1 (av := [vr q1, vi p2, vi p3]) (rest := []) mv_X11_refusesTook lk_X11_320 dX11_attempt_12 rfl rfl sh_1 (Nat.le_of_ble_eq_true rfl) (by decide) ⟨rfl, rfl⟩ (rX11_refusesTook hq2) <| At.istore (ls' := [(5, vi q2), (4, vr q1), (0, vr 1), (1, vi p1), (2, vi p2), (3, vi p3)]) dX11_attempt_15 (by decide) rfl <| At.iload dX11_attempt_17 rfl <| At.if_eq_t (tgt := 25) dX11_attempt_19 (by decide) c8 <| ?_
    refine At.aloadn dX11_attempt_25 rfl <| At.aload dX11_attempt_26 rfl <| At.iloadn dX11_attempt_28 rfl <| At.iloadn dX11_attempt_29 rfl <| ?_
    obtain ⟨q3, hq3, h⟩ := bnd_e h
    rcases ite_e h with ⟨c7, h⟩ | ⟨c7, h⟩
    · refine At.cV1 (av := [vr q1, vi p2, vi p3]) (rest := []) mv_X11_bollardsTold lk_X11_331 dX11_attempt_30 rfl rfl sh_1 (Nat.le_of_ble_eq_true rfl) (by decide) ⟨rfl, rfl⟩ (rX11_bollardsTold hq3) <| At.istore (ls' := [(6, vi q3.1), (5, vi q2), (4, vr q1), (0, vr 1), (1, vi p1), (2, vi p2), (3, vi p3)]) dX11_attempt_33 (by decide) rfl <| At.iload dX11_attempt_35 rfl <| At.if_ne_f (tgt := 42) dX11_attempt_37 (by decide) c7 <| ?_
      refine At.iconst dX11_attempt_40 (by decide) <| ?_
      obtain rfl := Option.some.inj h
      exact At.iret rfl (Nat.zero_le _) (Nat.zero_le _) ⟨rfl, rfl⟩ dX11_attempt_41
    · refine At.cV1 (av := [vr q1, vi p2, vi p3]) (rest := []) mv_X11_bollardsTold lk_X11_331 dX11_attempt_30 rfl rfl sh_1 (Nat.le_of_ble_eq_true rfl) (by decide) ⟨rfl, rfl⟩ (rX11_bollardsTold hq3) <| At.istore (ls' := [(6, vi q3.1), (5, vi q2), (4, vr q1), (0, vr 1), (1, vi p1), (2, vi p2), (3, vi p3)]) dX11_attempt_33 (by decide) rfl <| At.iload dX11_attempt_35 rfl <| At.if_ne_t (tgt := 42) dX11_attempt_37 (by decide) c7 <| ?_
      refine At.iconst dX11_attempt_42 (by decide) <| ?_
      obtain ⟨x4, hx4, h⟩ := lt_e h
      refine At.nm hx4 <| At.istore (ls' := [(7, vi x4), (6, vi q3.1), (5, vi q2), (4, vr q1), (0, vr 1), (1, vi p1), (2, vi p2), (3, vi p3)]) dX11_attempt_43 (by decide) rfl <| At.bipush dX11_attempt_45 (by decide) <| At.istore (ls' := [(8, vi 11), (7, vi x4), (6, vi q3.1), (5, vi q2), (4, vr q1), (0, vr 1), (1, vi p1), (2, vi p2), (3, vi p3)]) dX11_attempt_47 (by decide) rfl <| At.iconst dX11_attempt_49 (by decide) <| At.istore (ls' := [(9, vi 0), (8, vi 11), (7, vi x4), (6, vi q3.1), (5, vi q2), (4, vr q1), (0, vr 1), (1, vi p1), (2, vi p2), (3, vi p3)]) dX11_attempt_50 (by decide) rfl <| ?_
      obtain ⟨q5, ho6, h⟩ := bnd_e h
      refine At.sub [6, 8, 3, 2, 1, 0] rfl (lX11_attempt_L52 FU _ _ _ _ q5 ho6 ?_)
      refine At.iload dX11_attempt_96 rfl <| ?_
      obtain rfl := Option.some.inj h
      exact At.iret rfl (Nat.zero_le _) (Nat.zero_le _) ⟨rfl, rfl⟩ dX11_attempt_98
  · refine At.cV1 (av := [vr q1, vi p2, vi p3]) (rest := []) mv_X11_refusesTook lk_X11_320 dX11_attempt_12 rfl rfl sh_1 (Nat.le_of_ble_eq_true rfl) (by decide) ⟨rfl, rfl⟩ (rX11_refusesTook hq2) <| At.istore (ls' := [(5, vi q2), (4, vr q1), (0, vr 1), (1, vi p1), (2, vi p2), (3, vi p3)]) dX11_attempt_15 (by decide) rfl <| At.iload dX11_attempt_17 rfl <| At.if_eq_f (tgt := 25) dX11_attempt_19 (by decide) c8 <| ?_
    refine At.iload dX11_attempt_22 rfl <| ?_
    obtain rfl := Option.some.inj h
    exact At.iret rfl (Nat.zero_le _) (Nat.zero_le _) ⟨rfl, rfl⟩ dX11_attempt_24
def fX1_begin (p1 : Int) (p2 : Int) (p3 : Nat) (S : SS) : Option SS :=
  Option.bind (fX5_settle (S p3 3) S) fun q1 =>
  lt (up q1 54 2 p1) fun S2 =>
  lt (up S2 54 3 p2) fun S3 =>
  Option.bind (fX6_copyOf 55 p3 S3) fun q4 =>
  some q4
set_option maxRecDepth 100000 in
set_option maxHeartbeats 4000000 in
theorem rX1_begin {G : GG} {p1 : Int} {p2 : Int} {p3 : Nat} {S : SS} {rr : SS} (hp3 : sh p3 = (6, 4)) (h : fX1_begin p1 p2 p3 S = some rr) : RD G mX1_begin 4 [vr 54, vi p1, vi p2, vr p3] S none rr := by
  unfold fX1_begin at h
  refine Runs.of pl_X1 (Nat.le_of_ble_eq_true rfl) ?_
  show At G mX1_begin 4 0 [(0, vr 54), (1, vi p1), (2, vi p2), (3, vr p3)] [] (mm S) 0 0 (EQ none rr)
  refine At.aloadn dX1_begin_0 rfl <| At.getR fl_X1_18 sh_54 (le149 sh_54) rf_54_0 dX1_begin_1 <| At.aloadn dX1_begin_4 rfl <| At.getI fl_X1_22 hp3 (le149 hp3) dX1_begin_5 <| ?_
  obtain ⟨q1, hq1, h⟩ := bnd_e h
  refine At.cV0 (av := [vi (S p3 3)]) (rest := []) mv_X5_settle lk_X1_26 dX1_begin_8 rfl rfl sh_30 (Nat.le_of_ble_eq_true rfl) (by decide) ⟨rfl, rfl⟩ (rX5_settle hq1) <| At.aloadn dX1_begin_11 rfl <| At.iloadn dX1_begin_12 rfl <| ?_
  obtain ⟨S2, hS2, h⟩ := lt_e h
  refine At.putI fw_X1_32 sh_54 (le149 sh_54) dX1_begin_13 <| At.nmS hS2 <| At.aloadn dX1_begin_16 rfl <| At.iloadn dX1_begin_17 rfl <| ?_
  obtain ⟨S3, hS3, h⟩ := lt_e h
  refine At.putI fw_X1_35 sh_54 (le149 sh_54) dX1_begin_18 <| At.nmS hS3 <| At.aloadn dX1_begin_21 rfl <| At.getR fl_X1_12 sh_54 (le149 sh_54) rf_54_1 dX1_begin_22 <| At.aloadn dX1_begin_25 rfl <| ?_
  obtain ⟨q4, hq4, h⟩ := bnd_e h
  refine At.cV0 (av := [vr p3]) (rest := []) mv_X6_copyOf lk_X1_38 dX1_begin_26 rfl rfl sh_55 (Nat.le_of_ble_eq_true rfl) (by decide) ⟨rfl, rfl⟩ (rX6_copyOf sh_55 hp3 hq4) <| ?_
  obtain rfl := Option.some.inj h
  exact At.vret rfl (Nat.zero_le _) (Nat.zero_le _) ⟨rfl, rfl⟩ dX1_begin_29
def RCX1_wins (G : GG) (rc : Nat → Int → Int → Int → SS → Option (Bool × SS)) (d : Nat) : Prop := (∀ (p1 : Int) (p2 : Int) (S : SS) (rr : (Bool × SS)), rc 0 p1 p2 0 S = some rr → RD G mX1_wins d [vr 54, vi p1, vi p2] S (some (vi (bI rr.1))) rr.2) ∧ (∀ (p1 : Int) (p2 : Int) (p3 : Int) (S : SS) (rr : (Bool × SS)), rc 1 p1 p2 p3 S = some rr → RD G mX1_winsBy d [vr 54, vi p1, vi p2, vi p3] S (some (vi (bI rr.1))) rr.2) ∧ (∀ (p1 : Int) (p2 : Int) (S : SS) (rr : (Bool × SS)), rc 2 p1 p2 0 S = some rr → RD G mX1_winsWhateverIsShut d [vr 54, vi p1, vi p2] S (some (vi (bI rr.1))) rr.2)
def fX1_wins_L22 (rc : Nat → Int → Int → Int → SS → Option (Bool × SS)) (l1 : Int) (l2 : Int) : Nat → Int → SS → Option (Nat × SS)
  | 0, _, _ => none
  | n + 1, l3, S =>
    if (S 2 6) ≤ l3 then (
      some (1, S)
    ) else (
      Option.bind (rc 1 l3 l1 l2 S) fun q1 =>
      if q1.1 = true then (
        some (0, q1.2)
      ) else (
        lt (w32 (l3 + 1)) fun x2 =>
        fX1_wins_L22 rc l1 l2 n x2 q1.2
      )
    )
def fX1_wins (rc : Nat → Int → Int → Int → SS → Option (Bool × SS)) (p1 : Int) (p2 : Int) (S : SS) : Option (Bool × SS) :=
  if (w32 (Int.tdiv p1 20)) = (S 54 3) then (
    some (true, S)
  ) else (
    if 1 ≤ p2 then (
      Option.bind (fX1_wins_L22 rc p1 p2 FU 0 S) fun q1 =>
      if q1.1 = 0 then (
        some (true, q1.2)
      ) else (
        Option.bind (rc 1 99 p1 p2 q1.2) fun q3 =>
        some (q3.1, q3.2)
      )
    ) else (
      some (false, S)
    )
  )
set_option maxRecDepth 100000 in
set_option maxHeartbeats 4000000 in
theorem lX1_wins_L22 {G : GG} {Φ : Option VV → MM → Prop} {rc : Nat → Int → Int → Int → SS → Option (Bool × SS)} {d : Nat} (hrc : RCX1_wins G rc d) (hd0 : 5 ≤ d) {l1 : Int} {l2 : Int} : ∀ (n : Nat) (l3 : Int) (S : SS) (q : Nat × SS), fX1_wins_L22 rc l1 l2 n l3 S = some q → (q.1 = 0 → At G mX1_wins (d + 1) 46 [] [] (mm q.2) 0 0 Φ) → (q.1 = 1 → At G mX1_wins (d + 1) 54 [(0, vr 54), (1, vi l1), (2, vi l2)] [] (mm q.2) 0 0 Φ) → At G mX1_wins (d + 1) 22 [(0, vr 54), (1, vi l1), (2, vi l2), (3, vi l3)] [] (mm S) 0 0 Φ := by
  intro n
  induction n with
  | zero =>
    intro _ _ _ h
    cases h
  | succ n ih =>
    intro l3 S q h K46 K54
    unfold fX1_wins_L22 at h
    rcases ite_e h with ⟨c4, h⟩ | ⟨c4, h⟩
    · refine At.iloadn dX1_wins_22 rfl <| At.aloadn dX1_wins_23 rfl <| At.getR fl_X1_18 sh_54 (le149 sh_54) rf_54_0 dX1_wins_24 <| At.getR fl_X1_54 sh_30 (le149 sh_30) rf_30_0 dX1_wins_27 <| At.getI fl_X1_58 sh_2 (le149 sh_2) dX1_wins_30 <| At.icmp_ge_t (tgt := 54) dX1_wins_33 (by decide) c4 <| ?_
      obtain rfl := Option.some.inj h
      exact At.sub [0, 1, 2] rfl (K54 rfl)
    · refine At.iloadn dX1_wins_22 rfl <| At.aloadn dX1_wins_23 rfl <| At.getR fl_X1_18 sh_54 (le149 sh_54) rf_54_0 dX1_wins_24 <| At.getR fl_X1_54 sh_30 (le149 sh_30) rf_30_0 dX1_wins_27 <| At.getI fl_X1_58 sh_2 (le149 sh_2) dX1_wins_30 <| At.icmp_ge_f (tgt := 54) dX1_wins_33 (by decide) c4 <| ?_
      refine At.aloadn dX1_wins_36 rfl <| At.iloadn dX1_wins_37 rfl <| At.iloadn dX1_wins_38 rfl <| At.iloadn dX1_wins_39 rfl <| ?_
      obtain ⟨q1, hq1, h⟩ := bnd_e h
      rcases ite_e h with ⟨c3, h⟩ | ⟨c3, h⟩
      · refine At.cV1 (av := [vi l3, vi l1, vi l2]) (rest := []) mv_X1_winsBy lk_X1_62 dX1_wins_40 rfl rfl sh_54 (Nat.le_of_ble_eq_true rfl) (Nat.le_refl _) ⟨rfl, rfl⟩ (hrc.2.1 _ _ _ _ _ hq1) <| At.bifeq_f (tgt := 48) dX1_wins_43 (by decide) c3 <| ?_
        obtain rfl := Option.some.inj h
        exact At.sub [] rfl (K46 rfl)
      · refine At.cV1 (av := [vi l3, vi l1, vi l2]) (rest := []) mv_X1_winsBy lk_X1_62 dX1_wins_40 rfl rfl sh_54 (Nat.le_of_ble_eq_true rfl) (Nat.le_refl _) ⟨rfl, rfl⟩ (hrc.2.1 _ _ _ _ _ hq1) <| At.bifeq_t (tgt := 48) dX1_wins_43 (by decide) c3 <| ?_
        obtain ⟨x2, hx2, h⟩ := lt_e h
        refine At.iinc (ls' := [(3, vi x2), (0, vr 54), (1, vi l1), (2, vi l2)]) dX1_wins_48 rfl (by decide) (by rw [hx2]; rfl) <| At.goto (tgt := 22) dX1_wins_51 (by decide) <| ?_
        exact At.sub [1, 2, 3, 0] rfl (ih _ _ _ h K46 K54)
set_option maxRecDepth 100000 in
set_option maxHeartbeats 4000000 in
theorem rX1_wins {G : GG} {rc : Nat → Int → Int → Int → SS → Option (Bool × SS)} {d : Nat} (hrc : RCX1_wins G rc d) (hd0 : 5 ≤ d) {p1 : Int} {p2 : Int} {S : SS} {rr : (Bool × SS)} (h : fX1_wins rc p1 p2 S = some rr) : RD G mX1_wins (d + 1) [vr 54, vi p1, vi p2] S (some (vi (bI rr.1))) rr.2 := by
  unfold fX1_wins at h
  refine Runs.of pl_X1 (Nat.le_of_ble_eq_true rfl) ?_
  show At G mX1_wins (d + 1) 0 [(0, vr 54), (1, vi p1), (2, vi p2)] [] (mm S) 0 0 (EQ (some (vi (bI rr.1))) rr.2)
  rcases ite_e h with ⟨c5, h⟩ | ⟨c5, h⟩
  · refine At.iloadn dX1_wins_0 rfl <| At.bipush dX1_wins_1 (by decide) <| At.idiv dX1_wins_3 (by decide) <| At.aloadn dX1_wins_4 rfl <| At.getI fl_X1_35 sh_54 (le149 sh_54) dX1_wins_5 <| At.icmp_ne_f (tgt := 13) dX1_wins_8 (by decide) c5 <| ?_
    refine At.iconst dX1_wins_11 (by decide) <| ?_
    obtain rfl := Option.some.inj h
    exact At.zret (b := true) rfl (Nat.zero_le _) (Nat.zero_le _) ⟨rfl, rfl⟩ dX1_wins_12
  · refine At.iloadn dX1_wins_0 rfl <| At.bipush dX1_wins_1 (by decide) <| At.idiv dX1_wins_3 (by decide) <| At.aloadn dX1_wins_4 rfl <| At.getI fl_X1_35 sh_54 (le149 sh_54) dX1_wins_5 <| At.icmp_ne_t (tgt := 13) dX1_wins_8 (by decide) c5 <| ?_
    rcases ite_e h with ⟨c4, h⟩ | ⟨c4, h⟩
    · refine At.iloadn dX1_wins_13 rfl <| At.iconst dX1_wins_14 (by decide) <| At.icmp_ge_t (tgt := 20) dX1_wins_15 (by decide) c4 <| ?_
      refine At.iconst dX1_wins_20 (by decide) <| At.istoren (ls' := [(3, vi 0), (0, vr 54), (1, vi p1), (2, vi p2)]) dX1_wins_21 (by decide) rfl <| ?_
      obtain ⟨q1, ho2, h⟩ := bnd_e h
      refine At.sub [1, 2, 3, 0] rfl (lX1_wins_L22 hrc hd0 FU _ _ q1 ho2 (fun hq => ?_) (fun hq => ?_))
      · rw [if_pos hq] at h
        refine At.iconst dX1_wins_46 (by decide) <| ?_
        obtain rfl := Option.some.inj h
        exact At.zret (b := true) rfl (Nat.zero_le _) (Nat.zero_le _) ⟨rfl, rfl⟩ dX1_wins_47
      · rw [if_neg (by omega)] at h
        refine At.aloadn dX1_wins_54 rfl <| At.bipush dX1_wins_55 (by decide) <| At.iloadn dX1_wins_57 rfl <| At.iloadn dX1_wins_58 rfl <| ?_
        obtain ⟨q3, hq3, h⟩ := bnd_e h
        refine At.cV1 (av := [vi 99, vi p1, vi p2]) (rest := []) mv_X1_winsBy lk_X1_62 dX1_wins_59 rfl rfl sh_54 (Nat.le_of_ble_eq_true rfl) (Nat.le_refl _) ⟨rfl, rfl⟩ (hrc.2.1 _ _ _ _ _ hq3) <| ?_
        obtain rfl := Option.some.inj h
        exact At.zret (b := q3.1) rfl (Nat.zero_le _) (Nat.zero_le _) ⟨rfl, rfl⟩ dX1_wins_62
    · refine At.iloadn dX1_wins_13 rfl <| At.iconst dX1_wins_14 (by decide) <| At.icmp_ge_f (tgt := 20) dX1_wins_15 (by decide) c4 <| ?_
      refine At.iconst dX1_wins_18 (by decide) <| ?_
      obtain rfl := Option.some.inj h
      exact At.zret (b := false) rfl (Nat.zero_le _) (Nat.zero_le _) ⟨rfl, rfl⟩ dX1_wins_19
def fX1_winsBy (rc : Nat → Int → Int → Int → SS → Option (Bool × SS)) (p1 : Int) (p2 : Int) (p3 : Int) (S : SS) : Option (Bool × SS) :=
  Option.bind (
    if p1 = 99 then (
      some (p2, S)
    ) else (
      Option.bind (fX5_after (S 54 2) p1 p2 55 S) fun q2 =>
      some (q2.1, q2.2)
    )
    : Option (Int × SS)) fun q1 =>
  if 0 ≤ q1.1 then (
    if (w32 (Int.tdiv q1.1 20)) = (q1.2 54 3) then (
      some (true, q1.2)
    ) else (
      if p3 ≤ 1 then (
        some (false, q1.2)
      ) else (
        Option.bind (rc 2 q1.1 (w32 (p3 - 1)) 0 q1.2) fun q4 =>
        if q4.1 = true then (
          some (true, q4.2)
        ) else (
          some (false, q4.2)
        )
      )
    )
  ) else (
    some (false, q1.2)
  )
set_option maxRecDepth 100000 in
set_option maxHeartbeats 4000000 in
theorem rX1_winsBy {G : GG} {rc : Nat → Int → Int → Int → SS → Option (Bool × SS)} {d : Nat} (hrc : RCX1_wins G rc d) (hd0 : 5 ≤ d) {p1 : Int} {p2 : Int} {p3 : Int} {S : SS} {rr : (Bool × SS)} (h : fX1_winsBy rc p1 p2 p3 S = some rr) : RD G mX1_winsBy (d + 1) [vr 54, vi p1, vi p2, vi p3] S (some (vi (bI rr.1))) rr.2 := by
  unfold fX1_winsBy at h
  refine Runs.of pl_X1 (Nat.le_of_ble_eq_true rfl) ?_
  show At G mX1_winsBy (d + 1) 0 [(0, vr 54), (1, vi p1), (2, vi p2), (3, vi p3)] [] (mm S) 0 0 (EQ (some (vi (bI rr.1))) rr.2)
  obtain ⟨q1, hj27, h⟩ := bnd_e h
  have K27 : At G mX1_winsBy (d + 1) 27 [(0, vr 54), (3, vi p3)] [vi q1.1] (mm q1.2) 0 0 (EQ (some (vi (bI rr.1))) rr.2) := by
    rcases ite_e h with ⟨c8, h⟩ | ⟨c8, h⟩
    · refine At.istore (ls' := [(4, vi q1.1), (0, vr 54), (3, vi p3)]) dX1_winsBy_27 (by decide) rfl <| At.iload dX1_winsBy_29 rfl <| At.if_ge_t (tgt := 36) dX1_winsBy_31 (by decide) c8 <| ?_
      rcases ite_e h with ⟨c7, h⟩ | ⟨c7, h⟩
      · refine At.iload dX1_winsBy_36 rfl <| At.bipush dX1_winsBy_38 (by decide) <| At.idiv dX1_winsBy_40 (by decide) <| At.aloadn dX1_winsBy_41 rfl <| At.getI fl_X1_35 sh_54 (le149 sh_54) dX1_winsBy_42 <| At.icmp_ne_f (tgt := 50) dX1_winsBy_45 (by decide) c7 <| ?_
        refine At.iconst dX1_winsBy_48 (by decide) <| ?_
        obtain rfl := Option.some.inj h
        exact At.zret (b := true) rfl (Nat.zero_le _) (Nat.zero_le _) ⟨rfl, rfl⟩ dX1_winsBy_49
      · refine At.iload dX1_winsBy_36 rfl <| At.bipush dX1_winsBy_38 (by decide) <| At.idiv dX1_winsBy_40 (by decide) <| At.aloadn dX1_winsBy_41 rfl <| At.getI fl_X1_35 sh_54 (le149 sh_54) dX1_winsBy_42 <| At.icmp_ne_t (tgt := 50) dX1_winsBy_45 (by decide) c7 <| ?_
        rcases ite_e h with ⟨c6, h⟩ | ⟨c6, h⟩
        · refine At.iloadn dX1_winsBy_50 rfl <| At.iconst dX1_winsBy_51 (by decide) <| At.icmp_le_t (tgt := 71) dX1_winsBy_52 (by decide) c6 <| ?_
          refine At.iconst dX1_winsBy_71 (by decide) <| ?_
          obtain rfl := Option.some.inj h
          exact At.zret (b := false) rfl (Nat.zero_le _) (Nat.zero_le _) ⟨rfl, rfl⟩ dX1_winsBy_72
        · refine At.iloadn dX1_winsBy_50 rfl <| At.iconst dX1_winsBy_51 (by decide) <| At.icmp_le_f (tgt := 71) dX1_winsBy_52 (by decide) c6 <| ?_
          refine At.aloadn dX1_winsBy_55 rfl <| At.iload dX1_winsBy_56 rfl <| At.iloadn dX1_winsBy_58 rfl <| At.iconst dX1_winsBy_59 (by decide) <| At.isub dX1_winsBy_60 <| ?_
          obtain ⟨q4, hq4, h⟩ := bnd_e h
          rcases ite_e h with ⟨c5, h⟩ | ⟨c5, h⟩
          · refine At.cV1 (av := [vi q1.1, vi (w32 (p3 - 1))]) (rest := []) mv_X1_winsWhateverIsShut lk_X1_70 dX1_winsBy_61 rfl rfl sh_54 (Nat.le_of_ble_eq_true rfl) (Nat.le_refl _) ⟨rfl, rfl⟩ (hrc.2.2 _ _ _ _ hq4) <| At.bifeq_f (tgt := 71) dX1_winsBy_64 (by decide) c5 <| ?_
            refine At.iconst dX1_winsBy_67 (by decide) <| At.goto (tgt := 72) dX1_winsBy_68 (by decide) <| ?_
            obtain rfl := Option.some.inj h
            exact At.zret (b := true) rfl (Nat.zero_le _) (Nat.zero_le _) ⟨rfl, rfl⟩ dX1_winsBy_72
          · refine At.cV1 (av := [vi q1.1, vi (w32 (p3 - 1))]) (rest := []) mv_X1_winsWhateverIsShut lk_X1_70 dX1_winsBy_61 rfl rfl sh_54 (Nat.le_of_ble_eq_true rfl) (Nat.le_refl _) ⟨rfl, rfl⟩ (hrc.2.2 _ _ _ _ hq4) <| At.bifeq_t (tgt := 71) dX1_winsBy_64 (by decide) c5 <| ?_
            refine At.iconst dX1_winsBy_71 (by decide) <| ?_
            obtain rfl := Option.some.inj h
            exact At.zret (b := false) rfl (Nat.zero_le _) (Nat.zero_le _) ⟨rfl, rfl⟩ dX1_winsBy_72
    · refine At.istore (ls' := [(4, vi q1.1), (0, vr 54), (3, vi p3)]) dX1_winsBy_27 (by decide) rfl <| At.iload dX1_winsBy_29 rfl <| At.if_ge_f (tgt := 36) dX1_winsBy_31 (by decide) c8 <| ?_
      refine At.iconst dX1_winsBy_34 (by decide) <| ?_
      obtain rfl := Option.some.inj h
      exact At.zret (b := false) rfl (Nat.zero_le _) (Nat.zero_le _) ⟨rfl, rfl⟩ dX1_winsBy_35
  clear h; have h := hj27; clear hj27
  rcases ite_e h with ⟨c3, h⟩ | ⟨c3, h⟩
  · refine At.iloadn dX1_winsBy_0 rfl <| At.bipush dX1_winsBy_1 (by decide) <| At.icmp_ne_f (tgt := 10) dX1_winsBy_3 (by decide) c3 <| ?_
    refine At.iloadn dX1_winsBy_6 rfl <| At.goto (tgt := 27) dX1_winsBy_7 (by decide) <| ?_
    obtain rfl := Option.some.inj h
    exact At.sub [0, 3] rfl K27
  · refine At.iloadn dX1_winsBy_0 rfl <| At.bipush dX1_winsBy_1 (by decide) <| At.icmp_ne_t (tgt := 10) dX1_winsBy_3 (by decide) c3 <| ?_
    refine At.aloadn dX1_winsBy_10 rfl <| At.getR fl_X1_18 sh_54 (le149 sh_54) rf_54_0 dX1_winsBy_11 <| At.aloadn dX1_winsBy_14 rfl <| At.getI fl_X1_32 sh_54 (le149 sh_54) dX1_winsBy_15 <| At.iloadn dX1_winsBy_18 rfl <| At.iloadn dX1_winsBy_19 rfl <| At.aloadn dX1_winsBy_20 rfl <| At.getR fl_X1_12 sh_54 (le149 sh_54) rf_54_1 dX1_winsBy_21 <| ?_
    obtain ⟨q2, hq2, h⟩ := bnd_e h
    refine At.cV1 (av := [vi (S 54 2), vi p1, vi p2, vr 55]) (rest := []) mv_X5_after lk_X1_66 dX1_winsBy_24 rfl rfl sh_30 (Nat.le_of_ble_eq_true rfl) (by omega) ⟨rfl, rfl⟩ (rX5_after sh_55 hq2) <| ?_
    obtain rfl := Option.some.inj h
    exact At.sub [0, 3] rfl K27
def fX1_winsWhateverIsShut_L2 (rc : Nat → Int → Int → Int → SS → Option (Bool × SS)) (l1 : Int) (l2 : Int) : Nat → Int → SS → Option (Nat × SS)
  | 0, _, _ => none
  | n + 1, l3, S =>
    if (S 2 6) ≤ l3 then (
      some (1, S)
    ) else (
      Option.bind (fX6_signOf 55 l3 S) fun q1 =>
      if q1 = 3 then (
        lt (w32 (l3 + 1)) fun x2 =>
        fX1_winsWhateverIsShut_L2 rc l1 l2 n x2 S
      ) else (
        Option.bind (fX6_setSign 55 l3 3 S) fun q3 =>
        Option.bind (rc 0 l1 l2 0 q3) fun q4 =>
        Option.bind (fX6_setSign 55 l3 q1 q4.2) fun q5 =>
        if q4.1 = true then (
          lt (w32 (l3 + 1)) fun x6 =>
          fX1_winsWhateverIsShut_L2 rc l1 l2 n x6 q5
        ) else (
          some (0, q5)
        )
      )
    )
def fX1_winsWhateverIsShut (rc : Nat → Int → Int → Int → SS → Option (Bool × SS)) (p1 : Int) (p2 : Int) (S : SS) : Option (Bool × SS) :=
  Option.bind (fX1_winsWhateverIsShut_L2 rc p1 p2 FU 0 S) fun q1 =>
  if q1.1 = 0 then (
    some (false, q1.2)
  ) else (
    Option.bind (rc 0 p1 p2 0 q1.2) fun q3 =>
    some (q3.1, q3.2)
  )
set_option maxRecDepth 100000 in
set_option maxHeartbeats 4000000 in
theorem lX1_winsWhateverIsShut_L2 {G : GG} {Φ : Option VV → MM → Prop} {rc : Nat → Int → Int → Int → SS → Option (Bool × SS)} {d : Nat} (hrc : RCX1_wins G rc d) (hd0 : 5 ≤ d) {l1 : Int} {l2 : Int} : ∀ (n : Nat) (l3 : Int) (S : SS) (q : Nat × SS), fX1_winsWhateverIsShut_L2 rc l1 l2 n l3 S = some q → (q.1 = 0 → At G mX1_winsWhateverIsShut (d + 1) 67 [] [] (mm q.2) 0 0 Φ) → (q.1 = 1 → At G mX1_winsWhateverIsShut (d + 1) 75 [(0, vr 54), (1, vi l1), (2, vi l2)] [] (mm q.2) 0 0 Φ) → At G mX1_winsWhateverIsShut (d + 1) 2 [(0, vr 54), (1, vi l1), (2, vi l2), (3, vi l3)] [] (mm S) 0 0 Φ := by
  intro n
  induction n with
  | zero =>
    intro _ _ _ h
    cases h
  | succ n ih =>
    intro l3 S q h K67 K75
    unfold fX1_winsWhateverIsShut_L2 at h
    rcases ite_e h with ⟨c9, h⟩ | ⟨c9, h⟩
    · refine At.iloadn dX1_winsWhateverIsShut_2 rfl <| At.aloadn dX1_winsWhateverIsShut_3 rfl <| At.getR fl_X1_18 sh_54 (le149 sh_54) rf_54_0 dX1_winsWhateverIsShut_4 <| At.getR fl_X1_54 sh_30 (le149 sh_30) rf_30_0 dX1_winsWhateverIsShut_7 <| At.getI fl_X1_58 sh_2 (le149 sh_2) dX1_winsWhateverIsShut_10 <| At.icmp_ge_t (tgt := 75) dX1_winsWhateverIsShut_13 (by decide) c9 <| ?_
      obtain rfl := Option.some.inj h
      exact At.sub [0, 1, 2] rfl (K75 rfl)
    · refine At.iloadn dX1_winsWhateverIsShut_2 rfl <| At.aloadn dX1_winsWhateverIsShut_3 rfl <| At.getR fl_X1_18 sh_54 (le149 sh_54) rf_54_0 dX1_winsWhateverIsShut_4 <| At.getR fl_X1_54 sh_30 (le149 sh_30) rf_30_0 dX1_winsWhateverIsShut_7 <| At.getI fl_X1_58 sh_2 (le149 sh_2) dX1_winsWhateverIsShut_10 <| At.icmp_ge_f (tgt := 75) dX1_winsWhateverIsShut_13 (by decide) c9 <| ?_
      refine At.aloadn dX1_winsWhateverIsShut_16 rfl <| At.getR fl_X1_12 sh_54 (le149 sh_54) rf_54_1 dX1_winsWhateverIsShut_17 <| At.iloadn dX1_winsWhateverIsShut_20 rfl <| ?_
      obtain ⟨q1, hq1, h⟩ := bnd_e h
      rcases ite_e h with ⟨c8, h⟩ | ⟨c8, h⟩
      · refine At.cV1 (av := [vi l3]) (rest := []) mv_X6_signOf lk_X1_73 dX1_winsWhateverIsShut_21 rfl rfl sh_55 (Nat.le_of_ble_eq_true rfl) (by omega) ⟨rfl, rfl⟩ (rX6_signOf sh_55 hq1) <| At.istore (ls' := [(4, vi q1), (0, vr 54), (1, vi l1), (2, vi l2), (3, vi l3)]) dX1_winsWhateverIsShut_24 (by decide) rfl <| At.iload dX1_winsWhateverIsShut_26 rfl <| At.iconst dX1_winsWhateverIsShut_28 (by decide) <| At.icmp_ne_f (tgt := 35) dX1_winsWhateverIsShut_29 (by decide) c8 <| ?_
        refine At.goto (tgt := 69) dX1_winsWhateverIsShut_32 (by decide) <| ?_
        obtain ⟨x2, hx2, h⟩ := lt_e h
        refine At.iinc (ls' := [(3, vi x2), (4, vi q1), (0, vr 54), (1, vi l1), (2, vi l2)]) dX1_winsWhateverIsShut_69 rfl (by decide) (by rw [hx2]; rfl) <| At.goto (tgt := 2) dX1_winsWhateverIsShut_72 (by decide) <| ?_
        exact At.sub [2, 3, 4, 0] rfl (ih _ _ _ h K67 K75)
      · refine At.cV1 (av := [vi l3]) (rest := []) mv_X6_signOf lk_X1_73 dX1_winsWhateverIsShut_21 rfl rfl sh_55 (Nat.le_of_ble_eq_true rfl) (by omega) ⟨rfl, rfl⟩ (rX6_signOf sh_55 hq1) <| At.istore (ls' := [(4, vi q1), (0, vr 54), (1, vi l1), (2, vi l2), (3, vi l3)]) dX1_winsWhateverIsShut_24 (by decide) rfl <| At.iload dX1_winsWhateverIsShut_26 rfl <| At.iconst dX1_winsWhateverIsShut_28 (by decide) <| At.icmp_ne_t (tgt := 35) dX1_winsWhateverIsShut_29 (by decide) c8 <| ?_
        refine At.aloadn dX1_winsWhateverIsShut_35 rfl <| At.getR fl_X1_12 sh_54 (le149 sh_54) rf_54_1 dX1_winsWhateverIsShut_36 <| At.iloadn dX1_winsWhateverIsShut_39 rfl <| At.iconst dX1_winsWhateverIsShut_40 (by decide) <| ?_
        obtain ⟨q3, hq3, h⟩ := bnd_e h
        refine At.cV0 (av := [vi l3, vi 3]) (rest := []) mv_X6_setSign lk_X1_76 dX1_winsWhateverIsShut_41 rfl rfl sh_55 (Nat.le_of_ble_eq_true rfl) (by omega) ⟨rfl, rfl⟩ (rX6_setSign sh_55 hq3) <| At.aloadn dX1_winsWhateverIsShut_44 rfl <| At.iloadn dX1_winsWhateverIsShut_45 rfl <| At.iloadn dX1_winsWhateverIsShut_46 rfl <| ?_
        obtain ⟨q4, hq4, h⟩ := bnd_e h
        refine At.cV1 (av := [vi l1, vi l2]) (rest := []) mv_X1_wins lk_X1_46 dX1_winsWhateverIsShut_47 rfl rfl sh_54 (Nat.le_of_ble_eq_true rfl) (Nat.le_refl _) ⟨rfl, rfl⟩ (hrc.1 _ _ _ _ hq4) <| At.istore (ls' := [(5, vi (bI q4.1)), (4, vi q1), (0, vr 54), (1, vi l1), (2, vi l2), (3, vi l3)]) dX1_winsWhateverIsShut_50 (by decide) rfl <| At.aloadn dX1_winsWhateverIsShut_52 rfl <| At.getR fl_X1_12 sh_54 (le149 sh_54) rf_54_1 dX1_winsWhateverIsShut_53 <| At.iloadn dX1_winsWhateverIsShut_56 rfl <| At.iload dX1_winsWhateverIsShut_57 rfl <| ?_
        obtain ⟨q5, hq5, h⟩ := bnd_e h
        rcases ite_e h with ⟨c7, h⟩ | ⟨c7, h⟩
        · refine At.cV0 (av := [vi l3, vi q1]) (rest := []) mv_X6_setSign lk_X1_76 dX1_winsWhateverIsShut_59 rfl rfl sh_55 (Nat.le_of_ble_eq_true rfl) (by omega) ⟨rfl, rfl⟩ (rX6_setSign sh_55 hq5) <| At.iload dX1_winsWhateverIsShut_62 rfl <| At.bifne_t (tgt := 69) dX1_winsWhateverIsShut_64 (by decide) c7 <| ?_
          obtain ⟨x6, hx6, h⟩ := lt_e h
          refine At.iinc (ls' := [(3, vi x6), (5, vi (bI q4.1)), (4, vi q1), (0, vr 54), (1, vi l1), (2, vi l2)]) dX1_winsWhateverIsShut_69 rfl (by decide) (by rw [hx6]; rfl) <| At.goto (tgt := 2) dX1_winsWhateverIsShut_72 (by decide) <| ?_
          exact At.sub [3, 4, 5, 0] rfl (ih _ _ _ h K67 K75)
        · refine At.cV0 (av := [vi l3, vi q1]) (rest := []) mv_X6_setSign lk_X1_76 dX1_winsWhateverIsShut_59 rfl rfl sh_55 (Nat.le_of_ble_eq_true rfl) (by omega) ⟨rfl, rfl⟩ (rX6_setSign sh_55 hq5) <| At.iload dX1_winsWhateverIsShut_62 rfl <| At.bifne_f (tgt := 69) dX1_winsWhateverIsShut_64 (by decide) c7 <| ?_
          obtain rfl := Option.some.inj h
          exact At.sub [] rfl (K67 rfl)
set_option maxRecDepth 100000 in
set_option maxHeartbeats 4000000 in
theorem rX1_winsWhateverIsShut {G : GG} {rc : Nat → Int → Int → Int → SS → Option (Bool × SS)} {d : Nat} (hrc : RCX1_wins G rc d) (hd0 : 5 ≤ d) {p1 : Int} {p2 : Int} {S : SS} {rr : (Bool × SS)} (h : fX1_winsWhateverIsShut rc p1 p2 S = some rr) : RD G mX1_winsWhateverIsShut (d + 1) [vr 54, vi p1, vi p2] S (some (vi (bI rr.1))) rr.2 := by
  unfold fX1_winsWhateverIsShut at h
  refine Runs.of pl_X1 (Nat.le_of_ble_eq_true rfl) ?_
  show At G mX1_winsWhateverIsShut (d + 1) 0 [(0, vr 54), (1, vi p1), (2, vi p2)] [] (mm S) 0 0 (EQ (some (vi (bI rr.1))) rr.2)
  refine At.iconst dX1_winsWhateverIsShut_0 (by decide) <| At.istoren (ls' := [(3, vi 0), (0, vr 54), (1, vi p1), (2, vi p2)]) dX1_winsWhateverIsShut_1 (by decide) rfl <| ?_
  obtain ⟨q1, ho2, h⟩ := bnd_e h
  refine At.sub [1, 2, 3, 0] rfl (lX1_winsWhateverIsShut_L2 hrc hd0 FU _ _ q1 ho2 (fun hq => ?_) (fun hq => ?_))
  · rw [if_pos hq] at h
    refine At.iconst dX1_winsWhateverIsShut_67 (by decide) <| ?_
    obtain rfl := Option.some.inj h
    exact At.zret (b := false) rfl (Nat.zero_le _) (Nat.zero_le _) ⟨rfl, rfl⟩ dX1_winsWhateverIsShut_68
  · rw [if_neg (by omega)] at h
    refine At.aloadn dX1_winsWhateverIsShut_75 rfl <| At.iloadn dX1_winsWhateverIsShut_76 rfl <| At.iloadn dX1_winsWhateverIsShut_77 rfl <| ?_
    obtain ⟨q3, hq3, h⟩ := bnd_e h
    refine At.cV1 (av := [vi p1, vi p2]) (rest := []) mv_X1_wins lk_X1_46 dX1_winsWhateverIsShut_78 rfl rfl sh_54 (Nat.le_of_ble_eq_true rfl) (Nat.le_refl _) ⟨rfl, rfl⟩ (hrc.1 _ _ _ _ hq3) <| ?_
    obtain rfl := Option.some.inj h
    exact At.zret (b := q3.1) rfl (Nat.zero_le _) (Nat.zero_le _) ⟨rfl, rfl⟩ dX1_winsWhateverIsShut_81
def fGX1_wins : Nat → Nat → Int → Int → Int → SS → Option (Bool × SS)
  | 0 => fun _ _ _ _ _ => none
  | n + 1 => fun tg a0 a1 a2 S => if tg = 0 then fX1_wins (fGX1_wins n) a0 a1 S else if tg = 1 then fX1_winsBy (fGX1_wins n) a0 a1 a2 S else fX1_winsWhateverIsShut (fGX1_wins n) a0 a1 S
set_option maxRecDepth 100000 in
set_option maxHeartbeats 4000000 in
theorem rGX1_wins {G : GG} : ∀ n : Nat, RCX1_wins G (fGX1_wins n) (n + 5) := by
  intro n
  induction n with
  | zero => exact ⟨(fun _ _ _ _ h => by cases h), (fun _ _ _ _ _ h => by cases h), (fun _ _ _ _ h => by cases h)⟩
  | succ n ih =>
    have e : n + 1 + 5 = (n + 5) + 1 := by omega
    rw [e]
    exact ⟨(fun p1 p2 S rr h => rX1_wins ih (Nat.le_add_left _ _) (show fX1_wins (fGX1_wins n) p1 p2 S = some rr from h)),
      (fun p1 p2 p3 S rr h => rX1_winsBy ih (Nat.le_add_left _ _) (show fX1_winsBy (fGX1_wins n) p1 p2 p3 S = some rr from h)),
      (fun p1 p2 S rr h => rX1_winsWhateverIsShut ih (Nat.le_add_left _ _) (show fX1_winsWhateverIsShut (fGX1_wins n) p1 p2 S = some rr from h))⟩
def gX1_wins (p1 : Int) (p2 : Int) (S : SS) : Option (Bool × SS) := fGX1_wins 12 0 p1 p2 0 S
set_option maxRecDepth 100000 in
set_option maxHeartbeats 4000000 in
theorem rgX1_wins {G : GG} {p1 : Int} {p2 : Int} {S : SS} {rr : (Bool × SS)} (h : gX1_wins p1 p2 S = some rr) : RD G mX1_wins 17 [vr 54, vi p1, vi p2] S (some (vi (bI rr.1))) rr.2 := (rGX1_wins 12).1 _ _ _ _ h
def gX1_winsBy (p1 : Int) (p2 : Int) (p3 : Int) (S : SS) : Option (Bool × SS) := fGX1_wins 12 1 p1 p2 p3 S
set_option maxRecDepth 100000 in
set_option maxHeartbeats 4000000 in
theorem rgX1_winsBy {G : GG} {p1 : Int} {p2 : Int} {p3 : Int} {S : SS} {rr : (Bool × SS)} (h : gX1_winsBy p1 p2 p3 S = some rr) : RD G mX1_winsBy 17 [vr 54, vi p1, vi p2, vi p3] S (some (vi (bI rr.1))) rr.2 := (rGX1_wins 12).2.1 _ _ _ _ _ h
def gX1_winsWhateverIsShut (p1 : Int) (p2 : Int) (S : SS) : Option (Bool × SS) := fGX1_wins 12 2 p1 p2 0 S
set_option maxRecDepth 100000 in
set_option maxHeartbeats 4000000 in
theorem rgX1_winsWhateverIsShut {G : GG} {p1 : Int} {p2 : Int} {S : SS} {rr : (Bool × SS)} (h : gX1_winsWhateverIsShut p1 p2 S = some rr) : RD G mX1_winsWhateverIsShut 17 [vr 54, vi p1, vi p2] S (some (vi (bI rr.1))) rr.2 := (rGX1_wins 12).2.2 _ _ _ _ h
def fX1_fewestTurns_L2 : Nat → Int → SS → Option (Nat × Int × SS)
  | 0, _, _ => none
  | n + 1, l1, S =>
    if 3 < l1 then (
      some (1, 0, S)
    ) else (
      Option.bind (fX6_spotOf 55 (S 54 2) S) fun q1 =>
      Option.bind (gX1_wins q1 l1 S) fun q2 =>
      if q2.1 = true then (
        some (0, l1, q2.2)
      ) else (
        lt (w32 (l1 + 1)) fun x3 =>
        fX1_fewestTurns_L2 n x3 q2.2
      )
    )
def fX1_fewestTurns (S : SS) : Option (Int × SS) :=
  Option.bind (fX1_fewestTurns_L2 FU 0 S) fun q1 =>
  if q1.1 = 0 then (
    some (q1.2.1, q1.2.2)
  ) else (
    some ((-1), q1.2.2)
  )
set_option maxRecDepth 100000 in
set_option maxHeartbeats 4000000 in
theorem lX1_fewestTurns_L2 {G : GG} {Φ : Option VV → MM → Prop} : ∀ (n : Nat) (l1 : Int) (S : SS) (q : Nat × Int × SS), fX1_fewestTurns_L2 n l1 S = some q → (q.1 = 0 → At G mX1_fewestTurns 18 26 [(1, vi q.2.1)] [] (mm q.2.2) 0 0 Φ) → (q.1 = 1 → At G mX1_fewestTurns 18 34 [] [] (mm q.2.2) 0 0 Φ) → At G mX1_fewestTurns 18 2 [(0, vr 54), (1, vi l1)] [] (mm S) 0 0 Φ := by
  intro n
  induction n with
  | zero =>
    intro _ _ _ h
    cases h
  | succ n ih =>
    intro l1 S q h K26 K34
    unfold fX1_fewestTurns_L2 at h
    rcases ite_e h with ⟨c5, h⟩ | ⟨c5, h⟩
    · refine At.iloadn dX1_fewestTurns_2 rfl <| At.iconst dX1_fewestTurns_3 (by decide) <| At.icmp_gt_t (tgt := 34) dX1_fewestTurns_4 (by decide) c5 <| ?_
      obtain rfl := Option.some.inj h
      exact At.sub [] rfl (K34 rfl)
    · refine At.iloadn dX1_fewestTurns_2 rfl <| At.iconst dX1_fewestTurns_3 (by decide) <| At.icmp_gt_f (tgt := 34) dX1_fewestTurns_4 (by decide) c5 <| ?_
      refine At.aloadn dX1_fewestTurns_7 rfl <| At.aloadn dX1_fewestTurns_8 rfl <| At.getR fl_X1_12 sh_54 (le149 sh_54) rf_54_1 dX1_fewestTurns_9 <| At.aloadn dX1_fewestTurns_12 rfl <| At.getI fl_X1_32 sh_54 (le149 sh_54) dX1_fewestTurns_13 <| ?_
      obtain ⟨q1, hq1, h⟩ := bnd_e h
      refine At.cV1 (av := [vi (S 54 2)]) (rest := [vr 54]) mv_X6_spotOf lk_X1_42 dX1_fewestTurns_16 rfl rfl sh_55 (Nat.le_of_ble_eq_true rfl) (by decide) ⟨rfl, rfl⟩ (rX6_spotOf sh_55 hq1) <| At.iloadn dX1_fewestTurns_19 rfl <| ?_
      obtain ⟨q2, hq2, h⟩ := bnd_e h
      rcases ite_e h with ⟨c4, h⟩ | ⟨c4, h⟩
      · refine At.cV1 (av := [vi q1, vi l1]) (rest := []) mv_X1_wins lk_X1_46 dX1_fewestTurns_20 rfl rfl sh_54 (Nat.le_of_ble_eq_true rfl) (by decide) ⟨rfl, rfl⟩ (rgX1_wins hq2) <| At.bifeq_f (tgt := 28) dX1_fewestTurns_23 (by decide) c4 <| ?_
        obtain rfl := Option.some.inj h
        exact At.sub [1] rfl (K26 rfl)
      · refine At.cV1 (av := [vi q1, vi l1]) (rest := []) mv_X1_wins lk_X1_46 dX1_fewestTurns_20 rfl rfl sh_54 (Nat.le_of_ble_eq_true rfl) (by decide) ⟨rfl, rfl⟩ (rgX1_wins hq2) <| At.bifeq_t (tgt := 28) dX1_fewestTurns_23 (by decide) c4 <| ?_
        obtain ⟨x3, hx3, h⟩ := lt_e h
        refine At.iinc (ls' := [(1, vi x3), (0, vr 54)]) dX1_fewestTurns_28 rfl (by decide) (by rw [hx3]; rfl) <| At.goto (tgt := 2) dX1_fewestTurns_31 (by decide) <| ?_
        exact At.sub [1, 0] rfl (ih _ _ _ h K26 K34)
set_option maxRecDepth 100000 in
set_option maxHeartbeats 4000000 in
theorem rX1_fewestTurns {G : GG} {S : SS} {rr : (Int × SS)} (h : fX1_fewestTurns  S = some rr) : RD G mX1_fewestTurns 18 [vr 54] S (some (vi rr.1)) rr.2 := by
  unfold fX1_fewestTurns at h
  refine Runs.of pl_X1 (Nat.le_of_ble_eq_true rfl) ?_
  show At G mX1_fewestTurns 18 0 [(0, vr 54)] [] (mm S) 0 0 (EQ (some (vi rr.1)) rr.2)
  refine At.iconst dX1_fewestTurns_0 (by decide) <| At.istoren (ls' := [(1, vi 0), (0, vr 54)]) dX1_fewestTurns_1 (by decide) rfl <| ?_
  obtain ⟨q1, ho2, h⟩ := bnd_e h
  refine At.sub [1, 0] rfl (lX1_fewestTurns_L2 FU _ _ q1 ho2 (fun hq => ?_) (fun hq => ?_))
  · rw [if_pos hq] at h
    refine At.iloadn dX1_fewestTurns_26 rfl <| ?_
    obtain rfl := Option.some.inj h
    exact At.iret rfl (Nat.zero_le _) (Nat.zero_le _) ⟨rfl, rfl⟩ dX1_fewestTurns_27
  · rw [if_neg (by omega)] at h
    refine At.iconst dX1_fewestTurns_34 (by decide) <| ?_
    obtain rfl := Option.some.inj h
    exact At.iret rfl (Nat.zero_le _) (Nat.zero_le _) ⟨rfl, rfl⟩ dX1_fewestTurns_35
def fX11_forces (p1 : Int) (p2 : Int) (S : SS) : Option (Int × SS) :=
  Option.bind (fX8_hasGoer 2 p1 S) fun q1 =>
  if q1 = true then (
    Option.bind (fX8_hasCorner 2 p2 S) fun q2 =>
    if q2 = true then (
      Option.bind (fX1_begin p1 p2 7 S) fun q3 =>
      Option.bind (fX1_fewestTurns  q3) fun q4 =>
      some (q4.1, q4.2)
    ) else (
      some ((-2), S)
    )
  ) else (
    some ((-2), S)
  )
set_option maxRecDepth 100000 in
set_option maxHeartbeats 4000000 in
theorem rX11_forces {G : GG} {p1 : Int} {p2 : Int} {S : SS} {rr : (Int × SS)} (h : fX11_forces p1 p2 S = some rr) : RD G mX11_forces 19 [vr 1, vi p1, vi p2] S (some (vi rr.1)) rr.2 := by
  unfold fX11_forces at h
  refine Runs.of pl_X11 (Nat.le_of_ble_eq_true rfl) ?_
  show At G mX11_forces 19 0 [(0, vr 1), (1, vi p1), (2, vi p2)] [] (mm S) 0 0 (EQ (some (vi rr.1)) rr.2)
  refine At.aloadn dX11_forces_0 rfl <| At.getR fl_X11_12 sh_1 (le149 sh_1) rf_1_0 dX11_forces_1 <| At.iloadn dX11_forces_4 rfl <| ?_
  obtain ⟨q1, hq1, h⟩ := bnd_e h
  rcases ite_e h with ⟨c6, h⟩ | ⟨c6, h⟩
  · refine At.cV1 (av := [vi p1]) (rest := []) mv_X8_hasGoer lk_X11_148 dX11_forces_5 rfl rfl sh_2 (Nat.le_of_ble_eq_true rfl) (by decide) ⟨rfl, rfl⟩ (rX8_hasGoer sh_2 hq1) <| At.bifeq_f (tgt := 22) dX11_forces_8 (by decide) c6 <| ?_
    refine At.aloadn dX11_forces_11 rfl <| At.getR fl_X11_12 sh_1 (le149 sh_1) rf_1_0 dX11_forces_12 <| At.iloadn dX11_forces_15 rfl <| ?_
    obtain ⟨q2, hq2, h⟩ := bnd_e h
    rcases ite_e h with ⟨c5, h⟩ | ⟨c5, h⟩
    · refine At.cV1 (av := [vi p2]) (rest := []) mv_X8_hasCorner lk_X11_253 dX11_forces_16 rfl rfl sh_2 (Nat.le_of_ble_eq_true rfl) (by decide) ⟨rfl, rfl⟩ (rX8_hasCorner sh_2 hq2) <| At.bifne_t (tgt := 25) dX11_forces_19 (by decide) c5 <| ?_
      refine At.aloadn dX11_forces_25 rfl <| At.getR fl_X11_79 sh_1 (le149 sh_1) rf_1_10 dX11_forces_26 <| At.iloadn dX11_forces_29 rfl <| At.iloadn dX11_forces_30 rfl <| At.aloadn dX11_forces_31 rfl <| At.getR fl_X11_20 sh_1 (le149 sh_1) rf_1_1 dX11_forces_32 <| ?_
      obtain ⟨q3, hq3, h⟩ := bnd_e h
      refine At.cV0 (av := [vi p1, vi p2, vr 7]) (rest := []) mv_X1_begin lk_X11_353 dX11_forces_35 rfl rfl sh_54 (Nat.le_of_ble_eq_true rfl) (by decide) ⟨rfl, rfl⟩ (rX1_begin sh_7 hq3) <| At.aloadn dX11_forces_38 rfl <| At.getR fl_X11_79 sh_1 (le149 sh_1) rf_1_10 dX11_forces_39 <| ?_
      obtain ⟨q4, hq4, h⟩ := bnd_e h
      refine At.cV1 (av := []) (rest := []) mv_X1_fewestTurns lk_X11_356 dX11_forces_42 rfl rfl sh_54 (Nat.le_of_ble_eq_true rfl) (by decide) ⟨rfl, rfl⟩ (rX1_fewestTurns hq4) <| ?_
      obtain rfl := Option.some.inj h
      exact At.iret rfl (Nat.zero_le _) (Nat.zero_le _) ⟨rfl, rfl⟩ dX11_forces_45
    · refine At.cV1 (av := [vi p2]) (rest := []) mv_X8_hasCorner lk_X11_253 dX11_forces_16 rfl rfl sh_2 (Nat.le_of_ble_eq_true rfl) (by decide) ⟨rfl, rfl⟩ (rX8_hasCorner sh_2 hq2) <| At.bifne_f (tgt := 25) dX11_forces_19 (by decide) c5 <| ?_
      refine At.bipush dX11_forces_22 (by decide) <| ?_
      obtain rfl := Option.some.inj h
      exact At.iret rfl (Nat.zero_le _) (Nat.zero_le _) ⟨rfl, rfl⟩ dX11_forces_24
  · refine At.cV1 (av := [vi p1]) (rest := []) mv_X8_hasGoer lk_X11_148 dX11_forces_5 rfl rfl sh_2 (Nat.le_of_ble_eq_true rfl) (by decide) ⟨rfl, rfl⟩ (rX8_hasGoer sh_2 hq1) <| At.bifeq_t (tgt := 22) dX11_forces_8 (by decide) c6 <| ?_
    refine At.bipush dX11_forces_22 (by decide) <| ?_
    obtain rfl := Option.some.inj h
    exact At.iret rfl (Nat.zero_le _) (Nat.zero_le _) ⟨rfl, rfl⟩ dX11_forces_24
def fX1_firstStreet_L26 (l1 : Int) (l2 : Int) : Nat → Int → SS → Option (Nat × Int × SS)
  | 0, _, _ => none
  | n + 1, l3, S =>
    if (S 2 6) ≤ l3 then (
      some (1, 0, S)
    ) else (
      Option.bind (gX1_winsBy l3 l2 l1 S) fun q1 =>
      if q1.1 = true then (
        some (0, l3, q1.2)
      ) else (
        lt (w32 (l3 + 1)) fun x2 =>
        fX1_firstStreet_L26 l1 l2 n x2 q1.2
      )
    )
def fX1_firstStreet (S : SS) : Option (Int × SS) :=
  Option.bind (fX1_fewestTurns  S) fun q1 =>
  if 1 ≤ q1.1 then (
    Option.bind (fX6_spotOf 55 (q1.2 54 2) q1.2) fun q2 =>
    Option.bind (fX1_firstStreet_L26 q1.1 q2 FU 0 q1.2) fun q3 =>
    if q3.1 = 0 then (
      some (q3.2.1, q3.2.2)
    ) else (
      Option.bind (gX1_winsBy 99 q2 q1.1 q3.2.2) fun q5 =>
      if q5.1 = true then (
        some (99, q5.2)
      ) else (
        some ((-1), q5.2)
      )
    )
  ) else (
    some ((-1), q1.2)
  )
set_option maxRecDepth 100000 in
set_option maxHeartbeats 4000000 in
theorem lX1_firstStreet_L26 {G : GG} {Φ : Option VV → MM → Prop} {l1 : Int} {l2 : Int} : ∀ (n : Nat) (l3 : Int) (S : SS) (q : Nat × Int × SS), fX1_firstStreet_L26 l1 l2 n l3 S = some q → (q.1 = 0 → At G mX1_firstStreet 19 50 [(3, vi q.2.1)] [] (mm q.2.2) 0 0 Φ) → (q.1 = 1 → At G mX1_firstStreet 19 58 [(0, vr 54), (1, vi l1), (2, vi l2)] [] (mm q.2.2) 0 0 Φ) → At G mX1_firstStreet 19 26 [(0, vr 54), (1, vi l1), (2, vi l2), (3, vi l3)] [] (mm S) 0 0 Φ := by
  intro n
  induction n with
  | zero =>
    intro _ _ _ h
    cases h
  | succ n ih =>
    intro l3 S q h K50 K58
    unfold fX1_firstStreet_L26 at h
    rcases ite_e h with ⟨c4, h⟩ | ⟨c4, h⟩
    · refine At.iloadn dX1_firstStreet_26 rfl <| At.aloadn dX1_firstStreet_27 rfl <| At.getR fl_X1_18 sh_54 (le149 sh_54) rf_54_0 dX1_firstStreet_28 <| At.getR fl_X1_54 sh_30 (le149 sh_30) rf_30_0 dX1_firstStreet_31 <| At.getI fl_X1_58 sh_2 (le149 sh_2) dX1_firstStreet_34 <| At.icmp_ge_t (tgt := 58) dX1_firstStreet_37 (by decide) c4 <| ?_
      obtain rfl := Option.some.inj h
      exact At.sub [0, 1, 2] rfl (K58 rfl)
    · refine At.iloadn dX1_firstStreet_26 rfl <| At.aloadn dX1_firstStreet_27 rfl <| At.getR fl_X1_18 sh_54 (le149 sh_54) rf_54_0 dX1_firstStreet_28 <| At.getR fl_X1_54 sh_30 (le149 sh_30) rf_30_0 dX1_firstStreet_31 <| At.getI fl_X1_58 sh_2 (le149 sh_2) dX1_firstStreet_34 <| At.icmp_ge_f (tgt := 58) dX1_firstStreet_37 (by decide) c4 <| ?_
      refine At.aloadn dX1_firstStreet_40 rfl <| At.iloadn dX1_firstStreet_41 rfl <| At.iloadn dX1_firstStreet_42 rfl <| At.iloadn dX1_firstStreet_43 rfl <| ?_
      obtain ⟨q1, hq1, h⟩ := bnd_e h
      rcases ite_e h with ⟨c3, h⟩ | ⟨c3, h⟩
      · refine At.cV1 (av := [vi l3, vi l2, vi l1]) (rest := []) mv_X1_winsBy lk_X1_62 dX1_firstStreet_44 rfl rfl sh_54 (Nat.le_of_ble_eq_true rfl) (by decide) ⟨rfl, rfl⟩ (rgX1_winsBy hq1) <| At.bifeq_f (tgt := 52) dX1_firstStreet_47 (by decide) c3 <| ?_
        obtain rfl := Option.some.inj h
        exact At.sub [3] rfl (K50 rfl)
      · refine At.cV1 (av := [vi l3, vi l2, vi l1]) (rest := []) mv_X1_winsBy lk_X1_62 dX1_firstStreet_44 rfl rfl sh_54 (Nat.le_of_ble_eq_true rfl) (by decide) ⟨rfl, rfl⟩ (rgX1_winsBy hq1) <| At.bifeq_t (tgt := 52) dX1_firstStreet_47 (by decide) c3 <| ?_
        obtain ⟨x2, hx2, h⟩ := lt_e h
        refine At.iinc (ls' := [(3, vi x2), (0, vr 54), (1, vi l1), (2, vi l2)]) dX1_firstStreet_52 rfl (by decide) (by rw [hx2]; rfl) <| At.goto (tgt := 26) dX1_firstStreet_55 (by decide) <| ?_
        exact At.sub [1, 2, 3, 0] rfl (ih _ _ _ h K50 K58)
set_option maxRecDepth 100000 in
set_option maxHeartbeats 4000000 in
theorem rX1_firstStreet {G : GG} {S : SS} {rr : (Int × SS)} (h : fX1_firstStreet  S = some rr) : RD G mX1_firstStreet 19 [vr 54] S (some (vi rr.1)) rr.2 := by
  unfold fX1_firstStreet at h
  refine Runs.of pl_X1 (Nat.le_of_ble_eq_true rfl) ?_
  show At G mX1_firstStreet 19 0 [(0, vr 54)] [] (mm S) 0 0 (EQ (some (vi rr.1)) rr.2)
  refine At.aloadn dX1_firstStreet_0 rfl <| ?_
  obtain ⟨q1, hq1, h⟩ := bnd_e h
  rcases ite_e h with ⟨c7, h⟩ | ⟨c7, h⟩
  · refine At.cV1 (av := []) (rest := []) mv_X1_fewestTurns lk_X1_50 dX1_firstStreet_1 rfl rfl sh_54 (Nat.le_of_ble_eq_true rfl) (by decide) ⟨rfl, rfl⟩ (rX1_fewestTurns hq1) <| At.istoren (ls' := [(1, vi q1.1), (0, vr 54)]) dX1_firstStreet_4 (by decide) rfl <| At.iloadn dX1_firstStreet_5 rfl <| At.iconst dX1_firstStreet_6 (by decide) <| At.icmp_ge_t (tgt := 12) dX1_firstStreet_7 (by decide) c7 <| ?_
    refine At.aloadn dX1_firstStreet_12 rfl <| At.getR fl_X1_12 sh_54 (le149 sh_54) rf_54_1 dX1_firstStreet_13 <| At.aloadn dX1_firstStreet_16 rfl <| At.getI fl_X1_32 sh_54 (le149 sh_54) dX1_firstStreet_17 <| ?_
    obtain ⟨q2, hq2, h⟩ := bnd_e h
    refine At.cV1 (av := [vi (q1.2 54 2)]) (rest := []) mv_X6_spotOf lk_X1_42 dX1_firstStreet_20 rfl rfl sh_55 (Nat.le_of_ble_eq_true rfl) (by decide) ⟨rfl, rfl⟩ (rX6_spotOf sh_55 hq2) <| At.istoren (ls' := [(2, vi q2), (1, vi q1.1), (0, vr 54)]) dX1_firstStreet_23 (by decide) rfl <| At.iconst dX1_firstStreet_24 (by decide) <| At.istoren (ls' := [(3, vi 0), (2, vi q2), (1, vi q1.1), (0, vr 54)]) dX1_firstStreet_25 (by decide) rfl <| ?_
    obtain ⟨q3, ho4, h⟩ := bnd_e h
    refine At.sub [3, 2, 1, 0] rfl (lX1_firstStreet_L26 FU _ _ q3 ho4 (fun hq => ?_) (fun hq => ?_))
    · rw [if_pos hq] at h
      refine At.iloadn dX1_firstStreet_50 rfl <| ?_
      obtain rfl := Option.some.inj h
      exact At.iret rfl (Nat.zero_le _) (Nat.zero_le _) ⟨rfl, rfl⟩ dX1_firstStreet_51
    · rw [if_neg (by omega)] at h
      refine At.aloadn dX1_firstStreet_58 rfl <| At.bipush dX1_firstStreet_59 (by decide) <| At.iloadn dX1_firstStreet_61 rfl <| At.iloadn dX1_firstStreet_62 rfl <| ?_
      obtain ⟨q5, hq5, h⟩ := bnd_e h
      rcases ite_e h with ⟨c6, h⟩ | ⟨c6, h⟩
      · refine At.cV1 (av := [vi 99, vi q2, vi q1.1]) (rest := []) mv_X1_winsBy lk_X1_62 dX1_firstStreet_63 rfl rfl sh_54 (Nat.le_of_ble_eq_true rfl) (by decide) ⟨rfl, rfl⟩ (rgX1_winsBy hq5) <| At.bifeq_f (tgt := 74) dX1_firstStreet_66 (by decide) c6 <| ?_
        refine At.bipush dX1_firstStreet_69 (by decide) <| At.goto (tgt := 75) dX1_firstStreet_71 (by decide) <| ?_
        obtain rfl := Option.some.inj h
        exact At.iret rfl (Nat.zero_le _) (Nat.zero_le _) ⟨rfl, rfl⟩ dX1_firstStreet_75
      · refine At.cV1 (av := [vi 99, vi q2, vi q1.1]) (rest := []) mv_X1_winsBy lk_X1_62 dX1_firstStreet_63 rfl rfl sh_54 (Nat.le_of_ble_eq_true rfl) (by decide) ⟨rfl, rfl⟩ (rgX1_winsBy hq5) <| At.bifeq_t (tgt := 74) dX1_firstStreet_66 (by decide) c6 <| ?_
        refine At.iconst dX1_firstStreet_74 (by decide) <| ?_
        obtain rfl := Option.some.inj h
        exact At.iret rfl (Nat.zero_le _) (Nat.zero_le _) ⟨rfl, rfl⟩ dX1_firstStreet_75
  · refine At.cV1 (av := []) (rest := []) mv_X1_fewestTurns lk_X1_50 dX1_firstStreet_1 rfl rfl sh_54 (Nat.le_of_ble_eq_true rfl) (by decide) ⟨rfl, rfl⟩ (rX1_fewestTurns hq1) <| At.istoren (ls' := [(1, vi q1.1), (0, vr 54)]) dX1_firstStreet_4 (by decide) rfl <| At.iloadn dX1_firstStreet_5 rfl <| At.iconst dX1_firstStreet_6 (by decide) <| At.icmp_ge_f (tgt := 12) dX1_firstStreet_7 (by decide) c7 <| ?_
    refine At.iconst dX1_firstStreet_10 (by decide) <| ?_
    obtain rfl := Option.some.inj h
    exact At.iret rfl (Nat.zero_le _) (Nat.zero_le _) ⟨rfl, rfl⟩ dX1_firstStreet_11
def fX11_best (p1 : Int) (p2 : Int) (S : SS) : Option (Int × SS) :=
  Option.bind (fX8_hasGoer 2 p1 S) fun q1 =>
  if q1 = true then (
    Option.bind (fX8_hasCorner 2 p2 S) fun q2 =>
    if q2 = true then (
      Option.bind (fX1_begin p1 p2 7 S) fun q3 =>
      Option.bind (fX1_firstStreet  q3) fun q4 =>
      some (q4.1, q4.2)
    ) else (
      some ((-2), S)
    )
  ) else (
    some ((-2), S)
  )
set_option maxRecDepth 100000 in
set_option maxHeartbeats 4000000 in
theorem rX11_best {G : GG} {p1 : Int} {p2 : Int} {S : SS} {rr : (Int × SS)} (h : fX11_best p1 p2 S = some rr) : RD G mX11_best 20 [vr 1, vi p1, vi p2] S (some (vi rr.1)) rr.2 := by
  unfold fX11_best at h
  refine Runs.of pl_X11 (Nat.le_of_ble_eq_true rfl) ?_
  show At G mX11_best 20 0 [(0, vr 1), (1, vi p1), (2, vi p2)] [] (mm S) 0 0 (EQ (some (vi rr.1)) rr.2)
  refine At.aloadn dX11_best_0 rfl <| At.getR fl_X11_12 sh_1 (le149 sh_1) rf_1_0 dX11_best_1 <| At.iloadn dX11_best_4 rfl <| ?_
  obtain ⟨q1, hq1, h⟩ := bnd_e h
  rcases ite_e h with ⟨c6, h⟩ | ⟨c6, h⟩
  · refine At.cV1 (av := [vi p1]) (rest := []) mv_X8_hasGoer lk_X11_148 dX11_best_5 rfl rfl sh_2 (Nat.le_of_ble_eq_true rfl) (by decide) ⟨rfl, rfl⟩ (rX8_hasGoer sh_2 hq1) <| At.bifeq_f (tgt := 22) dX11_best_8 (by decide) c6 <| ?_
    refine At.aloadn dX11_best_11 rfl <| At.getR fl_X11_12 sh_1 (le149 sh_1) rf_1_0 dX11_best_12 <| At.iloadn dX11_best_15 rfl <| ?_
    obtain ⟨q2, hq2, h⟩ := bnd_e h
    rcases ite_e h with ⟨c5, h⟩ | ⟨c5, h⟩
    · refine At.cV1 (av := [vi p2]) (rest := []) mv_X8_hasCorner lk_X11_253 dX11_best_16 rfl rfl sh_2 (Nat.le_of_ble_eq_true rfl) (by decide) ⟨rfl, rfl⟩ (rX8_hasCorner sh_2 hq2) <| At.bifne_t (tgt := 25) dX11_best_19 (by decide) c5 <| ?_
      refine At.aloadn dX11_best_25 rfl <| At.getR fl_X11_79 sh_1 (le149 sh_1) rf_1_10 dX11_best_26 <| At.iloadn dX11_best_29 rfl <| At.iloadn dX11_best_30 rfl <| At.aloadn dX11_best_31 rfl <| At.getR fl_X11_20 sh_1 (le149 sh_1) rf_1_1 dX11_best_32 <| ?_
      obtain ⟨q3, hq3, h⟩ := bnd_e h
      refine At.cV0 (av := [vi p1, vi p2, vr 7]) (rest := []) mv_X1_begin lk_X11_353 dX11_best_35 rfl rfl sh_54 (Nat.le_of_ble_eq_true rfl) (by decide) ⟨rfl, rfl⟩ (rX1_begin sh_7 hq3) <| At.aloadn dX11_best_38 rfl <| At.getR fl_X11_79 sh_1 (le149 sh_1) rf_1_10 dX11_best_39 <| ?_
      obtain ⟨q4, hq4, h⟩ := bnd_e h
      refine At.cV1 (av := []) (rest := []) mv_X1_firstStreet lk_X11_359 dX11_best_42 rfl rfl sh_54 (Nat.le_of_ble_eq_true rfl) (by decide) ⟨rfl, rfl⟩ (rX1_firstStreet hq4) <| ?_
      obtain rfl := Option.some.inj h
      exact At.iret rfl (Nat.zero_le _) (Nat.zero_le _) ⟨rfl, rfl⟩ dX11_best_45
    · refine At.cV1 (av := [vi p2]) (rest := []) mv_X8_hasCorner lk_X11_253 dX11_best_16 rfl rfl sh_2 (Nat.le_of_ble_eq_true rfl) (by decide) ⟨rfl, rfl⟩ (rX8_hasCorner sh_2 hq2) <| At.bifne_f (tgt := 25) dX11_best_19 (by decide) c5 <| ?_
      refine At.bipush dX11_best_22 (by decide) <| ?_
      obtain rfl := Option.some.inj h
      exact At.iret rfl (Nat.zero_le _) (Nat.zero_le _) ⟨rfl, rfl⟩ dX11_best_24
  · refine At.cV1 (av := [vi p1]) (rest := []) mv_X8_hasGoer lk_X11_148 dX11_best_5 rfl rfl sh_2 (Nat.le_of_ble_eq_true rfl) (by decide) ⟨rfl, rfl⟩ (rX8_hasGoer sh_2 hq1) <| At.bifeq_t (tgt := 22) dX11_best_8 (by decide) c6 <| ?_
    refine At.bipush dX11_best_22 (by decide) <| ?_
    obtain rfl := Option.some.inj h
    exact At.iret rfl (Nat.zero_le _) (Nat.zero_le _) ⟨rfl, rfl⟩ dX11_best_24
def fX11_commonDivisor_L9 : Nat → Int → Int → Int → Option (Int)
  | 0, _, _, _ => none
  | n + 1, l4, l6, l8 =>
    if 128 ≤ l8 then (
      some l4
    ) else (
      if (lc l6 0) = 0 then (
        some l4
      ) else (
        nz l6 <|
        lt (Int.tmod l4 l6) fun x2 =>
        lt (w32 (l8 + 1)) fun x3 =>
        fX11_commonDivisor_L9 n l6 x2 x3
      )
    )
def fX11_commonDivisor (p0 : Int) (p2 : Int) : Option Int :=
  Option.bind (fX11_commonDivisor_L9 FU p0 p2 0) fun q1 =>
  some q1
set_option maxRecDepth 100000 in
set_option maxHeartbeats 4000000 in
theorem lX11_commonDivisor_L9 {G : GG} {Φ : Option VV → MM → Prop} {S : SS} : ∀ (n : Nat) (l4 : Int) (l6 : Int) (l8 : Int) (q : Int), fX11_commonDivisor_L9 n l4 l6 l8 = some q → At G mX11_commonDivisor 1 45 [(4, vl q)] [] (mm S) 0 0 Φ → At G mX11_commonDivisor 1 9 [(4, vl l4), (6, vl l6), (8, vi l8)] [] (mm S) 0 0 Φ := by
  intro n
  induction n with
  | zero =>
    intro _ _ _ _ h
    cases h
  | succ n ih =>
    intro l4 l6 l8 q h K45
    unfold fX11_commonDivisor_L9 at h
    rcases ite_e h with ⟨c5, h⟩ | ⟨c5, h⟩
    · refine At.iload dX11_commonDivisor_9 rfl <| At.sipush dX11_commonDivisor_11 (by decide) <| At.icmp_ge_t (tgt := 45) dX11_commonDivisor_14 (by decide) c5 <| ?_
      obtain rfl := Option.some.inj h
      exact At.sub [0] rfl K45
    · refine At.iload dX11_commonDivisor_9 rfl <| At.sipush dX11_commonDivisor_11 (by decide) <| At.icmp_ge_f (tgt := 45) dX11_commonDivisor_14 (by decide) c5 <| ?_
      rcases ite_e h with ⟨c4, h⟩ | ⟨c4, h⟩
      · refine At.lload dX11_commonDivisor_17 rfl <| At.lconst0 dX11_commonDivisor_19 <| At.lcmp dX11_commonDivisor_20 <| At.if_eq_t (tgt := 45) dX11_commonDivisor_21 (by decide) c4 <| ?_
        obtain rfl := Option.some.inj h
        exact At.sub [0] rfl K45
      · refine At.lload dX11_commonDivisor_17 rfl <| At.lconst0 dX11_commonDivisor_19 <| At.lcmp dX11_commonDivisor_20 <| At.if_eq_f (tgt := 45) dX11_commonDivisor_21 (by decide) c4 <| ?_
        refine At.lload dX11_commonDivisor_24 rfl <| At.lload dX11_commonDivisor_26 rfl <| ?_
        obtain ⟨g1, h⟩ := nz_e h
        refine At.lrem dX11_commonDivisor_28 g1 <| ?_
        obtain ⟨x2, hx2, h⟩ := lt_e h
        refine At.nml hx2 <| At.lstore (ls' := [(9, vl x2), (4, vl l4), (6, vl l6), (8, vi l8)]) dX11_commonDivisor_29 (by decide) rfl <| At.lload dX11_commonDivisor_31 rfl <| At.lstore (ls' := [(4, vl l6), (9, vl x2), (6, vl l6), (8, vi l8)]) dX11_commonDivisor_33 (by decide) rfl <| At.lload dX11_commonDivisor_35 rfl <| At.lstore (ls' := [(6, vl x2), (4, vl l6), (9, vl x2), (8, vi l8)]) dX11_commonDivisor_37 (by decide) rfl <| ?_
        obtain ⟨x3, hx3, h⟩ := lt_e h
        refine At.iinc (ls' := [(8, vi x3), (6, vl x2), (4, vl l6), (9, vl x2)]) dX11_commonDivisor_39 rfl (by decide) (by rw [hx3]; rfl) <| At.goto (tgt := 9) dX11_commonDivisor_42 (by decide) <| ?_
        exact At.sub [2, 1, 0] rfl (ih _ _ _ _ h K45)
set_option maxRecDepth 100000 in
set_option maxHeartbeats 4000000 in
theorem rX11_commonDivisor {G : GG} {p0 : Int} {p2 : Int} {S : SS} {rr : Int} (h : fX11_commonDivisor p0 p2 = some rr) : RD G mX11_commonDivisor 1 [vl p0, vl p2] S (some (vl rr)) S := by
  unfold fX11_commonDivisor at h
  refine Runs.of pl_X11 (Nat.le_of_ble_eq_true rfl) ?_
  show At G mX11_commonDivisor 1 0 [(0, vl p0), (2, vl p2)] [] (mm S) 0 0 (EQ (some (vl rr)) S)
  refine At.lloadn dX11_commonDivisor_0 rfl <| At.lstore (ls' := [(4, vl p0), (0, vl p0), (2, vl p2)]) dX11_commonDivisor_1 (by decide) rfl <| At.lloadn dX11_commonDivisor_3 rfl <| At.lstore (ls' := [(6, vl p2), (4, vl p0), (0, vl p0), (2, vl p2)]) dX11_commonDivisor_4 (by decide) rfl <| At.iconst dX11_commonDivisor_6 (by decide) <| At.istore (ls' := [(8, vi 0), (6, vl p2), (4, vl p0), (0, vl p0), (2, vl p2)]) dX11_commonDivisor_7 (by decide) rfl <| ?_
  obtain ⟨q1, ho2, h⟩ := bnd_e h
  refine At.sub [2, 1, 0] rfl (lX11_commonDivisor_L9 FU _ _ _ q1 ho2 ?_)
  refine At.lload dX11_commonDivisor_45 rfl <| ?_
  obtain rfl := Option.some.inj h
  exact At.lret rfl (Nat.zero_le _) (Nat.zero_le _) ⟨rfl, rfl⟩ dX11_commonDivisor_47
def fX11_inLowestTerms (p0 : Int) (p2 : Int) (p4 : Int) : Option Int :=
  Option.bind (fX11_commonDivisor p0 p2) fun q1 =>
  if 0 ≤ (lc q1 1) then (
    Option.bind (
      if p4 = 0 then (
        some p0
      ) else (
        some p2
      )
      : Option (Int)) fun q2 =>
    nz q1 <|
    some (w32 (w64 (Int.tdiv q2 q1)))
  ) else (
    some 0
  )
set_option maxRecDepth 100000 in
set_option maxHeartbeats 4000000 in
theorem rX11_inLowestTerms {G : GG} {p0 : Int} {p2 : Int} {p4 : Int} {S : SS} {rr : Int} (h : fX11_inLowestTerms p0 p2 p4 = some rr) : RD G mX11_inLowestTerms 2 [vl p0, vl p2, vi p4] S (some (vi rr)) S := by
  unfold fX11_inLowestTerms at h
  refine Runs.of pl_X11 (Nat.le_of_ble_eq_true rfl) ?_
  show At G mX11_inLowestTerms 2 0 [(0, vl p0), (2, vl p2), (4, vi p4)] [] (mm S) 0 0 (EQ (some (vi rr)) S)
  refine At.lloadn dX11_inLowestTerms_0 rfl <| At.lloadn dX11_inLowestTerms_1 rfl <| ?_
  obtain ⟨q1, hq1, h⟩ := bnd_e h
  rcases ite_e h with ⟨c5, h⟩ | ⟨c5, h⟩
  · refine At.cS1 (av := [vl p0, vl p2]) (rest := []) ms_X11_commonDivisor lk_X11_374 dX11_inLowestTerms_2 rfl rfl (Nat.le_of_ble_eq_true rfl) (by decide) ⟨rfl, rfl⟩ (rX11_commonDivisor hq1) <| At.lstore (ls' := [(5, vl q1), (0, vl p0), (2, vl p2), (4, vi p4)]) dX11_inLowestTerms_5 (by decide) rfl <| At.lload dX11_inLowestTerms_7 rfl <| At.lconst1 dX11_inLowestTerms_9 <| At.lcmp dX11_inLowestTerms_10 <| At.if_ge_t (tgt := 16) dX11_inLowestTerms_11 (by decide) c5 <| ?_
    obtain ⟨q2, hj26, h⟩ := bnd_e h
    have K26 : At G mX11_inLowestTerms 2 26 [(5, vl q1)] [vl q2] (mm S) 0 0 (EQ (some (vi rr)) S) := by
      refine At.lload dX11_inLowestTerms_26 rfl <| ?_
      obtain ⟨g4, h⟩ := nz_e h
      refine At.ldiv dX11_inLowestTerms_28 g4 <| At.l2i dX11_inLowestTerms_29 <| ?_
      obtain rfl := Option.some.inj h
      exact At.iret rfl (Nat.zero_le _) (Nat.zero_le _) ⟨rfl, rfl⟩ dX11_inLowestTerms_30
    clear h; have h := hj26; clear hj26
    rcases ite_e h with ⟨c3, h⟩ | ⟨c3, h⟩
    · refine At.iload dX11_inLowestTerms_16 rfl <| At.if_ne_f (tgt := 25) dX11_inLowestTerms_18 (by decide) c3 <| ?_
      refine At.lloadn dX11_inLowestTerms_21 rfl <| At.goto (tgt := 26) dX11_inLowestTerms_22 (by decide) <| ?_
      obtain rfl := Option.some.inj h
      exact At.sub [0] rfl K26
    · refine At.iload dX11_inLowestTerms_16 rfl <| At.if_ne_t (tgt := 25) dX11_inLowestTerms_18 (by decide) c3 <| ?_
      refine At.lloadn dX11_inLowestTerms_25 rfl <| ?_
      obtain rfl := Option.some.inj h
      exact At.sub [0] rfl K26
  · refine At.cS1 (av := [vl p0, vl p2]) (rest := []) ms_X11_commonDivisor lk_X11_374 dX11_inLowestTerms_2 rfl rfl (Nat.le_of_ble_eq_true rfl) (by decide) ⟨rfl, rfl⟩ (rX11_commonDivisor hq1) <| At.lstore (ls' := [(5, vl q1), (0, vl p0), (2, vl p2), (4, vi p4)]) dX11_inLowestTerms_5 (by decide) rfl <| At.lload dX11_inLowestTerms_7 rfl <| At.lconst1 dX11_inLowestTerms_9 <| At.lcmp dX11_inLowestTerms_10 <| At.if_ge_f (tgt := 16) dX11_inLowestTerms_11 (by decide) c5 <| ?_
    refine At.iconst dX11_inLowestTerms_14 (by decide) <| ?_
    obtain rfl := Option.some.inj h
    exact At.iret rfl (Nat.zero_le _) (Nat.zero_le _) ⟨rfl, rfl⟩ dX11_inLowestTerms_15
def fX11_chance (p1 : Int) (p2 : Int) (p3 : Int) (p4 : Int) (S : SS) : Option (Int × SS) :=
  Option.bind (fX8_hasGoer 2 p1 S) fun q1 =>
  if q1 = true then (
    Option.bind (fX8_hasCorner 2 p2 S) fun q2 =>
    if q2 = true then (
      if p4 < 0 then (
        some ((-2), S)
      ) else (
        if p4 ≤ 1 then (
          if p3 < 0 then (
            some ((-3), S)
          ) else (
            if p3 ≤ 6 then (
              Option.bind (fX6_spotOf 7 p1 S) fun q3 =>
              Option.bind (fX7_countWays p1 q3 p3 7 1 S) fun q4 =>
              Option.bind (fX7_at p2 ((-1)) q4) fun q5 =>
              Option.bind (fX11_inLowestTerms q5 (q4 51 3) p4) fun q6 =>
              some (q6, q4)
            ) else (
              some ((-3), S)
            )
          )
        ) else (
          some ((-2), S)
        )
      )
    ) else (
      some ((-2), S)
    )
  ) else (
    some ((-2), S)
  )
set_option maxRecDepth 100000 in
set_option maxHeartbeats 4000000 in
theorem rX11_chance {G : GG} {p1 : Int} {p2 : Int} {p3 : Int} {p4 : Int} {S : SS} {rr : (Int × SS)} (h : fX11_chance p1 p2 p3 p4 S = some rr) : RD G mX11_chance 7 [vr 1, vi p1, vi p2, vi p3, vi p4] S (some (vi rr.1)) rr.2 := by
  unfold fX11_chance at h
  refine Runs.of pl_X11 (Nat.le_of_ble_eq_true rfl) ?_
  show At G mX11_chance 7 0 [(0, vr 1), (1, vi p1), (2, vi p2), (3, vi p3), (4, vi p4)] [] (mm S) 0 0 (EQ (some (vi rr.1)) rr.2)
  refine At.aloadn dX11_chance_0 rfl <| At.getR fl_X11_12 sh_1 (le149 sh_1) rf_1_0 dX11_chance_1 <| At.iloadn dX11_chance_4 rfl <| ?_
  obtain ⟨q1, hq1, h⟩ := bnd_e h
  rcases ite_e h with ⟨c12, h⟩ | ⟨c12, h⟩
  · refine At.cV1 (av := [vi p1]) (rest := []) mv_X8_hasGoer lk_X11_148 dX11_chance_5 rfl rfl sh_2 (Nat.le_of_ble_eq_true rfl) (by decide) ⟨rfl, rfl⟩ (rX8_hasGoer sh_2 hq1) <| At.bifeq_f (tgt := 33) dX11_chance_8 (by decide) c12 <| ?_
    refine At.aloadn dX11_chance_11 rfl <| At.getR fl_X11_12 sh_1 (le149 sh_1) rf_1_0 dX11_chance_12 <| At.iloadn dX11_chance_15 rfl <| ?_
    obtain ⟨q2, hq2, h⟩ := bnd_e h
    rcases ite_e h with ⟨c11, h⟩ | ⟨c11, h⟩
    · refine At.cV1 (av := [vi p2]) (rest := []) mv_X8_hasCorner lk_X11_253 dX11_chance_16 rfl rfl sh_2 (Nat.le_of_ble_eq_true rfl) (by decide) ⟨rfl, rfl⟩ (rX8_hasCorner sh_2 hq2) <| At.bifeq_f (tgt := 33) dX11_chance_19 (by decide) c11 <| ?_
      rcases ite_e h with ⟨c10, h⟩ | ⟨c10, h⟩
      · refine At.iload dX11_chance_22 rfl <| At.if_lt_t (tgt := 33) dX11_chance_24 (by decide) c10 <| ?_
        refine At.bipush dX11_chance_33 (by decide) <| ?_
        obtain rfl := Option.some.inj h
        exact At.iret rfl (Nat.zero_le _) (Nat.zero_le _) ⟨rfl, rfl⟩ dX11_chance_35
      · refine At.iload dX11_chance_22 rfl <| At.if_lt_f (tgt := 33) dX11_chance_24 (by decide) c10 <| ?_
        rcases ite_e h with ⟨c9, h⟩ | ⟨c9, h⟩
        · refine At.iload dX11_chance_27 rfl <| At.iconst dX11_chance_29 (by decide) <| At.icmp_le_t (tgt := 36) dX11_chance_30 (by decide) c9 <| ?_
          rcases ite_e h with ⟨c8, h⟩ | ⟨c8, h⟩
          · refine At.iloadn dX11_chance_36 rfl <| At.if_lt_t (tgt := 46) dX11_chance_37 (by decide) c8 <| ?_
            refine At.bipush dX11_chance_46 (by decide) <| ?_
            obtain rfl := Option.some.inj h
            exact At.iret rfl (Nat.zero_le _) (Nat.zero_le _) ⟨rfl, rfl⟩ dX11_chance_48
          · refine At.iloadn dX11_chance_36 rfl <| At.if_lt_f (tgt := 46) dX11_chance_37 (by decide) c8 <| ?_
            rcases ite_e h with ⟨c7, h⟩ | ⟨c7, h⟩
            · refine At.iloadn dX11_chance_40 rfl <| At.bipush dX11_chance_41 (by decide) <| At.icmp_le_t (tgt := 49) dX11_chance_43 (by decide) c7 <| ?_
              refine At.aloadn dX11_chance_49 rfl <| At.getR fl_X11_72 sh_1 (le149 sh_1) rf_1_9 dX11_chance_50 <| At.iloadn dX11_chance_53 rfl <| At.aloadn dX11_chance_54 rfl <| At.getR fl_X11_20 sh_1 (le149 sh_1) rf_1_1 dX11_chance_55 <| At.iloadn dX11_chance_58 rfl <| ?_
              obtain ⟨q3, hq3, h⟩ := bnd_e h
              refine At.cV1 (av := [vi p1]) (rest := [vi p1, vr 51]) mv_X6_spotOf lk_X11_163 dX11_chance_59 rfl rfl sh_7 (Nat.le_of_ble_eq_true rfl) (by decide) ⟨rfl, rfl⟩ (rX6_spotOf sh_7 hq3) <| At.iloadn dX11_chance_62 rfl <| At.aloadn dX11_chance_63 rfl <| At.getR fl_X11_20 sh_1 (le149 sh_1) rf_1_1 dX11_chance_64 <| At.iconst dX11_chance_67 (by decide) <| ?_
              obtain ⟨q4, hq4, h⟩ := bnd_e h
              refine At.cV0 (av := [vi p1, vi q3, vi p3, vr 7, vi 1]) (rest := []) mv_X7_countWays lk_X11_245 dX11_chance_68 rfl rfl sh_51 (Nat.le_of_ble_eq_true rfl) (by decide) ⟨rfl, rfl⟩ (rX7_countWays sh_7 hq4) <| At.aloadn dX11_chance_71 rfl <| At.getR fl_X11_72 sh_1 (le149 sh_1) rf_1_9 dX11_chance_72 <| At.iloadn dX11_chance_75 rfl <| At.iconst dX11_chance_76 (by decide) <| ?_
              obtain ⟨q5, hq5, h⟩ := bnd_e h
              refine At.cV1 (av := [vi p2, vi ((-1))]) (rest := []) mv_X7_at lk_X11_249 dX11_chance_77 rfl rfl sh_51 (Nat.le_of_ble_eq_true rfl) (by decide) ⟨rfl, rfl⟩ (rX7_at hq5) <| At.aloadn dX11_chance_80 rfl <| At.getR fl_X11_72 sh_1 (le149 sh_1) rf_1_9 dX11_chance_81 <| At.getL fl_X11_362 sh_51 (le149 sh_51) dX11_chance_84 <| At.iload dX11_chance_87 rfl <| ?_
              obtain ⟨q6, hq6, h⟩ := bnd_e h
              refine At.cS1 (av := [vl q5, vl (q4 51 3), vi p4]) (rest := []) ms_X11_inLowestTerms lk_X11_366 dX11_chance_89 rfl rfl (Nat.le_of_ble_eq_true rfl) (by decide) ⟨rfl, rfl⟩ (rX11_inLowestTerms hq6) <| ?_
              obtain rfl := Option.some.inj h
              exact At.iret rfl (Nat.zero_le _) (Nat.zero_le _) ⟨rfl, rfl⟩ dX11_chance_92
            · refine At.iloadn dX11_chance_40 rfl <| At.bipush dX11_chance_41 (by decide) <| At.icmp_le_f (tgt := 49) dX11_chance_43 (by decide) c7 <| ?_
              refine At.bipush dX11_chance_46 (by decide) <| ?_
              obtain rfl := Option.some.inj h
              exact At.iret rfl (Nat.zero_le _) (Nat.zero_le _) ⟨rfl, rfl⟩ dX11_chance_48
        · refine At.iload dX11_chance_27 rfl <| At.iconst dX11_chance_29 (by decide) <| At.icmp_le_f (tgt := 36) dX11_chance_30 (by decide) c9 <| ?_
          refine At.bipush dX11_chance_33 (by decide) <| ?_
          obtain rfl := Option.some.inj h
          exact At.iret rfl (Nat.zero_le _) (Nat.zero_le _) ⟨rfl, rfl⟩ dX11_chance_35
    · refine At.cV1 (av := [vi p2]) (rest := []) mv_X8_hasCorner lk_X11_253 dX11_chance_16 rfl rfl sh_2 (Nat.le_of_ble_eq_true rfl) (by decide) ⟨rfl, rfl⟩ (rX8_hasCorner sh_2 hq2) <| At.bifeq_t (tgt := 33) dX11_chance_19 (by decide) c11 <| ?_
      refine At.bipush dX11_chance_33 (by decide) <| ?_
      obtain rfl := Option.some.inj h
      exact At.iret rfl (Nat.zero_le _) (Nat.zero_le _) ⟨rfl, rfl⟩ dX11_chance_35
  · refine At.cV1 (av := [vi p1]) (rest := []) mv_X8_hasGoer lk_X11_148 dX11_chance_5 rfl rfl sh_2 (Nat.le_of_ble_eq_true rfl) (by decide) ⟨rfl, rfl⟩ (rX8_hasGoer sh_2 hq1) <| At.bifeq_t (tgt := 33) dX11_chance_8 (by decide) c12 <| ?_
    refine At.bipush dX11_chance_33 (by decide) <| ?_
    obtain rfl := Option.some.inj h
    exact At.iret rfl (Nat.zero_le _) (Nat.zero_le _) ⟨rfl, rfl⟩ dX11_chance_35
def fX7_yearsInAll_L4 (S : SS) : Nat → Int → Int → Option (Int)
  | 0, _, _ => none
  | n + 1, l1, l3 =>
    if 120 ≤ l3 then (
      some l1
    ) else (
      rdA S 52 120 l3 fun v1 =>
      lt (w64 (l1 + (w64 (v1 * (Int.tmod l3 20))))) fun x3 =>
      lt (w32 (l3 + 1)) fun x4 =>
      fX7_yearsInAll_L4 S n x3 x4
    )
def fX7_yearsInAll (S : SS) : Option Int :=
  Option.bind (fX7_yearsInAll_L4 S FU 0 0) fun q1 =>
  some q1
set_option maxRecDepth 100000 in
set_option maxHeartbeats 4000000 in
theorem lX7_yearsInAll_L4 {G : GG} {Φ : Option VV → MM → Prop} {S : SS} : ∀ (n : Nat) (l1 : Int) (l3 : Int) (q : Int), fX7_yearsInAll_L4 S n l1 l3 = some q → At G mX7_yearsInAll 1 31 [(1, vl q)] [] (mm S) 0 0 Φ → At G mX7_yearsInAll 1 4 [(0, vr 51), (1, vl l1), (3, vi l3)] [] (mm S) 0 0 Φ := by
  intro n
  induction n with
  | zero =>
    intro _ _ _ h
    cases h
  | succ n ih =>
    intro l1 l3 q h K31
    unfold fX7_yearsInAll_L4 at h
    rcases ite_e h with ⟨c5, h⟩ | ⟨c5, h⟩
    · refine At.iloadn dX7_yearsInAll_4 rfl <| At.bipush dX7_yearsInAll_5 (by decide) <| At.icmp_ge_t (tgt := 31) dX7_yearsInAll_7 (by decide) c5 <| ?_
      obtain rfl := Option.some.inj h
      exact At.sub [1] rfl K31
    · refine At.iloadn dX7_yearsInAll_4 rfl <| At.bipush dX7_yearsInAll_5 (by decide) <| At.icmp_ge_f (tgt := 31) dX7_yearsInAll_7 (by decide) c5 <| ?_
      refine At.lloadn dX7_yearsInAll_10 rfl <| At.aloadn dX7_yearsInAll_11 rfl <| At.getR fl_X7_9 sh_51 (le149 sh_51) rf_51_1 dX7_yearsInAll_12 <| At.iloadn dX7_yearsInAll_15 rfl <| ?_
      obtain ⟨v1, hv1, g2, h⟩ := rdA_e h
      refine At.lald sh_52 (le149 sh_52) g2.1 g2.2 dX7_yearsInAll_16 <| At.nml hv1 <| At.iloadn dX7_yearsInAll_17 rfl <| At.bipush dX7_yearsInAll_18 (by decide) <| At.irem dX7_yearsInAll_20 (by decide) <| At.i2l dX7_yearsInAll_21 <| At.lmul dX7_yearsInAll_22 <| At.ladd dX7_yearsInAll_23 <| ?_
      obtain ⟨x3, hx3, h⟩ := lt_e h
      refine At.nml hx3 <| At.lstoren (ls' := [(1, vl x3), (0, vr 51), (3, vi l3)]) dX7_yearsInAll_24 (by decide) rfl <| ?_
      obtain ⟨x4, hx4, h⟩ := lt_e h
      refine At.iinc (ls' := [(3, vi x4), (1, vl x3), (0, vr 51)]) dX7_yearsInAll_25 rfl (by decide) (by rw [hx4]; rfl) <| At.goto (tgt := 4) dX7_yearsInAll_28 (by decide) <| ?_
      exact At.sub [2, 1, 0] rfl (ih _ _ _ h K31)
set_option maxRecDepth 100000 in
set_option maxHeartbeats 4000000 in
theorem rX7_yearsInAll {G : GG} {S : SS} {rr : Int} (h : fX7_yearsInAll  S = some rr) : RD G mX7_yearsInAll 1 [vr 51] S (some (vl rr)) S := by
  unfold fX7_yearsInAll at h
  refine Runs.of pl_X7 (Nat.le_of_ble_eq_true rfl) ?_
  show At G mX7_yearsInAll 1 0 [(0, vr 51)] [] (mm S) 0 0 (EQ (some (vl rr)) S)
  refine At.lconst0 dX7_yearsInAll_0 <| At.lstoren (ls' := [(1, vl 0), (0, vr 51)]) dX7_yearsInAll_1 (by decide) rfl <| At.iconst dX7_yearsInAll_2 (by decide) <| At.istoren (ls' := [(3, vi 0), (1, vl 0), (0, vr 51)]) dX7_yearsInAll_3 (by decide) rfl <| ?_
  obtain ⟨q1, ho2, h⟩ := bnd_e h
  refine At.sub [2, 1, 0] rfl (lX7_yearsInAll_L4 FU _ _ q1 ho2 ?_)
  refine At.lloadn dX7_yearsInAll_31 rfl <| ?_
  obtain rfl := Option.some.inj h
  exact At.lret rfl (Nat.zero_le _) (Nat.zero_le _) ⟨rfl, rfl⟩ dX7_yearsInAll_32
def fX11_mean (p1 : Int) (p2 : Int) (p3 : Int) (S : SS) : Option (Int × SS) :=
  Option.bind (fX8_hasGoer 2 p1 S) fun q1 =>
  if q1 = true then (
    if p3 < 0 then (
      some ((-2), S)
    ) else (
      if p3 ≤ 1 then (
        if p2 < 0 then (
          some ((-3), S)
        ) else (
          if p2 ≤ 6 then (
            Option.bind (fX6_spotOf 7 p1 S) fun q2 =>
            Option.bind (fX7_countWays p1 q2 p2 7 1 S) fun q3 =>
            Option.bind (fX7_yearsInAll  q3) fun q4 =>
            Option.bind (fX11_inLowestTerms q4 (q3 51 3) p3) fun q5 =>
            some (q5, q3)
          ) else (
            some ((-3), S)
          )
        )
      ) else (
        some ((-2), S)
      )
    )
  ) else (
    some ((-2), S)
  )
set_option maxRecDepth 100000 in
set_option maxHeartbeats 4000000 in
theorem rX11_mean {G : GG} {p1 : Int} {p2 : Int} {p3 : Int} {S : SS} {rr : (Int × SS)} (h : fX11_mean p1 p2 p3 S = some rr) : RD G mX11_mean 7 [vr 1, vi p1, vi p2, vi p3] S (some (vi rr.1)) rr.2 := by
  unfold fX11_mean at h
  refine Runs.of pl_X11 (Nat.le_of_ble_eq_true rfl) ?_
  show At G mX11_mean 7 0 [(0, vr 1), (1, vi p1), (2, vi p2), (3, vi p3)] [] (mm S) 0 0 (EQ (some (vi rr.1)) rr.2)
  refine At.aloadn dX11_mean_0 rfl <| At.getR fl_X11_12 sh_1 (le149 sh_1) rf_1_0 dX11_mean_1 <| At.iloadn dX11_mean_4 rfl <| ?_
  obtain ⟨q1, hq1, h⟩ := bnd_e h
  rcases ite_e h with ⟨c10, h⟩ | ⟨c10, h⟩
  · refine At.cV1 (av := [vi p1]) (rest := []) mv_X8_hasGoer lk_X11_148 dX11_mean_5 rfl rfl sh_2 (Nat.le_of_ble_eq_true rfl) (by decide) ⟨rfl, rfl⟩ (rX8_hasGoer sh_2 hq1) <| At.bifeq_f (tgt := 20) dX11_mean_8 (by decide) c10 <| ?_
    rcases ite_e h with ⟨c9, h⟩ | ⟨c9, h⟩
    · refine At.iloadn dX11_mean_11 rfl <| At.if_lt_t (tgt := 20) dX11_mean_12 (by decide) c9 <| ?_
      refine At.bipush dX11_mean_20 (by decide) <| ?_
      obtain rfl := Option.some.inj h
      exact At.iret rfl (Nat.zero_le _) (Nat.zero_le _) ⟨rfl, rfl⟩ dX11_mean_22
    · refine At.iloadn dX11_mean_11 rfl <| At.if_lt_f (tgt := 20) dX11_mean_12 (by decide) c9 <| ?_
      rcases ite_e h with ⟨c8, h⟩ | ⟨c8, h⟩
      · refine At.iloadn dX11_mean_15 rfl <| At.iconst dX11_mean_16 (by decide) <| At.icmp_le_t (tgt := 23) dX11_mean_17 (by decide) c8 <| ?_
        rcases ite_e h with ⟨c7, h⟩ | ⟨c7, h⟩
        · refine At.iloadn dX11_mean_23 rfl <| At.if_lt_t (tgt := 33) dX11_mean_24 (by decide) c7 <| ?_
          refine At.bipush dX11_mean_33 (by decide) <| ?_
          obtain rfl := Option.some.inj h
          exact At.iret rfl (Nat.zero_le _) (Nat.zero_le _) ⟨rfl, rfl⟩ dX11_mean_35
        · refine At.iloadn dX11_mean_23 rfl <| At.if_lt_f (tgt := 33) dX11_mean_24 (by decide) c7 <| ?_
          rcases ite_e h with ⟨c6, h⟩ | ⟨c6, h⟩
          · refine At.iloadn dX11_mean_27 rfl <| At.bipush dX11_mean_28 (by decide) <| At.icmp_le_t (tgt := 36) dX11_mean_30 (by decide) c6 <| ?_
            refine At.aloadn dX11_mean_36 rfl <| At.getR fl_X11_72 sh_1 (le149 sh_1) rf_1_9 dX11_mean_37 <| At.iloadn dX11_mean_40 rfl <| At.aloadn dX11_mean_41 rfl <| At.getR fl_X11_20 sh_1 (le149 sh_1) rf_1_1 dX11_mean_42 <| At.iloadn dX11_mean_45 rfl <| ?_
            obtain ⟨q2, hq2, h⟩ := bnd_e h
            refine At.cV1 (av := [vi p1]) (rest := [vi p1, vr 51]) mv_X6_spotOf lk_X11_163 dX11_mean_46 rfl rfl sh_7 (Nat.le_of_ble_eq_true rfl) (by decide) ⟨rfl, rfl⟩ (rX6_spotOf sh_7 hq2) <| At.iloadn dX11_mean_49 rfl <| At.aloadn dX11_mean_50 rfl <| At.getR fl_X11_20 sh_1 (le149 sh_1) rf_1_1 dX11_mean_51 <| At.iconst dX11_mean_54 (by decide) <| ?_
            obtain ⟨q3, hq3, h⟩ := bnd_e h
            refine At.cV0 (av := [vi p1, vi q2, vi p2, vr 7, vi 1]) (rest := []) mv_X7_countWays lk_X11_245 dX11_mean_55 rfl rfl sh_51 (Nat.le_of_ble_eq_true rfl) (by decide) ⟨rfl, rfl⟩ (rX7_countWays sh_7 hq3) <| At.aloadn dX11_mean_58 rfl <| At.getR fl_X11_72 sh_1 (le149 sh_1) rf_1_9 dX11_mean_59 <| ?_
            obtain ⟨q4, hq4, h⟩ := bnd_e h
            refine At.cV1 (av := []) (rest := []) mv_X7_yearsInAll lk_X11_370 dX11_mean_62 rfl rfl sh_51 (Nat.le_of_ble_eq_true rfl) (by decide) ⟨rfl, rfl⟩ (rX7_yearsInAll hq4) <| At.aloadn dX11_mean_65 rfl <| At.getR fl_X11_72 sh_1 (le149 sh_1) rf_1_9 dX11_mean_66 <| At.getL fl_X11_362 sh_51 (le149 sh_51) dX11_mean_69 <| At.iloadn dX11_mean_72 rfl <| ?_
            obtain ⟨q5, hq5, h⟩ := bnd_e h
            refine At.cS1 (av := [vl q4, vl (q3 51 3), vi p3]) (rest := []) ms_X11_inLowestTerms lk_X11_366 dX11_mean_73 rfl rfl (Nat.le_of_ble_eq_true rfl) (by decide) ⟨rfl, rfl⟩ (rX11_inLowestTerms hq5) <| ?_
            obtain rfl := Option.some.inj h
            exact At.iret rfl (Nat.zero_le _) (Nat.zero_le _) ⟨rfl, rfl⟩ dX11_mean_76
          · refine At.iloadn dX11_mean_27 rfl <| At.bipush dX11_mean_28 (by decide) <| At.icmp_le_f (tgt := 36) dX11_mean_30 (by decide) c6 <| ?_
            refine At.bipush dX11_mean_33 (by decide) <| ?_
            obtain rfl := Option.some.inj h
            exact At.iret rfl (Nat.zero_le _) (Nat.zero_le _) ⟨rfl, rfl⟩ dX11_mean_35
      · refine At.iloadn dX11_mean_15 rfl <| At.iconst dX11_mean_16 (by decide) <| At.icmp_le_f (tgt := 23) dX11_mean_17 (by decide) c8 <| ?_
        refine At.bipush dX11_mean_20 (by decide) <| ?_
        obtain rfl := Option.some.inj h
        exact At.iret rfl (Nat.zero_le _) (Nat.zero_le _) ⟨rfl, rfl⟩ dX11_mean_22
  · refine At.cV1 (av := [vi p1]) (rest := []) mv_X8_hasGoer lk_X11_148 dX11_mean_5 rfl rfl sh_2 (Nat.le_of_ble_eq_true rfl) (by decide) ⟨rfl, rfl⟩ (rX8_hasGoer sh_2 hq1) <| At.bifeq_t (tgt := 20) dX11_mean_8 (by decide) c10 <| ?_
    refine At.bipush dX11_mean_20 (by decide) <| ?_
    obtain rfl := Option.some.inj h
    exact At.iret rfl (Nat.zero_le _) (Nat.zero_le _) ⟨rfl, rfl⟩ dX11_mean_22
def fX11_likeliest_L54 (S : SS) : Nat → Int → Int → Option (Int)
  | 0, _, _ => none
  | n + 1, l3, l4 =>
    if (S 2 5) ≤ l4 then (
      some l3
    ) else (
      Option.bind (fX7_at l4 ((-1)) S) fun q1 =>
      Option.bind (fX7_at l3 ((-1)) S) fun q2 =>
      Option.bind (
        if (lc q1 q2) ≤ 0 then (
          some l3
        ) else (
          some l4
        )
        : Option (Int)) fun q3 =>
      lt (w32 (l4 + 1)) fun x5 =>
      fX11_likeliest_L54 S n q3 x5
    )
def fX11_likeliest (p1 : Int) (p2 : Int) (S : SS) : Option (Int × SS) :=
  Option.bind (fX8_hasGoer 2 p1 S) fun q1 =>
  if q1 = true then (
    if p2 < 0 then (
      some ((-3), S)
    ) else (
      if p2 ≤ 6 then (
        Option.bind (fX6_spotOf 7 p1 S) fun q2 =>
        Option.bind (fX7_countWays p1 q2 p2 7 1 S) fun q3 =>
        Option.bind (fX11_likeliest_L54 q3 FU 0 1) fun q4 =>
        some (q4, q3)
      ) else (
        some ((-3), S)
      )
    )
  ) else (
    some ((-2), S)
  )
set_option maxRecDepth 100000 in
set_option maxHeartbeats 4000000 in
theorem lX11_likeliest_L54 {G : GG} {Φ : Option VV → MM → Prop} {S : SS} : ∀ (n : Nat) (l3 : Int) (l4 : Int) (q : Int), fX11_likeliest_L54 S n l3 l4 = some q → At G mX11_likeliest 7 98 [(3, vi q)] [] (mm S) 0 0 Φ → At G mX11_likeliest 7 54 [(0, vr 1), (3, vi l3), (4, vi l4)] [] (mm S) 0 0 Φ := by
  intro n
  induction n with
  | zero =>
    intro _ _ _ h
    cases h
  | succ n ih =>
    intro l3 l4 q h K98
    unfold fX11_likeliest_L54 at h
    rcases ite_e h with ⟨c6, h⟩ | ⟨c6, h⟩
    · refine At.iload dX11_likeliest_54 rfl <| At.aloadn dX11_likeliest_56 rfl <| At.getR fl_X11_12 sh_1 (le149 sh_1) rf_1_0 dX11_likeliest_57 <| At.getI fl_X11_324 sh_2 (le149 sh_2) dX11_likeliest_60 <| At.icmp_ge_t (tgt := 98) dX11_likeliest_63 (by decide) c6 <| ?_
      obtain rfl := Option.some.inj h
      exact At.sub [1] rfl K98
    · refine At.iload dX11_likeliest_54 rfl <| At.aloadn dX11_likeliest_56 rfl <| At.getR fl_X11_12 sh_1 (le149 sh_1) rf_1_0 dX11_likeliest_57 <| At.getI fl_X11_324 sh_2 (le149 sh_2) dX11_likeliest_60 <| At.icmp_ge_f (tgt := 98) dX11_likeliest_63 (by decide) c6 <| ?_
      refine At.aloadn dX11_likeliest_66 rfl <| At.getR fl_X11_72 sh_1 (le149 sh_1) rf_1_9 dX11_likeliest_67 <| At.iload dX11_likeliest_70 rfl <| At.iconst dX11_likeliest_72 (by decide) <| ?_
      obtain ⟨q1, hq1, h⟩ := bnd_e h
      refine At.cV1 (av := [vi l4, vi ((-1))]) (rest := []) mv_X7_at lk_X11_249 dX11_likeliest_73 rfl rfl sh_51 (Nat.le_of_ble_eq_true rfl) (by decide) ⟨rfl, rfl⟩ (rX7_at hq1) <| At.aloadn dX11_likeliest_76 rfl <| At.getR fl_X11_72 sh_1 (le149 sh_1) rf_1_9 dX11_likeliest_77 <| At.iloadn dX11_likeliest_80 rfl <| At.iconst dX11_likeliest_81 (by decide) <| ?_
      obtain ⟨q2, hq2, h⟩ := bnd_e h
      obtain ⟨q3, hj92, h⟩ := bnd_e h
      have K92 : At G mX11_likeliest 7 92 [(0, vr 1), (3, vi q3), (4, vi l4)] [] (mm S) 0 0 Φ := by
        obtain ⟨x5, hx5, h⟩ := lt_e h
        refine At.iinc (ls' := [(4, vi x5), (0, vr 1), (3, vi q3)]) dX11_likeliest_92 rfl (by decide) (by rw [hx5]; rfl) <| At.goto (tgt := 54) dX11_likeliest_95 (by decide) <| ?_
        exact At.sub [1, 2, 0] rfl (ih _ _ _ h K98)
      clear h; have h := hj92; clear hj92
      rcases ite_e h with ⟨c4, h⟩ | ⟨c4, h⟩
      · refine At.cV1 (av := [vi l3, vi ((-1))]) (rest := [vl q1]) mv_X7_at lk_X11_249 dX11_likeliest_82 rfl rfl sh_51 (Nat.le_of_ble_eq_true rfl) (by decide) ⟨rfl, rfl⟩ (rX7_at hq2) <| At.lcmp dX11_likeliest_85 <| At.if_le_t (tgt := 92) dX11_likeliest_86 (by decide) c4 <| ?_
        obtain rfl := Option.some.inj h
        exact At.sub [0, 1, 2] rfl K92
      · refine At.cV1 (av := [vi l3, vi ((-1))]) (rest := [vl q1]) mv_X7_at lk_X11_249 dX11_likeliest_82 rfl rfl sh_51 (Nat.le_of_ble_eq_true rfl) (by decide) ⟨rfl, rfl⟩ (rX7_at hq2) <| At.lcmp dX11_likeliest_85 <| At.if_le_f (tgt := 92) dX11_likeliest_86 (by decide) c4 <| ?_
        refine At.iload dX11_likeliest_89 rfl <| At.istoren (ls' := [(3, vi l4), (0, vr 1), (4, vi l4)]) dX11_likeliest_91 (by decide) rfl <| ?_
        obtain rfl := Option.some.inj h
        exact At.sub [1, 0, 2] rfl K92
set_option maxRecDepth 100000 in
set_option maxHeartbeats 4000000 in
theorem rX11_likeliest {G : GG} {p1 : Int} {p2 : Int} {S : SS} {rr : (Int × SS)} (h : fX11_likeliest p1 p2 S = some rr) : RD G mX11_likeliest 7 [vr 1, vi p1, vi p2] S (some (vi rr.1)) rr.2 := by
  unfold fX11_likeliest at h
  refine Runs.of pl_X11 (Nat.le_of_ble_eq_true rfl) ?_
  show At G mX11_likeliest 7 0 [(0, vr 1), (1, vi p1), (2, vi p2)] [] (mm S) 0 0 (EQ (some (vi rr.1)) rr.2)
  refine At.aloadn dX11_likeliest_0 rfl <| At.getR fl_X11_12 sh_1 (le149 sh_1) rf_1_0 dX11_likeliest_1 <| At.iloadn dX11_likeliest_4 rfl <| ?_
  obtain ⟨q1, hq1, h⟩ := bnd_e h
  rcases ite_e h with ⟨c8, h⟩ | ⟨c8, h⟩
  · refine At.cV1 (av := [vi p1]) (rest := []) mv_X8_hasGoer lk_X11_148 dX11_likeliest_5 rfl rfl sh_2 (Nat.le_of_ble_eq_true rfl) (by decide) ⟨rfl, rfl⟩ (rX8_hasGoer sh_2 hq1) <| At.bifne_t (tgt := 14) dX11_likeliest_8 (by decide) c8 <| ?_
    rcases ite_e h with ⟨c7, h⟩ | ⟨c7, h⟩
    · refine At.iloadn dX11_likeliest_14 rfl <| At.if_lt_t (tgt := 24) dX11_likeliest_15 (by decide) c7 <| ?_
      refine At.bipush dX11_likeliest_24 (by decide) <| ?_
      obtain rfl := Option.some.inj h
      exact At.iret rfl (Nat.zero_le _) (Nat.zero_le _) ⟨rfl, rfl⟩ dX11_likeliest_26
    · refine At.iloadn dX11_likeliest_14 rfl <| At.if_lt_f (tgt := 24) dX11_likeliest_15 (by decide) c7 <| ?_
      rcases ite_e h with ⟨c6, h⟩ | ⟨c6, h⟩
      · refine At.iloadn dX11_likeliest_18 rfl <| At.bipush dX11_likeliest_19 (by decide) <| At.icmp_le_t (tgt := 27) dX11_likeliest_21 (by decide) c6 <| ?_
        refine At.aloadn dX11_likeliest_27 rfl <| At.getR fl_X11_72 sh_1 (le149 sh_1) rf_1_9 dX11_likeliest_28 <| At.iloadn dX11_likeliest_31 rfl <| At.aloadn dX11_likeliest_32 rfl <| At.getR fl_X11_20 sh_1 (le149 sh_1) rf_1_1 dX11_likeliest_33 <| At.iloadn dX11_likeliest_36 rfl <| ?_
        obtain ⟨q2, hq2, h⟩ := bnd_e h
        refine At.cV1 (av := [vi p1]) (rest := [vi p1, vr 51]) mv_X6_spotOf lk_X11_163 dX11_likeliest_37 rfl rfl sh_7 (Nat.le_of_ble_eq_true rfl) (by decide) ⟨rfl, rfl⟩ (rX6_spotOf sh_7 hq2) <| At.iloadn dX11_likeliest_40 rfl <| At.aloadn dX11_likeliest_41 rfl <| At.getR fl_X11_20 sh_1 (le149 sh_1) rf_1_1 dX11_likeliest_42 <| At.iconst dX11_likeliest_45 (by decide) <| ?_
        obtain ⟨q3, hq3, h⟩ := bnd_e h
        refine At.cV0 (av := [vi p1, vi q2, vi p2, vr 7, vi 1]) (rest := []) mv_X7_countWays lk_X11_245 dX11_likeliest_46 rfl rfl sh_51 (Nat.le_of_ble_eq_true rfl) (by decide) ⟨rfl, rfl⟩ (rX7_countWays sh_7 hq3) <| At.iconst dX11_likeliest_49 (by decide) <| At.istoren (ls' := [(3, vi 0), (0, vr 1), (1, vi p1), (2, vi p2)]) dX11_likeliest_50 (by decide) rfl <| At.iconst dX11_likeliest_51 (by decide) <| At.istore (ls' := [(4, vi 1), (3, vi 0), (0, vr 1), (1, vi p1), (2, vi p2)]) dX11_likeliest_52 (by decide) rfl <| ?_
        obtain ⟨q4, ho5, h⟩ := bnd_e h
        refine At.sub [2, 1, 0] rfl (lX11_likeliest_L54 FU _ _ q4 ho5 ?_)
        refine At.iloadn dX11_likeliest_98 rfl <| ?_
        obtain rfl := Option.some.inj h
        exact At.iret rfl (Nat.zero_le _) (Nat.zero_le _) ⟨rfl, rfl⟩ dX11_likeliest_99
      · refine At.iloadn dX11_likeliest_18 rfl <| At.bipush dX11_likeliest_19 (by decide) <| At.icmp_le_f (tgt := 27) dX11_likeliest_21 (by decide) c6 <| ?_
        refine At.bipush dX11_likeliest_24 (by decide) <| ?_
        obtain rfl := Option.some.inj h
        exact At.iret rfl (Nat.zero_le _) (Nat.zero_le _) ⟨rfl, rfl⟩ dX11_likeliest_26
  · refine At.cV1 (av := [vi p1]) (rest := []) mv_X8_hasGoer lk_X11_148 dX11_likeliest_5 rfl rfl sh_2 (Nat.le_of_ble_eq_true rfl) (by decide) ⟨rfl, rfl⟩ (rX8_hasGoer sh_2 hq1) <| At.bifne_f (tgt := 14) dX11_likeliest_8 (by decide) c8 <| ?_
    refine At.bipush dX11_likeliest_11 (by decide) <| ?_
    obtain rfl := Option.some.inj h
    exact At.iret rfl (Nat.zero_le _) (Nat.zero_le _) ⟨rfl, rfl⟩ dX11_likeliest_13
def fJ7_fill_d0a16_40_L6 (l0 : Nat) (l1 : Int) (l4 : Int) : Nat → Int → SS → Option (SS)
  | 0, _, _ => none
  | n + 1, l3, S =>
    if l4 ≤ l3 then (
      some S
    ) else (
      wrA S l0 40 l3 l1 fun S1 =>
      lt (w32 (l3 + 1)) fun x3 =>
      fJ7_fill_d0a16_40_L6 l0 l1 l4 n x3 S1
    )
def fJ7_fill_d0a16_40 (p0 : Nat) (p1 : Int) (S : SS) : Option SS :=
  Option.bind (fJ7_fill_d0a16_40_L6 p0 p1 40 FU 0 S) fun q1 =>
  some q1
set_option maxRecDepth 100000 in
set_option maxHeartbeats 4000000 in
theorem lJ7_fill_d0a16_40_L6 {G : GG} {Φ : Option VV → MM → Prop} {l0 : Nat} {l1 : Int} {l4 : Int} (hl0 : sh l0 = (21, 40)) : ∀ (n : Nat) (l3 : Int) (S : SS) (q : SS), fJ7_fill_d0a16_40_L6 l0 l1 l4 n l3 S = some q → At G mJ7_fill_d0a16 1 22 [] [] (mm q) 0 0 Φ → At G mJ7_fill_d0a16 1 6 [(0, vr l0), (1, vl l1), (3, vi l3), (4, vi l4)] [] (mm S) 0 0 Φ := by
  intro n
  induction n with
  | zero =>
    intro _ _ _ h
    cases h
  | succ n ih =>
    intro l3 S q h K22
    unfold fJ7_fill_d0a16_40_L6 at h
    rcases ite_e h with ⟨c4, h⟩ | ⟨c4, h⟩
    · refine At.iloadn dJ7_fill_d0a16_6 rfl <| At.iload dJ7_fill_d0a16_7 rfl <| At.icmp_ge_t (tgt := 22) dJ7_fill_d0a16_9 (by decide) c4 <| ?_
      obtain rfl := Option.some.inj h
      exact At.sub [] rfl K22
    · refine At.iloadn dJ7_fill_d0a16_6 rfl <| At.iload dJ7_fill_d0a16_7 rfl <| At.icmp_ge_f (tgt := 22) dJ7_fill_d0a16_9 (by decide) c4 <| ?_
      refine At.aloadn dJ7_fill_d0a16_12 rfl <| At.iloadn dJ7_fill_d0a16_13 rfl <| At.lloadn dJ7_fill_d0a16_14 rfl <| ?_
      obtain ⟨S1, hS1, g2, h⟩ := wrA_e h
      refine At.last hl0 (le149 hl0) g2.1 g2.2 dJ7_fill_d0a16_15 <| At.nmS hS1 <| ?_
      obtain ⟨x3, hx3, h⟩ := lt_e h
      refine At.iinc (ls' := [(3, vi x3), (0, vr l0), (1, vl l1), (4, vi l4)]) dJ7_fill_d0a16_16 rfl (by decide) (by rw [hx3]; rfl) <| At.goto (tgt := 6) dJ7_fill_d0a16_19 (by decide) <| ?_
      exact At.sub [1, 2, 0, 3] rfl (ih _ _ _ h K22)
set_option maxRecDepth 100000 in
set_option maxHeartbeats 4000000 in
theorem rJ7_fill_d0a16_40 {G : GG} {p0 : Nat} {p1 : Int} {S : SS} {rr : SS} (hp0 : sh p0 = (21, 40)) (h : fJ7_fill_d0a16_40 p0 p1 S = some rr) : RD G mJ7_fill_d0a16 1 [vr p0, vl p1] S none rr := by
  unfold fJ7_fill_d0a16_40 at h
  refine Runs.of pl_J7 (Nat.le_of_ble_eq_true rfl) ?_
  show At G mJ7_fill_d0a16 1 0 [(0, vr p0), (1, vl p1)] [] (mm S) 0 0 (EQ none rr)
  refine At.iconst dJ7_fill_d0a16_0 (by decide) <| At.istoren (ls' := [(3, vi 0), (0, vr p0), (1, vl p1)]) dJ7_fill_d0a16_1 (by decide) rfl <| At.aloadn dJ7_fill_d0a16_2 rfl <| At.alenJ hp0 (le149 hp0) (by decide) (z := 40) rfl dJ7_fill_d0a16_3 <| At.istore (ls' := [(4, vi 40), (3, vi 0), (0, vr p0), (1, vl p1)]) dJ7_fill_d0a16_4 (by decide) rfl <| ?_
  obtain ⟨q1, ho2, h⟩ := bnd_e h
  refine At.sub [2, 3, 1, 0] rfl (lJ7_fill_d0a16_40_L6 hp0 FU _ _ q1 ho2 ?_)
  obtain rfl := Option.some.inj h
  exact At.vret rfl (Nat.zero_le _) (Nat.zero_le _) ⟨rfl, rfl⟩ dJ7_fill_d0a16_22
def fX9_begin (t : Nat) (p1 : Int) (p2 : Int) (S : SS) : Option SS :=
  Option.bind (fJ7_fill_d0a16_40 (t + 1) 0 S) fun q1 =>
  lt (up q1 t 1 p1) fun S2 =>
  lt (up S2 t 2 p2) fun S3 =>
  some S3
set_option maxRecDepth 100000 in
set_option maxHeartbeats 4000000 in
theorem rX9_begin {G : GG} {t : Nat} {p1 : Int} {p2 : Int} {S : SS} {rr : SS} (ht : sh t = (9, 3)) (h : fX9_begin t p1 p2 S = some rr) : RD G mX9_begin 2 [vr t, vi p1, vi p2] S none rr := by
  unfold fX9_begin at h
  refine Runs.of pl_X9 (Nat.le_of_ble_eq_true rfl) ?_
  show At G mX9_begin 2 0 [(0, vr t), (1, vi p1), (2, vi p2)] [] (mm S) 0 0 (EQ none rr)
  refine At.aloadn dX9_begin_0 rfl <| At.getR fl_X9_9 ht (le149 ht) (rfO_9_0 ht) dX9_begin_1 <| At.lconst0 dX9_begin_4 <| ?_
  obtain ⟨q1, hq1, h⟩ := bnd_e h
  refine At.cS0 (av := [vr (t + 1), vl 0]) (rest := []) ms_J7_fill_d0a16 lk_X9_19 dX9_begin_5 rfl rfl (Nat.le_of_ble_eq_true rfl) (by decide) ⟨rfl, rfl⟩ (rJ7_fill_d0a16_40 (shO_9_0 ht) hq1) <| At.aloadn dX9_begin_8 rfl <| At.iloadn dX9_begin_9 rfl <| ?_
  obtain ⟨S2, hS2, h⟩ := lt_e h
  refine At.putI fw_X9_25 ht (le149 ht) dX9_begin_10 <| At.nmS hS2 <| At.aloadn dX9_begin_13 rfl <| At.iloadn dX9_begin_14 rfl <| ?_
  obtain ⟨S3, hS3, h⟩ := lt_e h
  refine At.putI fw_X9_15 ht (le149 ht) dX9_begin_15 <| At.nmS hS3 <| ?_
  obtain rfl := Option.some.inj h
  exact At.vret rfl (Nat.zero_le _) (Nat.zero_le _) ⟨rfl, rfl⟩ dX9_begin_18
def fX11_numbers (p1 : Int) (p2 : Int) (p3 : Int) (S : SS) : Option (Int × SS) :=
  Option.bind (fX11_trayAt p1 S) fun q1 =>
  if q1 = 0 then (
    some ((-2), S)
  ) else (
    if p2 < 0 then (
      some ((-2), S)
    ) else (
      if p2 < 4 then (
        if p3 < 0 then (
          some ((-3), S)
        ) else (
          if p3 ≤ 40 then (
            gsh q1 (9, 3) <|
            Option.bind (fX9_begin q1 p2 p3 S) fun q3 =>
            some (0, q3)
          ) else (
            some ((-3), S)
          )
        )
      ) else (
        some ((-2), S)
      )
    )
  )
set_option maxRecDepth 100000 in
set_option maxHeartbeats 4000000 in
theorem rX11_numbers {G : GG} {p1 : Int} {p2 : Int} {p3 : Int} {S : SS} {rr : (Int × SS)} (h : fX11_numbers p1 p2 p3 S = some rr) : RD G mX11_numbers 3 [vr 1, vi p1, vi p2, vi p3] S (some (vi rr.1)) rr.2 := by
  unfold fX11_numbers at h
  refine Runs.of pl_X11 (Nat.le_of_ble_eq_true rfl) ?_
  show At G mX11_numbers 3 0 [(0, vr 1), (1, vi p1), (2, vi p2), (3, vi p3)] [] (mm S) 0 0 (EQ (some (vi rr.1)) rr.2)
  refine At.aloadn dX11_numbers_0 rfl <| At.iloadn dX11_numbers_1 rfl <| ?_
  obtain ⟨q1, hq1, h⟩ := bnd_e h
  rcases ite_e h with ⟨c8, h⟩ | ⟨c8, h⟩
  · refine At.cV1 (av := [vi p1]) (rest := []) mv_X11_trayAt lk_X11_204 dX11_numbers_2 rfl rfl sh_1 (Nat.le_of_ble_eq_true rfl) (by decide) ⟨rfl, rfl⟩ (rX11_trayAt hq1) <| At.astore (ls' := [(4, vr q1), (0, vr 1), (1, vi p1), (2, vi p2), (3, vi p3)]) dX11_numbers_5 (by decide) rfl <| At.aload dX11_numbers_7 rfl <| At.ifnull_t (tgt := 21) dX11_numbers_9 (by decide) c8 <| ?_
    refine At.bipush dX11_numbers_21 (by decide) <| ?_
    obtain rfl := Option.some.inj h
    exact At.iret rfl (Nat.zero_le _) (Nat.zero_le _) ⟨rfl, rfl⟩ dX11_numbers_23
  · refine At.cV1 (av := [vi p1]) (rest := []) mv_X11_trayAt lk_X11_204 dX11_numbers_2 rfl rfl sh_1 (Nat.le_of_ble_eq_true rfl) (by decide) ⟨rfl, rfl⟩ (rX11_trayAt hq1) <| At.astore (ls' := [(4, vr q1), (0, vr 1), (1, vi p1), (2, vi p2), (3, vi p3)]) dX11_numbers_5 (by decide) rfl <| At.aload dX11_numbers_7 rfl <| At.ifnull_f (tgt := 21) dX11_numbers_9 (by decide) c8 <| ?_
    rcases ite_e h with ⟨c7, h⟩ | ⟨c7, h⟩
    · refine At.iloadn dX11_numbers_12 rfl <| At.if_lt_t (tgt := 21) dX11_numbers_13 (by decide) c7 <| ?_
      refine At.bipush dX11_numbers_21 (by decide) <| ?_
      obtain rfl := Option.some.inj h
      exact At.iret rfl (Nat.zero_le _) (Nat.zero_le _) ⟨rfl, rfl⟩ dX11_numbers_23
    · refine At.iloadn dX11_numbers_12 rfl <| At.if_lt_f (tgt := 21) dX11_numbers_13 (by decide) c7 <| ?_
      rcases ite_e h with ⟨c6, h⟩ | ⟨c6, h⟩
      · refine At.iloadn dX11_numbers_16 rfl <| At.iconst dX11_numbers_17 (by decide) <| At.icmp_lt_t (tgt := 24) dX11_numbers_18 (by decide) c6 <| ?_
        rcases ite_e h with ⟨c5, h⟩ | ⟨c5, h⟩
        · refine At.iloadn dX11_numbers_24 rfl <| At.if_lt_t (tgt := 34) dX11_numbers_25 (by decide) c5 <| ?_
          refine At.bipush dX11_numbers_34 (by decide) <| ?_
          obtain rfl := Option.some.inj h
          exact At.iret rfl (Nat.zero_le _) (Nat.zero_le _) ⟨rfl, rfl⟩ dX11_numbers_36
        · refine At.iloadn dX11_numbers_24 rfl <| At.if_lt_f (tgt := 34) dX11_numbers_25 (by decide) c5 <| ?_
          rcases ite_e h with ⟨c4, h⟩ | ⟨c4, h⟩
          · refine At.iloadn dX11_numbers_28 rfl <| At.bipush dX11_numbers_29 (by decide) <| At.icmp_le_t (tgt := 37) dX11_numbers_31 (by decide) c4 <| ?_
            refine At.aload dX11_numbers_37 rfl <| At.iloadn dX11_numbers_39 rfl <| At.iloadn dX11_numbers_40 rfl <| ?_
            obtain ⟨g2, h⟩ := gsh_e h
            obtain ⟨q3, hq3, h⟩ := bnd_e h
            refine At.cV0 (av := [vi p2, vi p3]) (rest := []) mv_X9_begin lk_X11_378 dX11_numbers_41 rfl rfl g2 (Nat.le_of_ble_eq_true rfl) (by decide) ⟨rfl, rfl⟩ (rX9_begin g2 hq3) <| At.iconst dX11_numbers_44 (by decide) <| ?_
            obtain rfl := Option.some.inj h
            exact At.iret rfl (Nat.zero_le _) (Nat.zero_le _) ⟨rfl, rfl⟩ dX11_numbers_45
          · refine At.iloadn dX11_numbers_28 rfl <| At.bipush dX11_numbers_29 (by decide) <| At.icmp_le_f (tgt := 37) dX11_numbers_31 (by decide) c4 <| ?_
            refine At.bipush dX11_numbers_34 (by decide) <| ?_
            obtain rfl := Option.some.inj h
            exact At.iret rfl (Nat.zero_le _) (Nat.zero_le _) ⟨rfl, rfl⟩ dX11_numbers_36
      · refine At.iloadn dX11_numbers_16 rfl <| At.iconst dX11_numbers_17 (by decide) <| At.icmp_lt_f (tgt := 24) dX11_numbers_18 (by decide) c6 <| ?_
        refine At.bipush dX11_numbers_21 (by decide) <| ?_
        obtain rfl := Option.some.inj h
        exact At.iret rfl (Nat.zero_le _) (Nat.zero_le _) ⟨rfl, rfl⟩ dX11_numbers_23
def fX9_cut (t : Nat) (p1 : Int) (S : SS) : Option Int :=
  if S t 1 = 0 then (
    some (jb (w32 p1))
  ) else (
    if S t 1 = 1 then (
      some (js (w32 p1))
    ) else (
      if S t 1 = 2 then (
        some (w32 p1)
      ) else (
        some p1
      )
    )
  )
set_option maxRecDepth 100000 in
set_option maxHeartbeats 4000000 in
theorem rX9_cut {G : GG} {t : Nat} {p1 : Int} {S : SS} {rr : Int} (ht : sh t = (9, 3)) (h : fX9_cut t p1 S = some rr) : RD G mX9_cut 1 [vr t, vl p1] S (some (vl rr)) S := by
  unfold fX9_cut at h
  refine Runs.of pl_X9 (Nat.le_of_ble_eq_true rfl) ?_
  show At G mX9_cut 1 0 [(0, vr t), (1, vl p1)] [] (mm S) 0 0 (EQ (some (vl rr)) S)
  rcases ite_e h with ⟨c1, h⟩ | ⟨c1, h⟩
  · refine At.aloadn dX9_cut_0 rfl <| At.getI fl_X9_25 ht (le149 ht) dX9_cut_1 <| At.tsIn (off := 28) (tgt := 32) dX9_cut_4 (by omega) (by omega) (by rw [c1] <;> rfl) (by decide) <| ?_
    refine At.lloadn dX9_cut_32 rfl <| At.l2i dX9_cut_33 <| At.i2b dX9_cut_34 <| At.i2l dX9_cut_35 <| ?_
    obtain rfl := Option.some.inj h
    exact At.lret rfl (Nat.zero_le _) (Nat.zero_le _) ⟨rfl, rfl⟩ dX9_cut_36
  · rcases ite_e h with ⟨c2, h⟩ | ⟨c2, h⟩
    · refine At.aloadn dX9_cut_0 rfl <| At.getI fl_X9_25 ht (le149 ht) dX9_cut_1 <| At.tsIn (off := 33) (tgt := 37) dX9_cut_4 (by omega) (by omega) (by rw [c2] <;> rfl) (by decide) <| ?_
      refine At.lloadn dX9_cut_37 rfl <| At.l2i dX9_cut_38 <| At.i2s dX9_cut_39 <| At.i2l dX9_cut_40 <| ?_
      obtain rfl := Option.some.inj h
      exact At.lret rfl (Nat.zero_le _) (Nat.zero_le _) ⟨rfl, rfl⟩ dX9_cut_41
    · rcases ite_e h with ⟨c3, h⟩ | ⟨c3, h⟩
      · refine At.aloadn dX9_cut_0 rfl <| At.getI fl_X9_25 ht (le149 ht) dX9_cut_1 <| At.tsIn (off := 38) (tgt := 42) dX9_cut_4 (by omega) (by omega) (by rw [c3] <;> rfl) (by decide) <| ?_
        refine At.lloadn dX9_cut_42 rfl <| At.l2i dX9_cut_43 <| At.i2l dX9_cut_44 <| ?_
        obtain rfl := Option.some.inj h
        exact At.lret rfl (Nat.zero_le _) (Nat.zero_le _) ⟨rfl, rfl⟩ dX9_cut_45
      · have hz : (S t 1 < 0 ∨ 2 < S t 1) := by omega
        refine At.aloadn dX9_cut_0 rfl <| At.getI fl_X9_25 ht (le149 ht) dX9_cut_1 <| At.tsOut (tgt := 46) dX9_cut_4 hz (by decide) <| ?_
        refine At.lloadn dX9_cut_46 rfl <| ?_
        obtain rfl := Option.some.inj h
        exact At.lret rfl (Nat.zero_le _) (Nat.zero_le _) ⟨rfl, rfl⟩ dX9_cut_47
def fX9_set (t : Nat) (p1 : Int) (p2 : Int) (S : SS) : Option SS :=
  Option.bind (fX9_hasPlace t p1 S) fun q1 =>
  if q1 = true then (
    Option.bind (fX9_cut t p2 S) fun q2 =>
    wrA S (t + 1) 40 p1 q2 fun S3 =>
    some S3
  ) else (
    some S
  )
set_option maxRecDepth 100000 in
set_option maxHeartbeats 4000000 in
theorem rX9_set {G : GG} {t : Nat} {p1 : Int} {p2 : Int} {S : SS} {rr : SS} (ht : sh t = (9, 3)) (h : fX9_set t p1 p2 S = some rr) : RD G mX9_set 2 [vr t, vi p1, vl p2] S none rr := by
  unfold fX9_set at h
  refine Runs.of pl_X9 (Nat.le_of_ble_eq_true rfl) ?_
  show At G mX9_set 2 0 [(0, vr t), (1, vi p1), (2, vl p2)] [] (mm S) 0 0 (EQ none rr)
  refine At.aloadn dX9_set_0 rfl <| At.iloadn dX9_set_1 rfl <| ?_
  obtain ⟨q1, hq1, h⟩ := bnd_e h
  rcases ite_e h with ⟨c5, h⟩ | ⟨c5, h⟩
  · refine At.cV1 (av := [vi p1]) (rest := []) mv_X9_hasPlace lk_X9_28 dX9_set_2 rfl rfl ht (Nat.le_of_ble_eq_true rfl) (by decide) ⟨rfl, rfl⟩ (rX9_hasPlace ht hq1) <| At.bifeq_f (tgt := 19) dX9_set_5 (by decide) c5 <| ?_
    refine At.aloadn dX9_set_8 rfl <| At.getR fl_X9_9 ht (le149 ht) (rfO_9_0 ht) dX9_set_9 <| At.iloadn dX9_set_12 rfl <| At.aloadn dX9_set_13 rfl <| At.lloadn dX9_set_14 rfl <| ?_
    obtain ⟨q2, hq2, h⟩ := bnd_e h
    refine At.cV1 (av := [vl p2]) (rest := [vi p1, vr (t + 1)]) mv_X9_cut lk_X9_32 dX9_set_15 rfl rfl ht (Nat.le_of_ble_eq_true rfl) (by decide) ⟨rfl, rfl⟩ (rX9_cut ht hq2) <| ?_
    obtain ⟨S3, hS3, g4, h⟩ := wrA_e h
    refine At.last (shO_9_0 ht) (le149 (shO_9_0 ht)) g4.1 g4.2 dX9_set_18 <| At.nmS hS3 <| ?_
    obtain rfl := Option.some.inj h
    exact At.vret rfl (Nat.zero_le _) (Nat.zero_le _) ⟨rfl, rfl⟩ dX9_set_19
  · refine At.cV1 (av := [vi p1]) (rest := []) mv_X9_hasPlace lk_X9_28 dX9_set_2 rfl rfl ht (Nat.le_of_ble_eq_true rfl) (by decide) ⟨rfl, rfl⟩ (rX9_hasPlace ht hq1) <| At.bifeq_t (tgt := 19) dX9_set_5 (by decide) c5 <| ?_
    obtain rfl := Option.some.inj h
    exact At.vret rfl (Nat.zero_le _) (Nat.zero_le _) ⟨rfl, rfl⟩ dX9_set_19
def fX11_write (p1 : Int) (p2 : Int) (p3 : Int) (S : SS) : Option (Int × SS) :=
  Option.bind (fX11_trayAt p1 S) fun q1 =>
  if q1 = 0 then (
    some ((-2), S)
  ) else (
    gsh q1 (9, 3) <|
    Option.bind (fX9_isMissing q1 S) fun q3 =>
    if q3 = true then (
      some ((-6), S)
    ) else (
      Option.bind (fX9_hasPlace q1 p2 S) fun q4 =>
      if q4 = true then (
        Option.bind (fX9_set q1 p2 p3 S) fun q5 =>
        Option.bind (fX9_valueAt q1 p2 q5) fun q6 =>
        some (q6, q5)
      ) else (
        some ((-7), S)
      )
    )
  )
set_option maxRecDepth 100000 in
set_option maxHeartbeats 4000000 in
theorem rX11_write {G : GG} {p1 : Int} {p2 : Int} {p3 : Int} {S : SS} {rr : (Int × SS)} (h : fX11_write p1 p2 p3 S = some rr) : RD G mX11_write 3 [vr 1, vi p1, vi p2, vl p3] S (some (vl rr.1)) rr.2 := by
  unfold fX11_write at h
  refine Runs.of pl_X11 (Nat.le_of_ble_eq_true rfl) ?_
  show At G mX11_write 3 0 [(0, vr 1), (1, vi p1), (2, vi p2), (3, vl p3)] [] (mm S) 0 0 (EQ (some (vl rr.1)) rr.2)
  refine At.aloadn dX11_write_0 rfl <| At.iloadn dX11_write_1 rfl <| ?_
  obtain ⟨q1, hq1, h⟩ := bnd_e h
  rcases ite_e h with ⟨c9, h⟩ | ⟨c9, h⟩
  · refine At.cV1 (av := [vi p1]) (rest := []) mv_X11_trayAt lk_X11_204 dX11_write_2 rfl rfl sh_1 (Nat.le_of_ble_eq_true rfl) (by decide) ⟨rfl, rfl⟩ (rX11_trayAt hq1) <| At.astore (ls' := [(5, vr q1), (0, vr 1), (1, vi p1), (2, vi p2), (3, vl p3)]) dX11_write_5 (by decide) rfl <| At.aload dX11_write_7 rfl <| At.ifnonnull_f (tgt := 16) dX11_write_9 (by decide) c9 <| ?_
    refine At.ldc2 dX11_write_12 kl_X11_380 (by decide) <| ?_
    obtain rfl := Option.some.inj h
    exact At.lret rfl (Nat.zero_le _) (Nat.zero_le _) ⟨rfl, rfl⟩ dX11_write_15
  · refine At.cV1 (av := [vi p1]) (rest := []) mv_X11_trayAt lk_X11_204 dX11_write_2 rfl rfl sh_1 (Nat.le_of_ble_eq_true rfl) (by decide) ⟨rfl, rfl⟩ (rX11_trayAt hq1) <| At.astore (ls' := [(5, vr q1), (0, vr 1), (1, vi p1), (2, vi p2), (3, vl p3)]) dX11_write_5 (by decide) rfl <| At.aload dX11_write_7 rfl <| At.ifnonnull_t (tgt := 16) dX11_write_9 (by decide) c9 <| ?_
    refine At.aload dX11_write_16 rfl <| ?_
    obtain ⟨g2, h⟩ := gsh_e h
    obtain ⟨q3, hq3, h⟩ := bnd_e h
    rcases ite_e h with ⟨c8, h⟩ | ⟨c8, h⟩
    · refine At.cV1 (av := []) (rest := []) mv_X9_isMissing lk_X11_208 dX11_write_18 rfl rfl g2 (Nat.le_of_ble_eq_true rfl) (by decide) ⟨rfl, rfl⟩ (rX9_isMissing g2 hq3) <| At.bifeq_f (tgt := 28) dX11_write_21 (by decide) c8 <| ?_
      refine At.ldc2 dX11_write_24 kl_X11_382 (by decide) <| ?_
      obtain rfl := Option.some.inj h
      exact At.lret rfl (Nat.zero_le _) (Nat.zero_le _) ⟨rfl, rfl⟩ dX11_write_27
    · refine At.cV1 (av := []) (rest := []) mv_X9_isMissing lk_X11_208 dX11_write_18 rfl rfl g2 (Nat.le_of_ble_eq_true rfl) (by decide) ⟨rfl, rfl⟩ (rX9_isMissing g2 hq3) <| At.bifeq_t (tgt := 28) dX11_write_21 (by decide) c8 <| ?_
      refine At.aload dX11_write_28 rfl <| At.iloadn dX11_write_30 rfl <| ?_
      obtain ⟨q4, hq4, h⟩ := bnd_e h
      rcases ite_e h with ⟨c7, h⟩ | ⟨c7, h⟩
      · refine At.cV1 (av := [vi p2]) (rest := []) mv_X9_hasPlace lk_X11_384 dX11_write_31 rfl rfl g2 (Nat.le_of_ble_eq_true rfl) (by decide) ⟨rfl, rfl⟩ (rX9_hasPlace g2 hq4) <| At.bifne_t (tgt := 41) dX11_write_34 (by decide) c7 <| ?_
        refine At.aload dX11_write_41 rfl <| At.iloadn dX11_write_43 rfl <| At.lloadn dX11_write_44 rfl <| ?_
        obtain ⟨q5, hq5, h⟩ := bnd_e h
        refine At.cV0 (av := [vi p2, vl p3]) (rest := []) mv_X9_set lk_X11_389 dX11_write_45 rfl rfl g2 (Nat.le_of_ble_eq_true rfl) (by decide) ⟨rfl, rfl⟩ (rX9_set g2 hq5) <| At.aload dX11_write_48 rfl <| At.iloadn dX11_write_50 rfl <| ?_
        obtain ⟨q6, hq6, h⟩ := bnd_e h
        refine At.cV1 (av := [vi p2]) (rest := []) mv_X9_valueAt lk_X11_340 dX11_write_51 rfl rfl g2 (Nat.le_of_ble_eq_true rfl) (by decide) ⟨rfl, rfl⟩ (rX9_valueAt g2 hq6) <| ?_
        obtain rfl := Option.some.inj h
        exact At.lret rfl (Nat.zero_le _) (Nat.zero_le _) ⟨rfl, rfl⟩ dX11_write_54
      · refine At.cV1 (av := [vi p2]) (rest := []) mv_X9_hasPlace lk_X11_384 dX11_write_31 rfl rfl g2 (Nat.le_of_ble_eq_true rfl) (by decide) ⟨rfl, rfl⟩ (rX9_hasPlace g2 hq4) <| At.bifne_f (tgt := 41) dX11_write_34 (by decide) c7 <| ?_
        refine At.ldc2 dX11_write_37 kl_X11_387 (by decide) <| ?_
        obtain rfl := Option.some.inj h
        exact At.lret rfl (Nat.zero_le _) (Nat.zero_le _) ⟨rfl, rfl⟩ dX11_write_40
def fX11_lists_L111 (l5 : Nat) (l7 : Int) (l8 : Int) : Nat → Int → SS → Option (SS)
  | 0, _, _ => none
  | n + 1, l9, S =>
    if l8 ≤ l9 then (
      some S
    ) else (
      Option.bind (fX10_streetOfWay 35 l7 l9 S) fun q1 =>
      Option.bind (fX9_set l5 l9 q1 S) fun q2 =>
      lt (w32 (l9 + 1)) fun x3 =>
      fX11_lists_L111 l5 l7 l8 n x3 q2
    )
def fX11_lists (p1 : Int) (p2 : Int) (p3 : Int) (p4 : Int) (S : SS) : Option (Int × SS) :=
  Option.bind (fX11_trayAt p1 S) fun q1 =>
  if q1 = 0 then (
    some ((-2), S)
  ) else (
    Option.bind (fX8_hasGoer 2 p2 S) fun q2 =>
    if q2 = true then (
      Option.bind (fX8_hasCorner 2 p3 S) fun q3 =>
      if q3 = true then (
        gsh q1 (9, 3) <|
        Option.bind (fX9_isMissing q1 S) fun q5 =>
        if q5 = true then (
          some ((-6), S)
        ) else (
          Option.bind (fX11_refusesComing p2 p3 p4 S) fun q6 =>
          if q6 = 0 then (
            Option.bind (fX11_comesTo p2 p3 p4 7 S) fun q7 =>
            if q7.1 = ((-1)) then (
              some ((-5), q7.2)
            ) else (
              Option.bind (fX10_goingsTo 35 q7.1 q7.2) fun q8 =>
              lt (if (q7.2 q1 2) < q8 then q7.2 q1 2 else q8) fun x9 =>
              Option.bind (fX11_lists_L111 q1 q7.1 x9 FU 0 q7.2) fun q10 =>
              some (x9, q10)
            )
          ) else (
            some (q6, S)
          )
        )
      ) else (
        some ((-2), S)
      )
    ) else (
      some ((-2), S)
    )
  )
set_option maxRecDepth 100000 in
set_option maxHeartbeats 4000000 in
theorem lX11_lists_L111 {G : GG} {Φ : Option VV → MM → Prop} {l5 : Nat} {l7 : Int} {l8 : Int} (hl5 : sh l5 = (9, 3)) : ∀ (n : Nat) (l9 : Int) (S : SS) (q : SS), fX11_lists_L111 l5 l7 l8 n l9 S = some q → At G mX11_lists 7 143 [(8, vi l8)] [] (mm q) 0 0 Φ → At G mX11_lists 7 111 [(0, vr 1), (5, vr l5), (7, vi l7), (8, vi l8), (9, vi l9)] [] (mm S) 0 0 Φ := by
  intro n
  induction n with
  | zero =>
    intro _ _ _ h
    cases h
  | succ n ih =>
    intro l9 S q h K143
    unfold fX11_lists_L111 at h
    rcases ite_e h with ⟨c4, h⟩ | ⟨c4, h⟩
    · refine At.iload dX11_lists_111 rfl <| At.iload dX11_lists_113 rfl <| At.icmp_ge_t (tgt := 143) dX11_lists_115 (by decide) c4 <| ?_
      obtain rfl := Option.some.inj h
      exact At.sub [3] rfl K143
    · refine At.iload dX11_lists_111 rfl <| At.iload dX11_lists_113 rfl <| At.icmp_ge_f (tgt := 143) dX11_lists_115 (by decide) c4 <| ?_
      refine At.aload dX11_lists_118 rfl <| At.iload dX11_lists_120 rfl <| At.aloadn dX11_lists_122 rfl <| At.getR fl_X11_62 sh_1 (le149 sh_1) rf_1_7 dX11_lists_123 <| At.iload dX11_lists_126 rfl <| At.iload dX11_lists_128 rfl <| ?_
      obtain ⟨q1, hq1, h⟩ := bnd_e h
      refine At.cV1 (av := [vi l7, vi l9]) (rest := [vi l9, vr l5]) mv_X10_streetOfWay lk_X11_239 dX11_lists_130 rfl rfl sh_35 (Nat.le_of_ble_eq_true rfl) (by decide) ⟨rfl, rfl⟩ (rX10_streetOfWay sh_35 hq1) <| At.i2l dX11_lists_133 <| ?_
      obtain ⟨q2, hq2, h⟩ := bnd_e h
      refine At.cV0 (av := [vi l9, vl q1]) (rest := []) mv_X9_set lk_X11_389 dX11_lists_134 rfl rfl hl5 (Nat.le_of_ble_eq_true rfl) (by decide) ⟨rfl, rfl⟩ (rX9_set hl5 hq2) <| ?_
      obtain ⟨x3, hx3, h⟩ := lt_e h
      refine At.iinc (ls' := [(9, vi x3), (0, vr 1), (5, vr l5), (7, vi l7), (8, vi l8)]) dX11_lists_137 rfl (by decide) (by rw [hx3]; rfl) <| At.goto (tgt := 111) dX11_lists_140 (by decide) <| ?_
      exact At.sub [1, 2, 3, 4, 0] rfl (ih _ _ _ h K143)
set_option maxRecDepth 100000 in
set_option maxHeartbeats 4000000 in
theorem rX11_lists {G : GG} {p1 : Int} {p2 : Int} {p3 : Int} {p4 : Int} {S : SS} {rr : (Int × SS)} (h : fX11_lists p1 p2 p3 p4 S = some rr) : RD G mX11_lists 7 [vr 1, vi p1, vi p2, vi p3, vi p4] S (some (vi rr.1)) rr.2 := by
  unfold fX11_lists at h
  refine Runs.of pl_X11 (Nat.le_of_ble_eq_true rfl) ?_
  show At G mX11_lists 7 0 [(0, vr 1), (1, vi p1), (2, vi p2), (3, vi p3), (4, vi p4)] [] (mm S) 0 0 (EQ (some (vi rr.1)) rr.2)
  refine At.aloadn dX11_lists_0 rfl <| At.iloadn dX11_lists_1 rfl <| ?_
  obtain ⟨q1, hq1, h⟩ := bnd_e h
  rcases ite_e h with ⟨c17, h⟩ | ⟨c17, h⟩
  · refine At.cV1 (av := [vi p1]) (rest := []) mv_X11_trayAt lk_X11_204 dX11_lists_2 rfl rfl sh_1 (Nat.le_of_ble_eq_true rfl) (by decide) ⟨rfl, rfl⟩ (rX11_trayAt hq1) <| At.astore (ls' := [(5, vr q1), (0, vr 1), (1, vi p1), (2, vi p2), (3, vi p3), (4, vi p4)]) dX11_lists_5 (by decide) rfl <| At.aload dX11_lists_7 rfl <| At.ifnull_t (tgt := 34) dX11_lists_9 (by decide) c17 <| ?_
    refine At.bipush dX11_lists_34 (by decide) <| ?_
    obtain rfl := Option.some.inj h
    exact At.iret rfl (Nat.zero_le _) (Nat.zero_le _) ⟨rfl, rfl⟩ dX11_lists_36
  · refine At.cV1 (av := [vi p1]) (rest := []) mv_X11_trayAt lk_X11_204 dX11_lists_2 rfl rfl sh_1 (Nat.le_of_ble_eq_true rfl) (by decide) ⟨rfl, rfl⟩ (rX11_trayAt hq1) <| At.astore (ls' := [(5, vr q1), (0, vr 1), (1, vi p1), (2, vi p2), (3, vi p3), (4, vi p4)]) dX11_lists_5 (by decide) rfl <| At.aload dX11_lists_7 rfl <| At.ifnull_f (tgt := 34) dX11_lists_9 (by decide) c17 <| ?_
    refine At.aloadn dX11_lists_12 rfl <| At.getR fl_X11_12 sh_1 (le149 sh_1) rf_1_0 dX11_lists_13 <| At.iloadn dX11_lists_16 rfl <| ?_
    obtain ⟨q2, hq2, h⟩ := bnd_e h
    rcases ite_e h with ⟨c16, h⟩ | ⟨c16, h⟩
    · refine At.cV1 (av := [vi p2]) (rest := []) mv_X8_hasGoer lk_X11_148 dX11_lists_17 rfl rfl sh_2 (Nat.le_of_ble_eq_true rfl) (by decide) ⟨rfl, rfl⟩ (rX8_hasGoer sh_2 hq2) <| At.bifeq_f (tgt := 34) dX11_lists_20 (by decide) c16 <| ?_
      refine At.aloadn dX11_lists_23 rfl <| At.getR fl_X11_12 sh_1 (le149 sh_1) rf_1_0 dX11_lists_24 <| At.iloadn dX11_lists_27 rfl <| ?_
      obtain ⟨q3, hq3, h⟩ := bnd_e h
      rcases ite_e h with ⟨c15, h⟩ | ⟨c15, h⟩
      · refine At.cV1 (av := [vi p3]) (rest := []) mv_X8_hasCorner lk_X11_253 dX11_lists_28 rfl rfl sh_2 (Nat.le_of_ble_eq_true rfl) (by decide) ⟨rfl, rfl⟩ (rX8_hasCorner sh_2 hq3) <| At.bifne_t (tgt := 37) dX11_lists_31 (by decide) c15 <| ?_
        refine At.aload dX11_lists_37 rfl <| ?_
        obtain ⟨g4, h⟩ := gsh_e h
        obtain ⟨q5, hq5, h⟩ := bnd_e h
        rcases ite_e h with ⟨c14, h⟩ | ⟨c14, h⟩
        · refine At.cV1 (av := []) (rest := []) mv_X9_isMissing lk_X11_208 dX11_lists_39 rfl rfl g4 (Nat.le_of_ble_eq_true rfl) (by decide) ⟨rfl, rfl⟩ (rX9_isMissing g4 hq5) <| At.bifeq_f (tgt := 48) dX11_lists_42 (by decide) c14 <| ?_
          refine At.bipush dX11_lists_45 (by decide) <| ?_
          obtain rfl := Option.some.inj h
          exact At.iret rfl (Nat.zero_le _) (Nat.zero_le _) ⟨rfl, rfl⟩ dX11_lists_47
        · refine At.cV1 (av := []) (rest := []) mv_X9_isMissing lk_X11_208 dX11_lists_39 rfl rfl g4 (Nat.le_of_ble_eq_true rfl) (by decide) ⟨rfl, rfl⟩ (rX9_isMissing g4 hq5) <| At.bifeq_t (tgt := 48) dX11_lists_42 (by decide) c14 <| ?_
          refine At.aloadn dX11_lists_48 rfl <| At.iloadn dX11_lists_49 rfl <| At.iloadn dX11_lists_50 rfl <| At.iload dX11_lists_51 rfl <| ?_
          obtain ⟨q6, hq6, h⟩ := bnd_e h
          rcases ite_e h with ⟨c13, h⟩ | ⟨c13, h⟩
          · refine At.cV1 (av := [vi p2, vi p3, vi p4]) (rest := []) mv_X11_refusesComing lk_X11_229 dX11_lists_53 rfl rfl sh_1 (Nat.le_of_ble_eq_true rfl) (by decide) ⟨rfl, rfl⟩ (rX11_refusesComing hq6) <| At.istore (ls' := [(6, vi q6), (5, vr q1), (0, vr 1), (1, vi p1), (2, vi p2), (3, vi p3), (4, vi p4)]) dX11_lists_56 (by decide) rfl <| At.iload dX11_lists_58 rfl <| At.if_eq_t (tgt := 66) dX11_lists_60 (by decide) c13 <| ?_
            refine At.aloadn dX11_lists_66 rfl <| At.iloadn dX11_lists_67 rfl <| At.iloadn dX11_lists_68 rfl <| At.iload dX11_lists_69 rfl <| At.aloadn dX11_lists_71 rfl <| At.getR fl_X11_20 sh_1 (le149 sh_1) rf_1_1 dX11_lists_72 <| ?_
            obtain ⟨q7, hq7, h⟩ := bnd_e h
            rcases ite_e h with ⟨c12, h⟩ | ⟨c12, h⟩
            · refine At.cV1 (av := [vi p2, vi p3, vi p4, vr 7]) (rest := []) mv_X11_comesTo lk_X11_233 dX11_lists_75 rfl rfl sh_1 (Nat.le_of_ble_eq_true rfl) (by decide) ⟨rfl, rfl⟩ (rX11_comesTo sh_7 hq7) <| At.istore (ls' := [(7, vi q7.1), (6, vi q6), (5, vr q1), (0, vr 1), (1, vi p1), (2, vi p2), (3, vi p3), (4, vi p4)]) dX11_lists_78 (by decide) rfl <| At.iload dX11_lists_80 rfl <| At.iconst dX11_lists_82 (by decide) <| At.icmp_ne_f (tgt := 89) dX11_lists_83 (by decide) c12 <| ?_
              refine At.bipush dX11_lists_86 (by decide) <| ?_
              obtain rfl := Option.some.inj h
              exact At.iret rfl (Nat.zero_le _) (Nat.zero_le _) ⟨rfl, rfl⟩ dX11_lists_88
            · refine At.cV1 (av := [vi p2, vi p3, vi p4, vr 7]) (rest := []) mv_X11_comesTo lk_X11_233 dX11_lists_75 rfl rfl sh_1 (Nat.le_of_ble_eq_true rfl) (by decide) ⟨rfl, rfl⟩ (rX11_comesTo sh_7 hq7) <| At.istore (ls' := [(7, vi q7.1), (6, vi q6), (5, vr q1), (0, vr 1), (1, vi p1), (2, vi p2), (3, vi p3), (4, vi p4)]) dX11_lists_78 (by decide) rfl <| At.iload dX11_lists_80 rfl <| At.iconst dX11_lists_82 (by decide) <| At.icmp_ne_t (tgt := 89) dX11_lists_83 (by decide) c12 <| ?_
              refine At.aloadn dX11_lists_89 rfl <| At.getR fl_X11_62 sh_1 (le149 sh_1) rf_1_7 dX11_lists_90 <| At.iload dX11_lists_93 rfl <| ?_
              obtain ⟨q8, hq8, h⟩ := bnd_e h
              refine At.cV1 (av := [vi q7.1]) (rest := []) mv_X10_goingsTo lk_X11_236 dX11_lists_95 rfl rfl sh_35 (Nat.le_of_ble_eq_true rfl) (by decide) ⟨rfl, rfl⟩ (rX10_goingsTo sh_35 hq8) <| At.aload dX11_lists_98 rfl <| At.getI fl_X11_337 g4 (le149 g4) dX11_lists_100 <| ?_
              obtain ⟨x9, hx9, h⟩ := lt_e h
              refine At.mmin ln_X11_266 (Nat.le_of_ble_eq_true rfl) (by decide) dX11_lists_103 <| At.nm hx9 <| At.istore (ls' := [(8, vi x9), (7, vi q7.1), (6, vi q6), (5, vr q1), (0, vr 1), (1, vi p1), (2, vi p2), (3, vi p3), (4, vi p4)]) dX11_lists_106 (by decide) rfl <| At.iconst dX11_lists_108 (by decide) <| At.istore (ls' := [(9, vi 0), (8, vi x9), (7, vi q7.1), (6, vi q6), (5, vr q1), (0, vr 1), (1, vi p1), (2, vi p2), (3, vi p3), (4, vi p4)]) dX11_lists_109 (by decide) rfl <| ?_
              obtain ⟨q10, ho11, h⟩ := bnd_e h
              refine At.sub [5, 4, 2, 1, 0] rfl (lX11_lists_L111 g4 FU _ _ q10 ho11 ?_)
              refine At.iload dX11_lists_143 rfl <| ?_
              obtain rfl := Option.some.inj h
              exact At.iret rfl (Nat.zero_le _) (Nat.zero_le _) ⟨rfl, rfl⟩ dX11_lists_145
          · refine At.cV1 (av := [vi p2, vi p3, vi p4]) (rest := []) mv_X11_refusesComing lk_X11_229 dX11_lists_53 rfl rfl sh_1 (Nat.le_of_ble_eq_true rfl) (by decide) ⟨rfl, rfl⟩ (rX11_refusesComing hq6) <| At.istore (ls' := [(6, vi q6), (5, vr q1), (0, vr 1), (1, vi p1), (2, vi p2), (3, vi p3), (4, vi p4)]) dX11_lists_56 (by decide) rfl <| At.iload dX11_lists_58 rfl <| At.if_eq_f (tgt := 66) dX11_lists_60 (by decide) c13 <| ?_
            refine At.iload dX11_lists_63 rfl <| ?_
            obtain rfl := Option.some.inj h
            exact At.iret rfl (Nat.zero_le _) (Nat.zero_le _) ⟨rfl, rfl⟩ dX11_lists_65
      · refine At.cV1 (av := [vi p3]) (rest := []) mv_X8_hasCorner lk_X11_253 dX11_lists_28 rfl rfl sh_2 (Nat.le_of_ble_eq_true rfl) (by decide) ⟨rfl, rfl⟩ (rX8_hasCorner sh_2 hq3) <| At.bifne_f (tgt := 37) dX11_lists_31 (by decide) c15 <| ?_
        refine At.bipush dX11_lists_34 (by decide) <| ?_
        obtain rfl := Option.some.inj h
        exact At.iret rfl (Nat.zero_le _) (Nat.zero_le _) ⟨rfl, rfl⟩ dX11_lists_36
    · refine At.cV1 (av := [vi p2]) (rest := []) mv_X8_hasGoer lk_X11_148 dX11_lists_17 rfl rfl sh_2 (Nat.le_of_ble_eq_true rfl) (by decide) ⟨rfl, rfl⟩ (rX8_hasGoer sh_2 hq2) <| At.bifeq_t (tgt := 34) dX11_lists_20 (by decide) c16 <| ?_
      refine At.bipush dX11_lists_34 (by decide) <| ?_
      obtain rfl := Option.some.inj h
      exact At.iret rfl (Nat.zero_le _) (Nat.zero_le _) ⟨rfl, rfl⟩ dX11_lists_36
def fX11_imageAt (p1 : Int) (S : SS) : Option Nat :=
  if p1 < 0 then (
    some 0
  ) else (
    if 2 ≤ p1 then (
      some 0
    ) else (
      rdR 102 2 p1 fun v1 =>
      some v1
    )
  )
set_option maxRecDepth 100000 in
set_option maxHeartbeats 4000000 in
theorem rX11_imageAt {G : GG} {p1 : Int} {S : SS} {rr : Nat} (h : fX11_imageAt p1 S = some rr) : RD G mX11_imageAt 1 [vr 1, vi p1] S (some (vr rr)) S := by
  unfold fX11_imageAt at h
  refine Runs.of pl_X11 (Nat.le_of_ble_eq_true rfl) ?_
  show At G mX11_imageAt 1 0 [(0, vr 1), (1, vi p1)] [] (mm S) 0 0 (EQ (some (vr rr)) S)
  rcases ite_e h with ⟨c4, h⟩ | ⟨c4, h⟩
  · refine At.iloadn dX11_imageAt_0 rfl <| At.if_lt_t (tgt := 22) dX11_imageAt_1 (by decide) c4 <| ?_
    refine At.null dX11_imageAt_22 <| ?_
    obtain rfl := Option.some.inj h
    exact At.aret rfl (Nat.zero_le _) (Nat.zero_le _) ⟨rfl, rfl⟩ dX11_imageAt_23
  · refine At.iloadn dX11_imageAt_0 rfl <| At.if_lt_f (tgt := 22) dX11_imageAt_1 (by decide) c4 <| ?_
    rcases ite_e h with ⟨c3, h⟩ | ⟨c3, h⟩
    · refine At.iloadn dX11_imageAt_4 rfl <| At.aloadn dX11_imageAt_5 rfl <| At.getR fl_X11_96 sh_1 (le149 sh_1) rf_1_13 dX11_imageAt_6 <| At.alenT sh_102 (le149 sh_102) (by decide) (z := 2) rfl dX11_imageAt_9 <| At.icmp_ge_t (tgt := 22) dX11_imageAt_10 (by decide) c3 <| ?_
      refine At.null dX11_imageAt_22 <| ?_
      obtain rfl := Option.some.inj h
      exact At.aret rfl (Nat.zero_le _) (Nat.zero_le _) ⟨rfl, rfl⟩ dX11_imageAt_23
    · refine At.iloadn dX11_imageAt_4 rfl <| At.aloadn dX11_imageAt_5 rfl <| At.getR fl_X11_96 sh_1 (le149 sh_1) rf_1_13 dX11_imageAt_6 <| At.alenT sh_102 (le149 sh_102) (by decide) (z := 2) rfl dX11_imageAt_9 <| At.icmp_ge_f (tgt := 22) dX11_imageAt_10 (by decide) c3 <| ?_
      refine At.aloadn dX11_imageAt_13 rfl <| At.getR fl_X11_96 sh_1 (le149 sh_1) rf_1_13 dX11_imageAt_14 <| At.iloadn dX11_imageAt_17 rfl <| ?_
      obtain ⟨v1, hv1, g2, h⟩ := rdR_e h
      refine At.aldT sh_102 (le149 sh_102) g2.1 g2.2 dX11_imageAt_18 <| At.nmr hv1 <| At.goto (tgt := 23) dX11_imageAt_19 (by decide) <| ?_
      obtain rfl := Option.some.inj h
      exact At.aret rfl (Nat.zero_le _) (Nat.zero_le _) ⟨rfl, rfl⟩ dX11_imageAt_23
def fX11_image (p1 : Int) (S : SS) : Option (Int × SS) :=
  Option.bind (fX11_imageAt p1 S) fun q1 =>
  if q1 = 0 then (
    some ((-2), S)
  ) else (
    gsh q1 (8, 14) <|
    Option.bind (fX8_copyOf q1 2 S) fun q3 =>
    lt (up q3 1 15 (jor (q3 1 15) (jshl 1 p1))) fun S4 =>
    some (0, S4)
  )
set_option maxRecDepth 100000 in
set_option maxHeartbeats 4000000 in
theorem rX11_image {G : GG} {p1 : Int} {S : SS} {rr : (Int × SS)} (h : fX11_image p1 S = some rr) : RD G mX11_image 5 [vr 1, vi p1] S (some (vi rr.1)) rr.2 := by
  unfold fX11_image at h
  refine Runs.of pl_X11 (Nat.le_of_ble_eq_true rfl) ?_
  show At G mX11_image 5 0 [(0, vr 1), (1, vi p1)] [] (mm S) 0 0 (EQ (some (vi rr.1)) rr.2)
  refine At.aloadn dX11_image_0 rfl <| At.iloadn dX11_image_1 rfl <| ?_
  obtain ⟨q1, hq1, h⟩ := bnd_e h
  rcases ite_e h with ⟨c5, h⟩ | ⟨c5, h⟩
  · refine At.cV1 (av := [vi p1]) (rest := []) mv_X11_imageAt lk_X11_393 dX11_image_2 rfl rfl sh_1 (Nat.le_of_ble_eq_true rfl) (by decide) ⟨rfl, rfl⟩ (rX11_imageAt hq1) <| At.astoren (ls' := [(2, vr q1), (0, vr 1), (1, vi p1)]) dX11_image_5 (by decide) rfl <| At.aloadn dX11_image_6 rfl <| At.ifnonnull_f (tgt := 13) dX11_image_7 (by decide) c5 <| ?_
    refine At.bipush dX11_image_10 (by decide) <| ?_
    obtain rfl := Option.some.inj h
    exact At.iret rfl (Nat.zero_le _) (Nat.zero_le _) ⟨rfl, rfl⟩ dX11_image_12
  · refine At.cV1 (av := [vi p1]) (rest := []) mv_X11_imageAt lk_X11_393 dX11_image_2 rfl rfl sh_1 (Nat.le_of_ble_eq_true rfl) (by decide) ⟨rfl, rfl⟩ (rX11_imageAt hq1) <| At.astoren (ls' := [(2, vr q1), (0, vr 1), (1, vi p1)]) dX11_image_5 (by decide) rfl <| At.aloadn dX11_image_6 rfl <| At.ifnonnull_t (tgt := 13) dX11_image_7 (by decide) c5 <| ?_
    refine At.aloadn dX11_image_13 rfl <| At.aloadn dX11_image_14 rfl <| At.getR fl_X11_12 sh_1 (le149 sh_1) rf_1_0 dX11_image_15 <| ?_
    obtain ⟨g2, h⟩ := gsh_e h
    obtain ⟨q3, hq3, h⟩ := bnd_e h
    refine At.cV0 (av := [vr 2]) (rest := []) mv_X8_copyOf lk_X11_397 dX11_image_18 rfl rfl g2 (Nat.le_of_ble_eq_true rfl) (by decide) ⟨rfl, rfl⟩ (rX8_copyOf g2 sh_2 hq3) <| At.aloadn dX11_image_21 rfl <| At.dup rfl dX11_image_22 <| At.getI fl_X11_399 sh_1 (le149 sh_1) dX11_image_23 <| At.iconst dX11_image_26 (by decide) <| At.iloadn dX11_image_27 rfl <| At.ishl dX11_image_28 <| At.ior dX11_image_29 <| ?_
    obtain ⟨S4, hS4, h⟩ := lt_e h
    refine At.putI fw_X11_399 sh_1 (le149 sh_1) dX11_image_30 <| At.nmS hS4 <| At.iconst dX11_image_33 (by decide) <| ?_
    obtain rfl := Option.some.inj h
    exact At.iret rfl (Nat.zero_le _) (Nat.zero_le _) ⟨rfl, rfl⟩ dX11_image_34
def fX11_restore (p1 : Int) (S : SS) : Option (Int × SS) :=
  Option.bind (fX11_imageAt p1 S) fun q1 =>
  if q1 = 0 then (
    some ((-2), S)
  ) else (
    if (jand (jshr (S 1 15) p1) 1) = 0 then (
      some ((-5), S)
    ) else (
      gsh q1 (8, 14) <|
      Option.bind (fX11_becomes q1 S) fun q3 =>
      some (0, q3)
    )
  )
set_option maxRecDepth 100000 in
set_option maxHeartbeats 4000000 in
theorem rX11_restore {G : GG} {p1 : Int} {S : SS} {rr : (Int × SS)} (h : fX11_restore p1 S = some rr) : RD G mX11_restore 6 [vr 1, vi p1] S (some (vi rr.1)) rr.2 := by
  unfold fX11_restore at h
  refine Runs.of pl_X11 (Nat.le_of_ble_eq_true rfl) ?_
  show At G mX11_restore 6 0 [(0, vr 1), (1, vi p1)] [] (mm S) 0 0 (EQ (some (vi rr.1)) rr.2)
  refine At.aloadn dX11_restore_0 rfl <| At.iloadn dX11_restore_1 rfl <| ?_
  obtain ⟨q1, hq1, h⟩ := bnd_e h
  rcases ite_e h with ⟨c5, h⟩ | ⟨c5, h⟩
  · refine At.cV1 (av := [vi p1]) (rest := []) mv_X11_imageAt lk_X11_393 dX11_restore_2 rfl rfl sh_1 (Nat.le_of_ble_eq_true rfl) (by decide) ⟨rfl, rfl⟩ (rX11_imageAt hq1) <| At.astoren (ls' := [(2, vr q1), (0, vr 1), (1, vi p1)]) dX11_restore_5 (by decide) rfl <| At.aloadn dX11_restore_6 rfl <| At.ifnonnull_f (tgt := 13) dX11_restore_7 (by decide) c5 <| ?_
    refine At.bipush dX11_restore_10 (by decide) <| ?_
    obtain rfl := Option.some.inj h
    exact At.iret rfl (Nat.zero_le _) (Nat.zero_le _) ⟨rfl, rfl⟩ dX11_restore_12
  · refine At.cV1 (av := [vi p1]) (rest := []) mv_X11_imageAt lk_X11_393 dX11_restore_2 rfl rfl sh_1 (Nat.le_of_ble_eq_true rfl) (by decide) ⟨rfl, rfl⟩ (rX11_imageAt hq1) <| At.astoren (ls' := [(2, vr q1), (0, vr 1), (1, vi p1)]) dX11_restore_5 (by decide) rfl <| At.aloadn dX11_restore_6 rfl <| At.ifnonnull_t (tgt := 13) dX11_restore_7 (by decide) c5 <| ?_
    rcases ite_e h with ⟨c4, h⟩ | ⟨c4, h⟩
    · refine At.aloadn dX11_restore_13 rfl <| At.getI fl_X11_399 sh_1 (le149 sh_1) dX11_restore_14 <| At.iloadn dX11_restore_17 rfl <| At.ishr dX11_restore_18 <| At.iconst dX11_restore_19 (by decide) <| At.iand dX11_restore_20 <| At.if_ne_f (tgt := 27) dX11_restore_21 (by decide) c4 <| ?_
      refine At.bipush dX11_restore_24 (by decide) <| ?_
      obtain rfl := Option.some.inj h
      exact At.iret rfl (Nat.zero_le _) (Nat.zero_le _) ⟨rfl, rfl⟩ dX11_restore_26
    · refine At.aloadn dX11_restore_13 rfl <| At.getI fl_X11_399 sh_1 (le149 sh_1) dX11_restore_14 <| At.iloadn dX11_restore_17 rfl <| At.ishr dX11_restore_18 <| At.iconst dX11_restore_19 (by decide) <| At.iand dX11_restore_20 <| At.if_ne_t (tgt := 27) dX11_restore_21 (by decide) c4 <| ?_
      refine At.aloadn dX11_restore_27 rfl <| At.aloadn dX11_restore_28 rfl <| ?_
      obtain ⟨g2, h⟩ := gsh_e h
      obtain ⟨q3, hq3, h⟩ := bnd_e h
      refine At.cV0 (av := [vr q1]) (rest := []) mv_X11_becomes lk_X11_122 dX11_restore_29 rfl rfl sh_1 (Nat.le_of_ble_eq_true rfl) (by decide) ⟨rfl, rfl⟩ (rX11_becomes g2 hq3) <| At.iconst dX11_restore_32 (by decide) <| ?_
      obtain rfl := Option.some.inj h
      exact At.iret rfl (Nat.zero_le _) (Nat.zero_le _) ⟨rfl, rfl⟩ dX11_restore_33
def fX11_count (p1 : Int) (S : SS) : Option Int :=
  if p1 = 0 then (
    some (S 2 5)
  ) else (
    if p1 = 1 then (
      some (S 2 6)
    ) else (
      if p1 = 2 then (
        some (S 2 7)
      ) else (
        if p1 = 3 then (
          some (S 7 3)
        ) else (
          if p1 = 4 then (
            Option.bind (fX6_shutStreets 7 (S 2 6) S) fun q6 =>
            some q6
          ) else (
            if p1 = 5 then (
              Option.bind (fX11_yearsTogether 7 S) fun q8 =>
              some q8
            ) else (
              if p1 = 6 then (
                some (S 59 2)
              ) else (
                if p1 = 7 then (
                  some (S 19 2)
                ) else (
                  if p1 = 8 then (
                    some (S 2 8)
                  ) else (
                    some ((-1))
                  )
                )
              )
            )
          )
        )
      )
    )
  )
set_option maxRecDepth 100000 in
set_option maxHeartbeats 4000000 in
theorem rX11_count {G : GG} {p1 : Int} {S : SS} {rr : Int} (h : fX11_count p1 S = some rr) : RD G mX11_count 3 [vr 1, vi p1] S (some (vi rr)) S := by
  unfold fX11_count at h
  refine Runs.of pl_X11 (Nat.le_of_ble_eq_true rfl) ?_
  show At G mX11_count 3 0 [(0, vr 1), (1, vi p1)] [] (mm S) 0 0 (EQ (some (vi rr)) S)
  rcases ite_e h with ⟨c1, h⟩ | ⟨c1, h⟩
  · refine At.iloadn dX11_count_0 rfl <| At.tsIn (off := 51) (tgt := 52) dX11_count_1 (by omega) (by omega) (by rw [c1] <;> rfl) (by decide) <| ?_
    refine At.aloadn dX11_count_52 rfl <| At.getR fl_X11_12 sh_1 (le149 sh_1) rf_1_0 dX11_count_53 <| At.getI fl_X11_324 sh_2 (le149 sh_2) dX11_count_56 <| ?_
    obtain rfl := Option.some.inj h
    exact At.iret rfl (Nat.zero_le _) (Nat.zero_le _) ⟨rfl, rfl⟩ dX11_count_59
  · rcases ite_e h with ⟨c2, h⟩ | ⟨c2, h⟩
    · refine At.iloadn dX11_count_0 rfl <| At.tsIn (off := 59) (tgt := 60) dX11_count_1 (by omega) (by omega) (by rw [c2] <;> rfl) (by decide) <| ?_
      refine At.aloadn dX11_count_60 rfl <| At.getR fl_X11_12 sh_1 (le149 sh_1) rf_1_0 dX11_count_61 <| At.getI fl_X11_160 sh_2 (le149 sh_2) dX11_count_64 <| ?_
      obtain rfl := Option.some.inj h
      exact At.iret rfl (Nat.zero_le _) (Nat.zero_le _) ⟨rfl, rfl⟩ dX11_count_67
    · rcases ite_e h with ⟨c3, h⟩ | ⟨c3, h⟩
      · refine At.iloadn dX11_count_0 rfl <| At.tsIn (off := 67) (tgt := 68) dX11_count_1 (by omega) (by omega) (by rw [c3] <;> rfl) (by decide) <| ?_
        refine At.aloadn dX11_count_68 rfl <| At.getR fl_X11_12 sh_1 (le149 sh_1) rf_1_0 dX11_count_69 <| At.getI fl_X11_402 sh_2 (le149 sh_2) dX11_count_72 <| ?_
        obtain rfl := Option.some.inj h
        exact At.iret rfl (Nat.zero_le _) (Nat.zero_le _) ⟨rfl, rfl⟩ dX11_count_75
      · rcases ite_e h with ⟨c4, h⟩ | ⟨c4, h⟩
        · refine At.iloadn dX11_count_0 rfl <| At.tsIn (off := 75) (tgt := 76) dX11_count_1 (by omega) (by omega) (by rw [c4] <;> rfl) (by decide) <| ?_
          refine At.aloadn dX11_count_76 rfl <| At.getR fl_X11_20 sh_1 (le149 sh_1) rf_1_1 dX11_count_77 <| At.getI fl_X11_188 sh_7 (le149 sh_7) dX11_count_80 <| ?_
          obtain rfl := Option.some.inj h
          exact At.iret rfl (Nat.zero_le _) (Nat.zero_le _) ⟨rfl, rfl⟩ dX11_count_83
        · rcases ite_e h with ⟨c5, h⟩ | ⟨c5, h⟩
          · refine At.iloadn dX11_count_0 rfl <| At.tsIn (off := 83) (tgt := 84) dX11_count_1 (by omega) (by omega) (by rw [c5] <;> rfl) (by decide) <| ?_
            refine At.aloadn dX11_count_84 rfl <| At.getR fl_X11_20 sh_1 (le149 sh_1) rf_1_1 dX11_count_85 <| At.aloadn dX11_count_88 rfl <| At.getR fl_X11_12 sh_1 (le149 sh_1) rf_1_0 dX11_count_89 <| At.getI fl_X11_160 sh_2 (le149 sh_2) dX11_count_92 <| ?_
            obtain ⟨q6, hq6, h⟩ := bnd_e h
            refine At.cV1 (av := [vi (S 2 6)]) (rest := []) mv_X6_shutStreets lk_X11_291 dX11_count_95 rfl rfl sh_7 (Nat.le_of_ble_eq_true rfl) (by decide) ⟨rfl, rfl⟩ (rX6_shutStreets sh_7 hq6) <| ?_
            obtain rfl := Option.some.inj h
            exact At.iret rfl (Nat.zero_le _) (Nat.zero_le _) ⟨rfl, rfl⟩ dX11_count_98
          · rcases ite_e h with ⟨c7, h⟩ | ⟨c7, h⟩
            · refine At.iloadn dX11_count_0 rfl <| At.tsIn (off := 98) (tgt := 99) dX11_count_1 (by omega) (by omega) (by rw [c7] <;> rfl) (by decide) <| ?_
              refine At.aloadn dX11_count_99 rfl <| At.aloadn dX11_count_100 rfl <| At.getR fl_X11_20 sh_1 (le149 sh_1) rf_1_1 dX11_count_101 <| ?_
              obtain ⟨q8, hq8, h⟩ := bnd_e h
              refine At.cV1 (av := [vr 7]) (rest := []) mv_X11_yearsTogether lk_X11_219 dX11_count_104 rfl rfl sh_1 (Nat.le_of_ble_eq_true rfl) (by decide) ⟨rfl, rfl⟩ (rX11_yearsTogether sh_7 hq8) <| ?_
              obtain rfl := Option.some.inj h
              exact At.iret rfl (Nat.zero_le _) (Nat.zero_le _) ⟨rfl, rfl⟩ dX11_count_107
            · rcases ite_e h with ⟨c9, h⟩ | ⟨c9, h⟩
              · refine At.iloadn dX11_count_0 rfl <| At.tsIn (off := 107) (tgt := 108) dX11_count_1 (by omega) (by omega) (by rw [c9] <;> rfl) (by decide) <| ?_
                refine At.aloadn dX11_count_108 rfl <| At.getR fl_X11_86 sh_1 (le149 sh_1) rf_1_11 dX11_count_109 <| At.getI fl_X11_197 sh_59 (le149 sh_59) dX11_count_112 <| ?_
                obtain rfl := Option.some.inj h
                exact At.iret rfl (Nat.zero_le _) (Nat.zero_le _) ⟨rfl, rfl⟩ dX11_count_115
              · rcases ite_e h with ⟨c10, h⟩ | ⟨c10, h⟩
                · refine At.iloadn dX11_count_0 rfl <| At.tsIn (off := 115) (tgt := 116) dX11_count_1 (by omega) (by omega) (by rw [c10] <;> rfl) (by decide) <| ?_
                  refine At.aloadn dX11_count_116 rfl <| At.getR fl_X11_35 sh_1 (le149 sh_1) rf_1_4 dX11_count_117 <| At.getI fl_X11_105 sh_19 (le149 sh_19) dX11_count_120 <| ?_
                  obtain rfl := Option.some.inj h
                  exact At.iret rfl (Nat.zero_le _) (Nat.zero_le _) ⟨rfl, rfl⟩ dX11_count_123
                · rcases ite_e h with ⟨c11, h⟩ | ⟨c11, h⟩
                  · refine At.iloadn dX11_count_0 rfl <| At.tsIn (off := 123) (tgt := 124) dX11_count_1 (by omega) (by omega) (by rw [c11] <;> rfl) (by decide) <| ?_
                    refine At.aloadn dX11_count_124 rfl <| At.getR fl_X11_12 sh_1 (le149 sh_1) rf_1_0 dX11_count_125 <| At.getI fl_X11_125 sh_2 (le149 sh_2) dX11_count_128 <| ?_
                    obtain rfl := Option.some.inj h
                    exact At.iret rfl (Nat.zero_le _) (Nat.zero_le _) ⟨rfl, rfl⟩ dX11_count_131
                  · have hz : (p1 < 0 ∨ 8 < p1) := by omega
                    refine At.iloadn dX11_count_0 rfl <| At.tsOut (tgt := 132) dX11_count_1 hz (by decide) <| ?_
                    refine At.iconst dX11_count_132 (by decide) <| ?_
                    obtain rfl := Option.some.inj h
                    exact At.iret rfl (Nat.zero_le _) (Nat.zero_le _) ⟨rfl, rfl⟩ dX11_count_133
def fX12_within (p0 : Int) (p2 : Int) (p4 : Int) : Option Bool :=
  if (lc p0 p2) < 0 then (
    some false
  ) else (
    if 0 < (lc p0 p4) then (
      some false
    ) else (
      some true
    )
  )
set_option maxRecDepth 100000 in
set_option maxHeartbeats 4000000 in
theorem rX12_within {G : GG} {p0 : Int} {p2 : Int} {p4 : Int} {S : SS} {rr : Bool} (h : fX12_within p0 p2 p4 = some rr) : RD G mX12_within 1 [vl p0, vl p2, vl p4] S (some (vi (bI rr))) S := by
  unfold fX12_within at h
  refine Runs.of pl_X12 (Nat.le_of_ble_eq_true rfl) ?_
  show At G mX12_within 1 0 [(0, vl p0), (2, vl p2), (4, vl p4)] [] (mm S) 0 0 (EQ (some (vi (bI rr))) S)
  rcases ite_e h with ⟨c2, h⟩ | ⟨c2, h⟩
  · refine At.lloadn dX12_within_0 rfl <| At.lloadn dX12_within_1 rfl <| At.lcmp dX12_within_2 <| At.if_lt_t (tgt := 17) dX12_within_3 (by decide) c2 <| ?_
    refine At.iconst dX12_within_17 (by decide) <| ?_
    obtain rfl := Option.some.inj h
    exact At.zret (b := false) rfl (Nat.zero_le _) (Nat.zero_le _) ⟨rfl, rfl⟩ dX12_within_18
  · refine At.lloadn dX12_within_0 rfl <| At.lloadn dX12_within_1 rfl <| At.lcmp dX12_within_2 <| At.if_lt_f (tgt := 17) dX12_within_3 (by decide) c2 <| ?_
    rcases ite_e h with ⟨c1, h⟩ | ⟨c1, h⟩
    · refine At.lloadn dX12_within_6 rfl <| At.lload dX12_within_7 rfl <| At.lcmp dX12_within_9 <| At.if_gt_t (tgt := 17) dX12_within_10 (by decide) c1 <| ?_
      refine At.iconst dX12_within_17 (by decide) <| ?_
      obtain rfl := Option.some.inj h
      exact At.zret (b := false) rfl (Nat.zero_le _) (Nat.zero_le _) ⟨rfl, rfl⟩ dX12_within_18
    · refine At.lloadn dX12_within_6 rfl <| At.lload dX12_within_7 rfl <| At.lcmp dX12_within_9 <| At.if_gt_f (tgt := 17) dX12_within_10 (by decide) c1 <| ?_
      refine At.iconst dX12_within_13 (by decide) <| At.goto (tgt := 18) dX12_within_14 (by decide) <| ?_
      obtain rfl := Option.some.inj h
      exact At.zret (b := true) rfl (Nat.zero_le _) (Nat.zero_le _) ⟨rfl, rfl⟩ dX12_within_18
def fX12_feed_L24 (l1 : Int) (l2 : Int) (l3 : Int) (l4 : Int) (l5 : Int) : Nat → Int → SS → Option (SS)
  | 0, _, _ => none
  | n + 1, l6, S =>
    if 20 ≤ l6 then (
      some S
    ) else (
      Option.bind (
        if 4 ≤ l6 then (
          if 8 ≤ l6 then (
            if 12 ≤ l6 then (
              if 16 ≤ l6 then (
                some l5
              ) else (
                some l4
              )
            ) else (
              some l3
            )
          ) else (
            some l2
          )
        ) else (
          some l1
        )
        : Option (Int)) fun q1 =>
      wrA S 133 900 (S 130 5) (jand (jshr q1 (w32 (24 - (w32 (8 * (Int.tmod l6 4)))))) 255) fun S6 =>
      lt (up S6 130 5 (w32 ((S6 130 5) + 1))) fun S8 =>
      lt (w32 (l6 + 1)) fun x9 =>
      fX12_feed_L24 l1 l2 l3 l4 l5 n x9 S8
    )
def fX12_feed (p1 : Int) (p2 : Int) (p3 : Int) (p4 : Int) (p5 : Int) (S : SS) : Option (Int × SS) :=
  lt (up S 130 0 0) fun S1 =>
  if (w32 ((S1 130 5) + 20)) ≤ 900 then (
    Option.bind (fX12_feed_L24 p1 p2 p3 p4 p5 FU 0 S1) fun q2 =>
    some (q2 130 5, q2)
  ) else (
    some ((-5), S1)
  )
set_option maxRecDepth 100000 in
set_option maxHeartbeats 4000000 in
theorem lX12_feed_L24 {G : GG} {Φ : Option VV → MM → Prop} {l1 : Int} {l2 : Int} {l3 : Int} {l4 : Int} {l5 : Int} : ∀ (n : Nat) (l6 : Int) (S : SS) (q : SS), fX12_feed_L24 l1 l2 l3 l4 l5 n l6 S = some q → At G mX12_feed 1 121 [(0, vr 130)] [] (mm q) 0 0 Φ → At G mX12_feed 1 24 [(0, vr 130), (1, vi l1), (2, vi l2), (3, vi l3), (4, vi l4), (5, vi l5), (6, vi l6)] [] (mm S) 0 0 Φ := by
  intro n
  induction n with
  | zero =>
    intro _ _ _ h
    cases h
  | succ n ih =>
    intro l6 S q h K121
    unfold fX12_feed_L24 at h
    rcases ite_e h with ⟨c10, h⟩ | ⟨c10, h⟩
    · refine At.iload dX12_feed_24 rfl <| At.bipush dX12_feed_26 (by decide) <| At.icmp_ge_t (tgt := 121) dX12_feed_28 (by decide) c10 <| ?_
      obtain rfl := Option.some.inj h
      exact At.sub [0] rfl K121
    · refine At.iload dX12_feed_24 rfl <| At.bipush dX12_feed_26 (by decide) <| At.icmp_ge_f (tgt := 121) dX12_feed_28 (by decide) c10 <| ?_
      obtain ⟨q1, hj77, h⟩ := bnd_e h
      have K77 : At G mX12_feed 1 77 [(0, vr 130), (1, vi l1), (2, vi l2), (3, vi l3), (4, vi l4), (5, vi l5), (6, vi l6)] [vi q1] (mm S) 0 0 Φ := by
        refine At.istore (ls' := [(7, vi q1), (0, vr 130), (1, vi l1), (2, vi l2), (3, vi l3), (4, vi l4), (5, vi l5), (6, vi l6)]) dX12_feed_77 (by decide) rfl <| At.aloadn dX12_feed_79 rfl <| At.getR fl_X12_21 sh_130 (le149 sh_130) rf_130_3 dX12_feed_80 <| At.aloadn dX12_feed_83 rfl <| At.getI fl_X12_80 sh_130 (le149 sh_130) dX12_feed_84 <| At.iload dX12_feed_87 rfl <| At.bipush dX12_feed_89 (by decide) <| At.bipush dX12_feed_91 (by decide) <| At.iload dX12_feed_93 rfl <| At.iconst dX12_feed_95 (by decide) <| At.irem dX12_feed_96 (by decide) <| At.imul dX12_feed_97 <| At.isub dX12_feed_98 <| At.ishr dX12_feed_99 <| At.sipush dX12_feed_100 (by decide) <| At.iand dX12_feed_103 <| ?_
        obtain ⟨S6, hS6, g7, h⟩ := wrA_e h
        refine At.iast sh_133 (le149 sh_133) g7.1 g7.2 dX12_feed_104 <| At.nmS hS6 <| At.aloadn dX12_feed_105 rfl <| At.dup rfl dX12_feed_106 <| At.getI fl_X12_80 sh_130 (le149 sh_130) dX12_feed_107 <| At.iconst dX12_feed_110 (by decide) <| At.iadd dX12_feed_111 <| ?_
        obtain ⟨S8, hS8, h⟩ := lt_e h
        refine At.putI fw_X12_80 sh_130 (le149 sh_130) dX12_feed_112 <| At.nmS hS8 <| ?_
        obtain ⟨x9, hx9, h⟩ := lt_e h
        refine At.iinc (ls' := [(6, vi x9), (7, vi q1), (0, vr 130), (1, vi l1), (2, vi l2), (3, vi l3), (4, vi l4), (5, vi l5)]) dX12_feed_115 rfl (by decide) (by rw [hx9]; rfl) <| At.goto (tgt := 24) dX12_feed_118 (by decide) <| ?_
        exact At.sub [2, 3, 4, 5, 6, 7, 0] rfl (ih _ _ _ h K121)
      clear h; have h := hj77; clear hj77
      rcases ite_e h with ⟨c5, h⟩ | ⟨c5, h⟩
      · refine At.iload dX12_feed_31 rfl <| At.iconst dX12_feed_33 (by decide) <| At.icmp_ge_t (tgt := 41) dX12_feed_34 (by decide) c5 <| ?_
        rcases ite_e h with ⟨c4, h⟩ | ⟨c4, h⟩
        · refine At.iload dX12_feed_41 rfl <| At.bipush dX12_feed_43 (by decide) <| At.icmp_ge_t (tgt := 52) dX12_feed_45 (by decide) c4 <| ?_
          rcases ite_e h with ⟨c3, h⟩ | ⟨c3, h⟩
          · refine At.iload dX12_feed_52 rfl <| At.bipush dX12_feed_54 (by decide) <| At.icmp_ge_t (tgt := 63) dX12_feed_56 (by decide) c3 <| ?_
            rcases ite_e h with ⟨c2, h⟩ | ⟨c2, h⟩
            · refine At.iload dX12_feed_63 rfl <| At.bipush dX12_feed_65 (by decide) <| At.icmp_ge_t (tgt := 75) dX12_feed_67 (by decide) c2 <| ?_
              refine At.iload dX12_feed_75 rfl <| ?_
              obtain rfl := Option.some.inj h
              exact At.sub [0, 1, 2, 3, 4, 5, 6] rfl K77
            · refine At.iload dX12_feed_63 rfl <| At.bipush dX12_feed_65 (by decide) <| At.icmp_ge_f (tgt := 75) dX12_feed_67 (by decide) c2 <| ?_
              refine At.iload dX12_feed_70 rfl <| At.goto (tgt := 77) dX12_feed_72 (by decide) <| ?_
              obtain rfl := Option.some.inj h
              exact At.sub [0, 1, 2, 3, 4, 5, 6] rfl K77
          · refine At.iload dX12_feed_52 rfl <| At.bipush dX12_feed_54 (by decide) <| At.icmp_ge_f (tgt := 63) dX12_feed_56 (by decide) c3 <| ?_
            refine At.iloadn dX12_feed_59 rfl <| At.goto (tgt := 77) dX12_feed_60 (by decide) <| ?_
            obtain rfl := Option.some.inj h
            exact At.sub [0, 1, 2, 3, 4, 5, 6] rfl K77
        · refine At.iload dX12_feed_41 rfl <| At.bipush dX12_feed_43 (by decide) <| At.icmp_ge_f (tgt := 52) dX12_feed_45 (by decide) c4 <| ?_
          refine At.iloadn dX12_feed_48 rfl <| At.goto (tgt := 77) dX12_feed_49 (by decide) <| ?_
          obtain rfl := Option.some.inj h
          exact At.sub [0, 1, 2, 3, 4, 5, 6] rfl K77
      · refine At.iload dX12_feed_31 rfl <| At.iconst dX12_feed_33 (by decide) <| At.icmp_ge_f (tgt := 41) dX12_feed_34 (by decide) c5 <| ?_
        refine At.iloadn dX12_feed_37 rfl <| At.goto (tgt := 77) dX12_feed_38 (by decide) <| ?_
        obtain rfl := Option.some.inj h
        exact At.sub [0, 1, 2, 3, 4, 5, 6] rfl K77
set_option maxRecDepth 100000 in
set_option maxHeartbeats 4000000 in
theorem rX12_feed {G : GG} {p1 : Int} {p2 : Int} {p3 : Int} {p4 : Int} {p5 : Int} {S : SS} {rr : (Int × SS)} (h : fX12_feed p1 p2 p3 p4 p5 S = some rr) : RD G mX12_feed 1 [vr 130, vi p1, vi p2, vi p3, vi p4, vi p5] S (some (vi rr.1)) rr.2 := by
  unfold fX12_feed at h
  refine Runs.of pl_X12 (Nat.le_of_ble_eq_true rfl) ?_
  show At G mX12_feed 1 0 [(0, vr 130), (1, vi p1), (2, vi p2), (3, vi p3), (4, vi p4), (5, vi p5)] [] (mm S) 0 0 (EQ (some (vi rr.1)) rr.2)
  refine At.aloadn dX12_feed_0 rfl <| At.iconst dX12_feed_1 (by decide) <| ?_
  obtain ⟨S1, hS1, h⟩ := lt_e h
  rcases ite_e h with ⟨c4, h⟩ | ⟨c4, h⟩
  · refine At.putI fw_X12_1 sh_130 (le149 sh_130) dX12_feed_2 <| At.nmS hS1 <| At.aloadn dX12_feed_5 rfl <| At.getI fl_X12_80 sh_130 (le149 sh_130) dX12_feed_6 <| At.bipush dX12_feed_9 (by decide) <| At.iadd dX12_feed_11 <| At.sipush dX12_feed_12 (by decide) <| At.icmp_le_t (tgt := 21) dX12_feed_15 (by decide) c4 <| ?_
    refine At.iconst dX12_feed_21 (by decide) <| At.istore (ls' := [(6, vi 0), (0, vr 130), (1, vi p1), (2, vi p2), (3, vi p3), (4, vi p4), (5, vi p5)]) dX12_feed_22 (by decide) rfl <| ?_
    obtain ⟨q2, ho3, h⟩ := bnd_e h
    refine At.sub [1, 2, 3, 4, 5, 6, 0] rfl (lX12_feed_L24 FU _ _ q2 ho3 ?_)
    refine At.aloadn dX12_feed_121 rfl <| At.getI fl_X12_80 sh_130 (le149 sh_130) dX12_feed_122 <| ?_
    obtain rfl := Option.some.inj h
    exact At.iret rfl (Nat.zero_le _) (Nat.zero_le _) ⟨rfl, rfl⟩ dX12_feed_125
  · refine At.putI fw_X12_1 sh_130 (le149 sh_130) dX12_feed_2 <| At.nmS hS1 <| At.aloadn dX12_feed_5 rfl <| At.getI fl_X12_80 sh_130 (le149 sh_130) dX12_feed_6 <| At.bipush dX12_feed_9 (by decide) <| At.iadd dX12_feed_11 <| At.sipush dX12_feed_12 (by decide) <| At.icmp_le_f (tgt := 21) dX12_feed_15 (by decide) c4 <| ?_
    refine At.bipush dX12_feed_18 (by decide) <| ?_
    obtain rfl := Option.some.inj h
    exact At.iret rfl (Nat.zero_le _) (Nat.zero_le _) ⟨rfl, rfl⟩ dX12_feed_20
def fX12_see (p1 : Int) (S : SS) : Option Int :=
  if (S 130 8) ≤ p1 then (
    some ((-1))
  ) else (
    rdA S 133 900 p1 fun v1 =>
    some v1
  )
set_option maxRecDepth 100000 in
set_option maxHeartbeats 4000000 in
theorem rX12_see {G : GG} {p1 : Int} {S : SS} {rr : Int} (h : fX12_see p1 S = some rr) : RD G mX12_see 1 [vr 130, vi p1] S (some (vi rr)) S := by
  unfold fX12_see at h
  refine Runs.of pl_X12 (Nat.le_of_ble_eq_true rfl) ?_
  show At G mX12_see 1 0 [(0, vr 130), (1, vi p1)] [] (mm S) 0 0 (EQ (some (vi rr)) S)
  rcases ite_e h with ⟨c3, h⟩ | ⟨c3, h⟩
  · refine At.iloadn dX12_see_0 rfl <| At.aloadn dX12_see_1 rfl <| At.getI fl_X12_83 sh_130 (le149 sh_130) dX12_see_2 <| At.icmp_ge_t (tgt := 17) dX12_see_5 (by decide) c3 <| ?_
    refine At.iconst dX12_see_17 (by decide) <| ?_
    obtain rfl := Option.some.inj h
    exact At.iret rfl (Nat.zero_le _) (Nat.zero_le _) ⟨rfl, rfl⟩ dX12_see_18
  · refine At.iloadn dX12_see_0 rfl <| At.aloadn dX12_see_1 rfl <| At.getI fl_X12_83 sh_130 (le149 sh_130) dX12_see_2 <| At.icmp_ge_f (tgt := 17) dX12_see_5 (by decide) c3 <| ?_
    refine At.aloadn dX12_see_8 rfl <| At.getR fl_X12_21 sh_130 (le149 sh_130) rf_130_3 dX12_see_9 <| At.iloadn dX12_see_12 rfl <| ?_
    obtain ⟨v1, hv1, g2, h⟩ := rdA_e h
    refine At.iald sh_133 (le149 sh_133) g2.1 g2.2 dX12_see_13 <| At.nm hv1 <| At.goto (tgt := 18) dX12_see_14 (by decide) <| ?_
    obtain rfl := Option.some.inj h
    exact At.iret rfl (Nat.zero_le _) (Nat.zero_le _) ⟨rfl, rfl⟩ dX12_see_18
def fX12_isSmall (p0 : Int) : Option Bool :=
  if p0 < 97 then (
    some false
  ) else (
    if 122 < p0 then (
      some false
    ) else (
      some true
    )
  )
set_option maxRecDepth 100000 in
set_option maxHeartbeats 4000000 in
theorem rX12_isSmall {G : GG} {p0 : Int} {S : SS} {rr : Bool} (h : fX12_isSmall p0 = some rr) : RD G mX12_isSmall 1 [vi p0] S (some (vi (bI rr))) S := by
  unfold fX12_isSmall at h
  refine Runs.of pl_X12 (Nat.le_of_ble_eq_true rfl) ?_
  show At G mX12_isSmall 1 0 [(0, vi p0)] [] (mm S) 0 0 (EQ (some (vi (bI rr))) S)
  rcases ite_e h with ⟨c2, h⟩ | ⟨c2, h⟩
  · refine At.iloadn dX12_isSmall_0 rfl <| At.bipush dX12_isSmall_1 (by decide) <| At.icmp_lt_t (tgt := 16) dX12_isSmall_3 (by decide) c2 <| ?_
    refine At.iconst dX12_isSmall_16 (by decide) <| ?_
    obtain rfl := Option.some.inj h
    exact At.zret (b := false) rfl (Nat.zero_le _) (Nat.zero_le _) ⟨rfl, rfl⟩ dX12_isSmall_17
  · refine At.iloadn dX12_isSmall_0 rfl <| At.bipush dX12_isSmall_1 (by decide) <| At.icmp_lt_f (tgt := 16) dX12_isSmall_3 (by decide) c2 <| ?_
    rcases ite_e h with ⟨c1, h⟩ | ⟨c1, h⟩
    · refine At.iloadn dX12_isSmall_6 rfl <| At.bipush dX12_isSmall_7 (by decide) <| At.icmp_gt_t (tgt := 16) dX12_isSmall_9 (by decide) c1 <| ?_
      refine At.iconst dX12_isSmall_16 (by decide) <| ?_
      obtain rfl := Option.some.inj h
      exact At.zret (b := false) rfl (Nat.zero_le _) (Nat.zero_le _) ⟨rfl, rfl⟩ dX12_isSmall_17
    · refine At.iloadn dX12_isSmall_6 rfl <| At.bipush dX12_isSmall_7 (by decide) <| At.icmp_gt_f (tgt := 16) dX12_isSmall_9 (by decide) c1 <| ?_
      refine At.iconst dX12_isSmall_12 (by decide) <| At.goto (tgt := 17) dX12_isSmall_13 (by decide) <| ?_
      obtain rfl := Option.some.inj h
      exact At.zret (b := true) rfl (Nat.zero_le _) (Nat.zero_le _) ⟨rfl, rfl⟩ dX12_isSmall_17
def fX12_isDigit (p0 : Int) : Option Bool :=
  if p0 < 48 then (
    some false
  ) else (
    if 57 < p0 then (
      some false
    ) else (
      some true
    )
  )
set_option maxRecDepth 100000 in
set_option maxHeartbeats 4000000 in
theorem rX12_isDigit {G : GG} {p0 : Int} {S : SS} {rr : Bool} (h : fX12_isDigit p0 = some rr) : RD G mX12_isDigit 1 [vi p0] S (some (vi (bI rr))) S := by
  unfold fX12_isDigit at h
  refine Runs.of pl_X12 (Nat.le_of_ble_eq_true rfl) ?_
  show At G mX12_isDigit 1 0 [(0, vi p0)] [] (mm S) 0 0 (EQ (some (vi (bI rr))) S)
  rcases ite_e h with ⟨c2, h⟩ | ⟨c2, h⟩
  · refine At.iloadn dX12_isDigit_0 rfl <| At.bipush dX12_isDigit_1 (by decide) <| At.icmp_lt_t (tgt := 16) dX12_isDigit_3 (by decide) c2 <| ?_
    refine At.iconst dX12_isDigit_16 (by decide) <| ?_
    obtain rfl := Option.some.inj h
    exact At.zret (b := false) rfl (Nat.zero_le _) (Nat.zero_le _) ⟨rfl, rfl⟩ dX12_isDigit_17
  · refine At.iloadn dX12_isDigit_0 rfl <| At.bipush dX12_isDigit_1 (by decide) <| At.icmp_lt_f (tgt := 16) dX12_isDigit_3 (by decide) c2 <| ?_
    rcases ite_e h with ⟨c1, h⟩ | ⟨c1, h⟩
    · refine At.iloadn dX12_isDigit_6 rfl <| At.bipush dX12_isDigit_7 (by decide) <| At.icmp_gt_t (tgt := 16) dX12_isDigit_9 (by decide) c1 <| ?_
      refine At.iconst dX12_isDigit_16 (by decide) <| ?_
      obtain rfl := Option.some.inj h
      exact At.zret (b := false) rfl (Nat.zero_le _) (Nat.zero_le _) ⟨rfl, rfl⟩ dX12_isDigit_17
    · refine At.iloadn dX12_isDigit_6 rfl <| At.bipush dX12_isDigit_7 (by decide) <| At.icmp_gt_f (tgt := 16) dX12_isDigit_9 (by decide) c1 <| ?_
      refine At.iconst dX12_isDigit_12 (by decide) <| At.goto (tgt := 17) dX12_isDigit_13 (by decide) <| ?_
      obtain rfl := Option.some.inj h
      exact At.zret (b := true) rfl (Nat.zero_le _) (Nat.zero_le _) ⟨rfl, rfl⟩ dX12_isDigit_17
def fX12_fails (p1 : Int) (S : SS) : Option SS :=
  if (S 130 11) = 0 then (
    Option.bind (
      if (S 130 9) = 25 then (
        some 1
      ) else (
        some p1
      )
      : Option (Int)) fun q1 =>
    lt (up S 130 11 q1) fun S3 =>
    lt (up S3 130 12 (S3 130 6)) fun S4 =>
    some S4
  ) else (
    some S
  )
set_option maxRecDepth 100000 in
set_option maxHeartbeats 4000000 in
theorem rX12_fails {G : GG} {p1 : Int} {S : SS} {rr : SS} (h : fX12_fails p1 S = some rr) : RD G mX12_fails 1 [vr 130, vi p1] S none rr := by
  unfold fX12_fails at h
  refine Runs.of pl_X12 (Nat.le_of_ble_eq_true rfl) ?_
  show At G mX12_fails 1 0 [(0, vr 130), (1, vi p1)] [] (mm S) 0 0 (EQ none rr)
  rcases ite_e h with ⟨c5, h⟩ | ⟨c5, h⟩
  · refine At.aloadn dX12_fails_0 rfl <| At.getI fl_X12_126 sh_130 (le149 sh_130) dX12_fails_1 <| At.if_eq_t (tgt := 8) dX12_fails_4 (by decide) c5 <| ?_
    obtain ⟨q1, hj23, h⟩ := bnd_e h
    have K23 : At G mX12_fails 1 23 [(0, vr 130)] [vi q1, vr 130] (mm S) 0 0 (EQ none rr) := by
      obtain ⟨S3, hS3, h⟩ := lt_e h
      refine At.putI fw_X12_126 sh_130 (le149 sh_130) dX12_fails_23 <| At.nmS hS3 <| At.aloadn dX12_fails_26 rfl <| At.aloadn dX12_fails_27 rfl <| At.getI fl_X12_98 sh_130 (le149 sh_130) dX12_fails_28 <| ?_
      obtain ⟨S4, hS4, h⟩ := lt_e h
      refine At.putI fw_X12_129 sh_130 (le149 sh_130) dX12_fails_31 <| At.nmS hS4 <| ?_
      obtain rfl := Option.some.inj h
      exact At.vret rfl (Nat.zero_le _) (Nat.zero_le _) ⟨rfl, rfl⟩ dX12_fails_34
    clear h; have h := hj23; clear hj23
    rcases ite_e h with ⟨c2, h⟩ | ⟨c2, h⟩
    · refine At.aloadn dX12_fails_8 rfl <| At.aloadn dX12_fails_9 rfl <| At.getI fl_X12_108 sh_130 (le149 sh_130) dX12_fails_10 <| At.bipush dX12_fails_13 (by decide) <| At.icmp_ne_f (tgt := 22) dX12_fails_15 (by decide) c2 <| ?_
      refine At.iconst dX12_fails_18 (by decide) <| At.goto (tgt := 23) dX12_fails_19 (by decide) <| ?_
      obtain rfl := Option.some.inj h
      exact At.sub [0] rfl K23
    · refine At.aloadn dX12_fails_8 rfl <| At.aloadn dX12_fails_9 rfl <| At.getI fl_X12_108 sh_130 (le149 sh_130) dX12_fails_10 <| At.bipush dX12_fails_13 (by decide) <| At.icmp_ne_t (tgt := 22) dX12_fails_15 (by decide) c2 <| ?_
      refine At.iloadn dX12_fails_22 rfl <| ?_
      obtain rfl := Option.some.inj h
      exact At.sub [0] rfl K23
  · refine At.aloadn dX12_fails_0 rfl <| At.getI fl_X12_126 sh_130 (le149 sh_130) dX12_fails_1 <| At.if_eq_f (tgt := 8) dX12_fails_4 (by decide) c5 <| ?_
    obtain rfl := Option.some.inj h
    exact At.vret rfl (Nat.zero_le _) (Nat.zero_le _) ⟨rfl, rfl⟩ dX12_fails_7
def fX12_is (p1 : Int) (S : SS) : Option Bool :=
  if (S 130 11) = 0 then (
    if (S 130 9) = p1 then (
      some true
    ) else (
      some false
    )
  ) else (
    some false
  )
set_option maxRecDepth 100000 in
set_option maxHeartbeats 4000000 in
theorem rX12_is {G : GG} {p1 : Int} {S : SS} {rr : Bool} (h : fX12_is p1 S = some rr) : RD G mX12_is 1 [vr 130, vi p1] S (some (vi (bI rr))) S := by
  unfold fX12_is at h
  refine Runs.of pl_X12 (Nat.le_of_ble_eq_true rfl) ?_
  show At G mX12_is 1 0 [(0, vr 130), (1, vi p1)] [] (mm S) 0 0 (EQ (some (vi (bI rr))) S)
  rcases ite_e h with ⟨c2, h⟩ | ⟨c2, h⟩
  · refine At.aloadn dX12_is_0 rfl <| At.getI fl_X12_126 sh_130 (le149 sh_130) dX12_is_1 <| At.if_ne_f (tgt := 19) dX12_is_4 (by decide) c2 <| ?_
    rcases ite_e h with ⟨c1, h⟩ | ⟨c1, h⟩
    · refine At.aloadn dX12_is_7 rfl <| At.getI fl_X12_108 sh_130 (le149 sh_130) dX12_is_8 <| At.iloadn dX12_is_11 rfl <| At.icmp_ne_f (tgt := 19) dX12_is_12 (by decide) c1 <| ?_
      refine At.iconst dX12_is_15 (by decide) <| At.goto (tgt := 20) dX12_is_16 (by decide) <| ?_
      obtain rfl := Option.some.inj h
      exact At.zret (b := true) rfl (Nat.zero_le _) (Nat.zero_le _) ⟨rfl, rfl⟩ dX12_is_20
    · refine At.aloadn dX12_is_7 rfl <| At.getI fl_X12_108 sh_130 (le149 sh_130) dX12_is_8 <| At.iloadn dX12_is_11 rfl <| At.icmp_ne_t (tgt := 19) dX12_is_12 (by decide) c1 <| ?_
      refine At.iconst dX12_is_19 (by decide) <| ?_
      obtain rfl := Option.some.inj h
      exact At.zret (b := false) rfl (Nat.zero_le _) (Nat.zero_le _) ⟨rfl, rfl⟩ dX12_is_20
  · refine At.aloadn dX12_is_0 rfl <| At.getI fl_X12_126 sh_130 (le149 sh_130) dX12_is_1 <| At.if_ne_t (tgt := 19) dX12_is_4 (by decide) c2 <| ?_
    refine At.iconst dX12_is_19 (by decide) <| ?_
    obtain rfl := Option.some.inj h
    exact At.zret (b := false) rfl (Nat.zero_le _) (Nat.zero_le _) ⟨rfl, rfl⟩ dX12_is_20
def fX12_isIn (p0 : Int) (p2 : Int) : Option Bool :=
  if (lc (kand (kshr p0 p2) 1) 1) = 0 then (
    some true
  ) else (
    some false
  )
set_option maxRecDepth 100000 in
set_option maxHeartbeats 4000000 in
theorem rX12_isIn {G : GG} {p0 : Int} {p2 : Int} {S : SS} {rr : Bool} (h : fX12_isIn p0 p2 = some rr) : RD G mX12_isIn 1 [vl p0, vi p2] S (some (vi (bI rr))) S := by
  unfold fX12_isIn at h
  refine Runs.of pl_X12 (Nat.le_of_ble_eq_true rfl) ?_
  show At G mX12_isIn 1 0 [(0, vl p0), (2, vi p2)] [] (mm S) 0 0 (EQ (some (vi (bI rr))) S)
  rcases ite_e h with ⟨c1, h⟩ | ⟨c1, h⟩
  · refine At.lloadn dX12_isIn_0 rfl <| At.iloadn dX12_isIn_1 rfl <| At.lshr dX12_isIn_2 <| At.lconst1 dX12_isIn_3 <| At.land dX12_isIn_4 <| At.lconst1 dX12_isIn_5 <| At.lcmp dX12_isIn_6 <| At.if_ne_f (tgt := 14) dX12_isIn_7 (by decide) c1 <| ?_
    refine At.iconst dX12_isIn_10 (by decide) <| At.goto (tgt := 15) dX12_isIn_11 (by decide) <| ?_
    obtain rfl := Option.some.inj h
    exact At.zret (b := true) rfl (Nat.zero_le _) (Nat.zero_le _) ⟨rfl, rfl⟩ dX12_isIn_15
  · refine At.lloadn dX12_isIn_0 rfl <| At.iloadn dX12_isIn_1 rfl <| At.lshr dX12_isIn_2 <| At.lconst1 dX12_isIn_3 <| At.land dX12_isIn_4 <| At.lconst1 dX12_isIn_5 <| At.lcmp dX12_isIn_6 <| At.if_ne_t (tgt := 14) dX12_isIn_7 (by decide) c1 <| ?_
    refine At.iconst dX12_isIn_14 (by decide) <| ?_
    obtain rfl := Option.some.inj h
    exact At.zret (b := false) rfl (Nat.zero_le _) (Nat.zero_le _) ⟨rfl, rfl⟩ dX12_isIn_15
