def fX0_moves (p1 : Int) (p2 : Int) (p3 : Int) (p4 : Nat) (S : SS) : Option (Int × SS) :=
  Option.bind (fX8_hasGoer 2 p1 S) fun q1 =>
  if q1 = true then (
    Option.bind (fX8_hasCorner 2 p2 S) fun q2 =>
    if q2 = true then (
      Option.bind (fX11_isYear p3) fun q3 =>
      if q3 = true then (
        Option.bind (fX6_setGoer p4 p1 p2 p3 S) fun q4 =>
        some (0, q4)
      ) else (
        some (1, S)
      )
    ) else (
      some (1, S)
    )
  ) else (
    some (1, S)
  )
set_option maxRecDepth 100000 in
set_option maxHeartbeats 4000000 in
theorem rX0_moves {G : GG} {p1 : Int} {p2 : Int} {p3 : Int} {p4 : Nat} {S : SS} {rr : (Int × SS)} (hp4 : sh p4 = (6, 4)) (h : fX0_moves p1 p2 p3 p4 S = some rr) : RD G mX0_moves 2 [vr 34, vi p1, vi p2, vi p3, vr p4] S (some (vi rr.1)) rr.2 := by
  unfold fX0_moves at h
  refine Runs.of pl_X0 (Nat.le_of_ble_eq_true rfl) ?_
  show At G mX0_moves 2 0 [(0, vr 34), (1, vi p1), (2, vi p2), (3, vi p3), (4, vr p4)] [] (mm S) 0 0 (EQ (some (vi rr.1)) rr.2)
  refine At.aloadn dX0_moves_0 rfl <| At.getR fl_X0_9 sh_34 (le149 sh_34) rf_34_0 dX0_moves_1 <| At.iloadn dX0_moves_4 rfl <| ?_
  obtain ⟨q1, hq1, h⟩ := bnd_e h
  rcases ite_e h with ⟨c7, h⟩ | ⟨c7, h⟩
  · refine At.cV1 (av := [vi p1]) (rest := []) mv_X8_hasGoer lk_X0_49 dX0_moves_5 rfl rfl sh_2 (Nat.le_of_ble_eq_true rfl) (by decide) ⟨rfl, rfl⟩ (rX8_hasGoer sh_2 hq1) <| At.bifeq_f (tgt := 29) dX0_moves_8 (by decide) c7 <| ?_
    refine At.aloadn dX0_moves_11 rfl <| At.getR fl_X0_9 sh_34 (le149 sh_34) rf_34_0 dX0_moves_12 <| At.iloadn dX0_moves_15 rfl <| ?_
    obtain ⟨q2, hq2, h⟩ := bnd_e h
    rcases ite_e h with ⟨c6, h⟩ | ⟨c6, h⟩
    · refine At.cV1 (av := [vi p2]) (rest := []) mv_X8_hasCorner lk_X0_52 dX0_moves_16 rfl rfl sh_2 (Nat.le_of_ble_eq_true rfl) (by decide) ⟨rfl, rfl⟩ (rX8_hasCorner sh_2 hq2) <| At.bifeq_f (tgt := 29) dX0_moves_19 (by decide) c6 <| ?_
      refine At.iloadn dX0_moves_22 rfl <| ?_
      obtain ⟨q3, hq3, h⟩ := bnd_e h
      rcases ite_e h with ⟨c5, h⟩ | ⟨c5, h⟩
      · refine At.cS1 (av := [vi p3]) (rest := []) ms_X11_isYear lk_X0_55 dX0_moves_23 rfl rfl (Nat.le_of_ble_eq_true rfl) (by decide) ⟨rfl, rfl⟩ (rX11_isYear hq3) <| At.bifne_t (tgt := 31) dX0_moves_26 (by decide) c5 <| ?_
        refine At.aload dX0_moves_31 rfl <| At.iloadn dX0_moves_33 rfl <| At.iloadn dX0_moves_34 rfl <| At.iloadn dX0_moves_35 rfl <| ?_
        obtain ⟨q4, hq4, h⟩ := bnd_e h
        refine At.cV0 (av := [vi p1, vi p2, vi p3]) (rest := []) mv_X6_setGoer lk_X0_31 dX0_moves_36 rfl rfl hp4 (Nat.le_of_ble_eq_true rfl) (by decide) ⟨rfl, rfl⟩ (rX6_setGoer hp4 hq4) <| At.iconst dX0_moves_39 (by decide) <| ?_
        obtain rfl := Option.some.inj h
        exact At.iret rfl (Nat.zero_le _) (Nat.zero_le _) ⟨rfl, rfl⟩ dX0_moves_40
      · refine At.cS1 (av := [vi p3]) (rest := []) ms_X11_isYear lk_X0_55 dX0_moves_23 rfl rfl (Nat.le_of_ble_eq_true rfl) (by decide) ⟨rfl, rfl⟩ (rX11_isYear hq3) <| At.bifne_f (tgt := 31) dX0_moves_26 (by decide) c5 <| ?_
        refine At.iconst dX0_moves_29 (by decide) <| ?_
        obtain rfl := Option.some.inj h
        exact At.iret rfl (Nat.zero_le _) (Nat.zero_le _) ⟨rfl, rfl⟩ dX0_moves_30
    · refine At.cV1 (av := [vi p2]) (rest := []) mv_X8_hasCorner lk_X0_52 dX0_moves_16 rfl rfl sh_2 (Nat.le_of_ble_eq_true rfl) (by decide) ⟨rfl, rfl⟩ (rX8_hasCorner sh_2 hq2) <| At.bifeq_t (tgt := 29) dX0_moves_19 (by decide) c6 <| ?_
      refine At.iconst dX0_moves_29 (by decide) <| ?_
      obtain rfl := Option.some.inj h
      exact At.iret rfl (Nat.zero_le _) (Nat.zero_le _) ⟨rfl, rfl⟩ dX0_moves_30
  · refine At.cV1 (av := [vi p1]) (rest := []) mv_X8_hasGoer lk_X0_49 dX0_moves_5 rfl rfl sh_2 (Nat.le_of_ble_eq_true rfl) (by decide) ⟨rfl, rfl⟩ (rX8_hasGoer sh_2 hq1) <| At.bifeq_t (tgt := 29) dX0_moves_8 (by decide) c7 <| ?_
    refine At.iconst dX0_moves_29 (by decide) <| ?_
    obtain rfl := Option.some.inj h
    exact At.iret rfl (Nat.zero_le _) (Nat.zero_le _) ⟨rfl, rfl⟩ dX0_moves_30
def fX11_put (p1 : Int) (p2 : Int) (p3 : Int) (S : SS) : Option (Int × SS) :=
  Option.bind (fX6_copyOf 11 7 S) fun q1 =>
  Option.bind (fX0_moves p1 p2 p3 7 q1) fun q2 =>
  if q2.1 = 0 then (
    Option.bind (fX6_cornerOf 11 p1 q2.2) fun q3 =>
    Option.bind (fX6_yearOf 11 p1 q2.2) fun q4 =>
    Option.bind (fX11_kept (w32 ((w32 (q3 * 100)) + q4)) q2.2) fun q5 =>
    some (q5.1, q5.2)
  ) else (
    some (w32 (((-10)) - q2.1), q2.2)
  )
set_option maxRecDepth 100000 in
set_option maxHeartbeats 4000000 in
theorem rX11_put {G : GG} {p1 : Int} {p2 : Int} {p3 : Int} {S : SS} {rr : (Int × SS)} (h : fX11_put p1 p2 p3 S = some rr) : RD G mX11_put 6 [vr 1, vi p1, vi p2, vi p3] S (some (vi rr.1)) rr.2 := by
  unfold fX11_put at h
  refine Runs.of pl_X11 (Nat.le_of_ble_eq_true rfl) ?_
  show At G mX11_put 6 0 [(0, vr 1), (1, vi p1), (2, vi p2), (3, vi p3)] [] (mm S) 0 0 (EQ (some (vi rr.1)) rr.2)
  refine At.aloadn dX11_put_0 rfl <| At.getR fl_X11_26 sh_1 (le149 sh_1) rf_1_2 dX11_put_1 <| At.aloadn dX11_put_4 rfl <| At.getR fl_X11_20 sh_1 (le149 sh_1) rf_1_1 dX11_put_5 <| ?_
  obtain ⟨q1, hq1, h⟩ := bnd_e h
  refine At.cV0 (av := [vr 7]) (rest := []) mv_X6_copyOf lk_X11_170 dX11_put_8 rfl rfl sh_11 (Nat.le_of_ble_eq_true rfl) (by decide) ⟨rfl, rfl⟩ (rX6_copyOf sh_11 sh_7 hq1) <| At.aloadn dX11_put_11 rfl <| At.getR fl_X11_53 sh_1 (le149 sh_1) rf_1_6 dX11_put_12 <| At.iloadn dX11_put_15 rfl <| At.iloadn dX11_put_16 rfl <| At.iloadn dX11_put_17 rfl <| At.aloadn dX11_put_18 rfl <| At.getR fl_X11_20 sh_1 (le149 sh_1) rf_1_1 dX11_put_19 <| ?_
  obtain ⟨q2, hq2, h⟩ := bnd_e h
  rcases ite_e h with ⟨c6, h⟩ | ⟨c6, h⟩
  · refine At.cV1 (av := [vi p1, vi p2, vi p3, vr 7]) (rest := []) mv_X0_moves lk_X11_191 dX11_put_22 rfl rfl sh_34 (Nat.le_of_ble_eq_true rfl) (by decide) ⟨rfl, rfl⟩ (rX0_moves sh_7 hq2) <| At.istore (ls' := [(4, vi q2.1), (0, vr 1), (1, vi p1), (2, vi p2), (3, vi p3)]) dX11_put_25 (by decide) rfl <| At.iload dX11_put_27 rfl <| At.if_ne_f (tgt := 59) dX11_put_29 (by decide) c6 <| ?_
    refine At.aloadn dX11_put_32 rfl <| At.aloadn dX11_put_33 rfl <| At.getR fl_X11_26 sh_1 (le149 sh_1) rf_1_2 dX11_put_34 <| At.iloadn dX11_put_37 rfl <| ?_
    obtain ⟨q3, hq3, h⟩ := bnd_e h
    refine At.cV1 (av := [vi p1]) (rest := [vr 1]) mv_X6_cornerOf lk_X11_151 dX11_put_38 rfl rfl sh_11 (Nat.le_of_ble_eq_true rfl) (by decide) ⟨rfl, rfl⟩ (rX6_cornerOf sh_11 hq3) <| At.bipush dX11_put_41 (by decide) <| At.imul dX11_put_43 <| At.aloadn dX11_put_44 rfl <| At.getR fl_X11_26 sh_1 (le149 sh_1) rf_1_2 dX11_put_45 <| At.iloadn dX11_put_48 rfl <| ?_
    obtain ⟨q4, hq4, h⟩ := bnd_e h
    refine At.cV1 (av := [vi p1]) (rest := [vi (w32 (q3 * 100)), vr 1]) mv_X6_yearOf lk_X11_154 dX11_put_49 rfl rfl sh_11 (Nat.le_of_ble_eq_true rfl) (by decide) ⟨rfl, rfl⟩ (rX6_yearOf sh_11 hq4) <| At.iadd dX11_put_52 <| ?_
    obtain ⟨q5, hq5, h⟩ := bnd_e h
    refine At.cV1 (av := [vi (w32 ((w32 (q3 * 100)) + q4))]) (rest := []) mv_X11_kept lk_X11_178 dX11_put_53 rfl rfl sh_1 (Nat.le_of_ble_eq_true rfl) (by decide) ⟨rfl, rfl⟩ (rX11_kept hq5) <| At.goto (tgt := 64) dX11_put_56 (by decide) <| ?_
    obtain rfl := Option.some.inj h
    exact At.iret rfl (Nat.zero_le _) (Nat.zero_le _) ⟨rfl, rfl⟩ dX11_put_64
  · refine At.cV1 (av := [vi p1, vi p2, vi p3, vr 7]) (rest := []) mv_X0_moves lk_X11_191 dX11_put_22 rfl rfl sh_34 (Nat.le_of_ble_eq_true rfl) (by decide) ⟨rfl, rfl⟩ (rX0_moves sh_7 hq2) <| At.istore (ls' := [(4, vi q2.1), (0, vr 1), (1, vi p1), (2, vi p2), (3, vi p3)]) dX11_put_25 (by decide) rfl <| At.iload dX11_put_27 rfl <| At.if_ne_t (tgt := 59) dX11_put_29 (by decide) c6 <| ?_
    refine At.bipush dX11_put_59 (by decide) <| At.iload dX11_put_61 rfl <| At.isub dX11_put_63 <| ?_
    obtain rfl := Option.some.inj h
    exact At.iret rfl (Nat.zero_le _) (Nat.zero_le _) ⟨rfl, rfl⟩ dX11_put_64
def fX2_bringBack (p1 : Int) (p2 : Nat) (S : SS) : Option SS :=
  Option.bind (fX2_keptAt (w32 ((S 59 2) - p1)) S) fun q1 =>
  if q1 = 0 then (
    some S
  ) else (
    gsh q1 (6, 4) <|
    Option.bind (fX6_copyOf p2 q1 S) fun q3 =>
    lt (up q3 59 2 (w32 ((q3 59 2) - p1))) fun S4 =>
    some S4
  )
set_option maxRecDepth 100000 in
set_option maxHeartbeats 4000000 in
theorem rX2_bringBack {G : GG} {p1 : Int} {p2 : Nat} {S : SS} {rr : SS} (hp2 : sh p2 = (6, 4)) (h : fX2_bringBack p1 p2 S = some rr) : RD G mX2_bringBack 4 [vr 59, vi p1, vr p2] S none rr := by
  unfold fX2_bringBack at h
  refine Runs.of pl_X2 (Nat.le_of_ble_eq_true rfl) ?_
  show At G mX2_bringBack 4 0 [(0, vr 59), (1, vi p1), (2, vr p2)] [] (mm S) 0 0 (EQ none rr)
  refine At.aloadn dX2_bringBack_0 rfl <| At.aloadn dX2_bringBack_1 rfl <| At.getI fl_X2_18 sh_59 (le149 sh_59) dX2_bringBack_2 <| At.iloadn dX2_bringBack_5 rfl <| At.isub dX2_bringBack_6 <| ?_
  obtain ⟨q1, hq1, h⟩ := bnd_e h
  rcases ite_e h with ⟨c5, h⟩ | ⟨c5, h⟩
  · refine At.cV1 (av := [vi (w32 ((S 59 2) - p1))]) (rest := []) mv_X2_keptAt lk_X2_22 dX2_bringBack_7 rfl rfl sh_59 (Nat.le_of_ble_eq_true rfl) (by decide) ⟨rfl, rfl⟩ (rX2_keptAt hq1) <| At.astoren (ls' := [(3, vr q1), (0, vr 59), (1, vi p1), (2, vr p2)]) dX2_bringBack_10 (by decide) rfl <| At.aloadn dX2_bringBack_11 rfl <| At.ifnull_t (tgt := 30) dX2_bringBack_12 (by decide) c5 <| ?_
    obtain rfl := Option.some.inj h
    exact At.vret rfl (Nat.zero_le _) (Nat.zero_le _) ⟨rfl, rfl⟩ dX2_bringBack_30
  · refine At.cV1 (av := [vi (w32 ((S 59 2) - p1))]) (rest := []) mv_X2_keptAt lk_X2_22 dX2_bringBack_7 rfl rfl sh_59 (Nat.le_of_ble_eq_true rfl) (by decide) ⟨rfl, rfl⟩ (rX2_keptAt hq1) <| At.astoren (ls' := [(3, vr q1), (0, vr 59), (1, vi p1), (2, vr p2)]) dX2_bringBack_10 (by decide) rfl <| At.aloadn dX2_bringBack_11 rfl <| At.ifnull_f (tgt := 30) dX2_bringBack_12 (by decide) c5 <| ?_
    refine At.aloadn dX2_bringBack_15 rfl <| At.aloadn dX2_bringBack_16 rfl <| ?_
    obtain ⟨g2, h⟩ := gsh_e h
    obtain ⟨q3, hq3, h⟩ := bnd_e h
    refine At.cV0 (av := [vr q1]) (rest := []) mv_X6_copyOf lk_X2_26 dX2_bringBack_17 rfl rfl hp2 (Nat.le_of_ble_eq_true rfl) (by decide) ⟨rfl, rfl⟩ (rX6_copyOf hp2 g2 hq3) <| At.aloadn dX2_bringBack_20 rfl <| At.dup rfl dX2_bringBack_21 <| At.getI fl_X2_18 sh_59 (le149 sh_59) dX2_bringBack_22 <| At.iloadn dX2_bringBack_25 rfl <| At.isub dX2_bringBack_26 <| ?_
    obtain ⟨S4, hS4, h⟩ := lt_e h
    refine At.putI fw_X2_18 sh_59 (le149 sh_59) dX2_bringBack_27 <| At.nmS hS4 <| ?_
    obtain rfl := Option.some.inj h
    exact At.vret rfl (Nat.zero_le _) (Nat.zero_le _) ⟨rfl, rfl⟩ dX2_bringBack_30
def fX11_undo (p1 : Int) (S : SS) : Option (Int × SS) :=
  if p1 < 1 then (
    some ((-3), S)
  ) else (
    if p1 ≤ (S 59 2) then (
      Option.bind (fX2_bringBack p1 7 S) fun q1 =>
      some (q1 59 2, q1)
    ) else (
      some ((-3), S)
    )
  )
set_option maxRecDepth 100000 in
set_option maxHeartbeats 4000000 in
theorem rX11_undo {G : GG} {p1 : Int} {S : SS} {rr : (Int × SS)} (h : fX11_undo p1 S = some rr) : RD G mX11_undo 5 [vr 1, vi p1] S (some (vi rr.1)) rr.2 := by
  unfold fX11_undo at h
  refine Runs.of pl_X11 (Nat.le_of_ble_eq_true rfl) ?_
  show At G mX11_undo 5 0 [(0, vr 1), (1, vi p1)] [] (mm S) 0 0 (EQ (some (vi rr.1)) rr.2)
  rcases ite_e h with ⟨c3, h⟩ | ⟨c3, h⟩
  · refine At.iloadn dX11_undo_0 rfl <| At.iconst dX11_undo_1 (by decide) <| At.icmp_lt_t (tgt := 16) dX11_undo_2 (by decide) c3 <| ?_
    refine At.bipush dX11_undo_16 (by decide) <| ?_
    obtain rfl := Option.some.inj h
    exact At.iret rfl (Nat.zero_le _) (Nat.zero_le _) ⟨rfl, rfl⟩ dX11_undo_18
  · refine At.iloadn dX11_undo_0 rfl <| At.iconst dX11_undo_1 (by decide) <| At.icmp_lt_f (tgt := 16) dX11_undo_2 (by decide) c3 <| ?_
    rcases ite_e h with ⟨c2, h⟩ | ⟨c2, h⟩
    · refine At.iloadn dX11_undo_5 rfl <| At.aloadn dX11_undo_6 rfl <| At.getR fl_X11_86 sh_1 (le149 sh_1) rf_1_11 dX11_undo_7 <| At.getI fl_X11_197 sh_59 (le149 sh_59) dX11_undo_10 <| At.icmp_le_t (tgt := 19) dX11_undo_13 (by decide) c2 <| ?_
      refine At.aloadn dX11_undo_19 rfl <| At.getR fl_X11_86 sh_1 (le149 sh_1) rf_1_11 dX11_undo_20 <| At.iloadn dX11_undo_23 rfl <| At.aloadn dX11_undo_24 rfl <| At.getR fl_X11_20 sh_1 (le149 sh_1) rf_1_1 dX11_undo_25 <| ?_
      obtain ⟨q1, hq1, h⟩ := bnd_e h
      refine At.cV0 (av := [vi p1, vr 7]) (rest := []) mv_X2_bringBack lk_X11_200 dX11_undo_28 rfl rfl sh_59 (Nat.le_of_ble_eq_true rfl) (by decide) ⟨rfl, rfl⟩ (rX2_bringBack sh_7 hq1) <| At.aloadn dX11_undo_31 rfl <| At.getR fl_X11_86 sh_1 (le149 sh_1) rf_1_11 dX11_undo_32 <| At.getI fl_X11_197 sh_59 (le149 sh_59) dX11_undo_35 <| ?_
      obtain rfl := Option.some.inj h
      exact At.iret rfl (Nat.zero_le _) (Nat.zero_le _) ⟨rfl, rfl⟩ dX11_undo_38
    · refine At.iloadn dX11_undo_5 rfl <| At.aloadn dX11_undo_6 rfl <| At.getR fl_X11_86 sh_1 (le149 sh_1) rf_1_11 dX11_undo_7 <| At.getI fl_X11_197 sh_59 (le149 sh_59) dX11_undo_10 <| At.icmp_le_f (tgt := 19) dX11_undo_13 (by decide) c2 <| ?_
      refine At.bipush dX11_undo_16 (by decide) <| ?_
      obtain rfl := Option.some.inj h
      exact At.iret rfl (Nat.zero_le _) (Nat.zero_le _) ⟨rfl, rfl⟩ dX11_undo_18
def fX11_trayAt (p1 : Int) (S : SS) : Option Nat :=
  if p1 < 0 then (
    some 0
  ) else (
    if 4 ≤ p1 then (
      some 0
    ) else (
      rdR 101 4 p1 fun v1 =>
      some v1
    )
  )
set_option maxRecDepth 100000 in
set_option maxHeartbeats 4000000 in
theorem rX11_trayAt {G : GG} {p1 : Int} {S : SS} {rr : Nat} (h : fX11_trayAt p1 S = some rr) : RD G mX11_trayAt 1 [vr 1, vi p1] S (some (vr rr)) S := by
  unfold fX11_trayAt at h
  refine Runs.of pl_X11 (Nat.le_of_ble_eq_true rfl) ?_
  show At G mX11_trayAt 1 0 [(0, vr 1), (1, vi p1)] [] (mm S) 0 0 (EQ (some (vr rr)) S)
  rcases ite_e h with ⟨c4, h⟩ | ⟨c4, h⟩
  · refine At.iloadn dX11_trayAt_0 rfl <| At.if_lt_t (tgt := 22) dX11_trayAt_1 (by decide) c4 <| ?_
    refine At.null dX11_trayAt_22 <| ?_
    obtain rfl := Option.some.inj h
    exact At.aret rfl (Nat.zero_le _) (Nat.zero_le _) ⟨rfl, rfl⟩ dX11_trayAt_23
  · refine At.iloadn dX11_trayAt_0 rfl <| At.if_lt_f (tgt := 22) dX11_trayAt_1 (by decide) c4 <| ?_
    rcases ite_e h with ⟨c3, h⟩ | ⟨c3, h⟩
    · refine At.iloadn dX11_trayAt_4 rfl <| At.aloadn dX11_trayAt_5 rfl <| At.getR fl_X11_92 sh_1 (le149 sh_1) rf_1_12 dX11_trayAt_6 <| At.alenQ sh_101 (le149 sh_101) (by decide) (z := 4) rfl dX11_trayAt_9 <| At.icmp_ge_t (tgt := 22) dX11_trayAt_10 (by decide) c3 <| ?_
      refine At.null dX11_trayAt_22 <| ?_
      obtain rfl := Option.some.inj h
      exact At.aret rfl (Nat.zero_le _) (Nat.zero_le _) ⟨rfl, rfl⟩ dX11_trayAt_23
    · refine At.iloadn dX11_trayAt_4 rfl <| At.aloadn dX11_trayAt_5 rfl <| At.getR fl_X11_92 sh_1 (le149 sh_1) rf_1_12 dX11_trayAt_6 <| At.alenQ sh_101 (le149 sh_101) (by decide) (z := 4) rfl dX11_trayAt_9 <| At.icmp_ge_f (tgt := 22) dX11_trayAt_10 (by decide) c3 <| ?_
      refine At.aloadn dX11_trayAt_13 rfl <| At.getR fl_X11_92 sh_1 (le149 sh_1) rf_1_12 dX11_trayAt_14 <| At.iloadn dX11_trayAt_17 rfl <| ?_
      obtain ⟨v1, hv1, g2, h⟩ := rdR_e h
      refine At.aldQ sh_101 (le149 sh_101) g2.1 g2.2 dX11_trayAt_18 <| At.nmr hv1 <| At.goto (tgt := 23) dX11_trayAt_19 (by decide) <| ?_
      obtain rfl := Option.some.inj h
      exact At.aret rfl (Nat.zero_le _) (Nat.zero_le _) ⟨rfl, rfl⟩ dX11_trayAt_23
def fX9_isMissing (t : Nat) (S : SS) : Option Bool :=
  if (S t 2) = ((-1)) then (
    some true
  ) else (
    some false
  )
set_option maxRecDepth 100000 in
set_option maxHeartbeats 4000000 in
theorem rX9_isMissing {G : GG} {t : Nat} {S : SS} {rr : Bool} (ht : sh t = (9, 3)) (h : fX9_isMissing t S = some rr) : RD G mX9_isMissing 1 [vr t] S (some (vi (bI rr))) S := by
  unfold fX9_isMissing at h
  refine Runs.of pl_X9 (Nat.le_of_ble_eq_true rfl) ?_
  show At G mX9_isMissing 1 0 [(0, vr t)] [] (mm S) 0 0 (EQ (some (vi (bI rr))) S)
  rcases ite_e h with ⟨c1, h⟩ | ⟨c1, h⟩
  · refine At.aloadn dX9_isMissing_0 rfl <| At.getI fl_X9_15 ht (le149 ht) dX9_isMissing_1 <| At.iconst dX9_isMissing_4 (by decide) <| At.icmp_ne_f (tgt := 12) dX9_isMissing_5 (by decide) c1 <| ?_
    refine At.iconst dX9_isMissing_8 (by decide) <| At.goto (tgt := 13) dX9_isMissing_9 (by decide) <| ?_
    obtain rfl := Option.some.inj h
    exact At.zret (b := true) rfl (Nat.zero_le _) (Nat.zero_le _) ⟨rfl, rfl⟩ dX9_isMissing_13
  · refine At.aloadn dX9_isMissing_0 rfl <| At.getI fl_X9_15 ht (le149 ht) dX9_isMissing_1 <| At.iconst dX9_isMissing_4 (by decide) <| At.icmp_ne_t (tgt := 12) dX9_isMissing_5 (by decide) c1 <| ?_
    refine At.iconst dX9_isMissing_12 (by decide) <| ?_
    obtain rfl := Option.some.inj h
    exact At.zret (b := false) rfl (Nat.zero_le _) (Nat.zero_le _) ⟨rfl, rfl⟩ dX9_isMissing_13
def fX9_hasPlace (t : Nat) (p1 : Int) (S : SS) : Option Bool :=
  if p1 < 0 then (
    some false
  ) else (
    if (S t 2) ≤ p1 then (
      some false
    ) else (
      if 40 ≤ p1 then (
        some false
      ) else (
        some true
      )
    )
  )
set_option maxRecDepth 100000 in
set_option maxHeartbeats 4000000 in
theorem rX9_hasPlace {G : GG} {t : Nat} {p1 : Int} {S : SS} {rr : Bool} (ht : sh t = (9, 3)) (h : fX9_hasPlace t p1 S = some rr) : RD G mX9_hasPlace 1 [vr t, vi p1] S (some (vi (bI rr))) S := by
  unfold fX9_hasPlace at h
  refine Runs.of pl_X9 (Nat.le_of_ble_eq_true rfl) ?_
  show At G mX9_hasPlace 1 0 [(0, vr t), (1, vi p1)] [] (mm S) 0 0 (EQ (some (vi (bI rr))) S)
  rcases ite_e h with ⟨c3, h⟩ | ⟨c3, h⟩
  · refine At.iloadn dX9_hasPlace_0 rfl <| At.if_lt_t (tgt := 25) dX9_hasPlace_1 (by decide) c3 <| ?_
    refine At.iconst dX9_hasPlace_25 (by decide) <| ?_
    obtain rfl := Option.some.inj h
    exact At.zret (b := false) rfl (Nat.zero_le _) (Nat.zero_le _) ⟨rfl, rfl⟩ dX9_hasPlace_26
  · refine At.iloadn dX9_hasPlace_0 rfl <| At.if_lt_f (tgt := 25) dX9_hasPlace_1 (by decide) c3 <| ?_
    rcases ite_e h with ⟨c2, h⟩ | ⟨c2, h⟩
    · refine At.iloadn dX9_hasPlace_4 rfl <| At.aloadn dX9_hasPlace_5 rfl <| At.getI fl_X9_15 ht (le149 ht) dX9_hasPlace_6 <| At.icmp_ge_t (tgt := 25) dX9_hasPlace_9 (by decide) c2 <| ?_
      refine At.iconst dX9_hasPlace_25 (by decide) <| ?_
      obtain rfl := Option.some.inj h
      exact At.zret (b := false) rfl (Nat.zero_le _) (Nat.zero_le _) ⟨rfl, rfl⟩ dX9_hasPlace_26
    · refine At.iloadn dX9_hasPlace_4 rfl <| At.aloadn dX9_hasPlace_5 rfl <| At.getI fl_X9_15 ht (le149 ht) dX9_hasPlace_6 <| At.icmp_ge_f (tgt := 25) dX9_hasPlace_9 (by decide) c2 <| ?_
      rcases ite_e h with ⟨c1, h⟩ | ⟨c1, h⟩
      · refine At.iloadn dX9_hasPlace_12 rfl <| At.aloadn dX9_hasPlace_13 rfl <| At.getR fl_X9_9 ht (le149 ht) (rfO_9_0 ht) dX9_hasPlace_14 <| At.alenJ (shO_9_0 ht) (le149 (shO_9_0 ht)) (by decide) (z := 40) rfl dX9_hasPlace_17 <| At.icmp_ge_t (tgt := 25) dX9_hasPlace_18 (by decide) c1 <| ?_
        refine At.iconst dX9_hasPlace_25 (by decide) <| ?_
        obtain rfl := Option.some.inj h
        exact At.zret (b := false) rfl (Nat.zero_le _) (Nat.zero_le _) ⟨rfl, rfl⟩ dX9_hasPlace_26
      · refine At.iloadn dX9_hasPlace_12 rfl <| At.aloadn dX9_hasPlace_13 rfl <| At.getR fl_X9_9 ht (le149 ht) (rfO_9_0 ht) dX9_hasPlace_14 <| At.alenJ (shO_9_0 ht) (le149 (shO_9_0 ht)) (by decide) (z := 40) rfl dX9_hasPlace_17 <| At.icmp_ge_f (tgt := 25) dX9_hasPlace_18 (by decide) c1 <| ?_
        refine At.iconst dX9_hasPlace_21 (by decide) <| At.goto (tgt := 26) dX9_hasPlace_22 (by decide) <| ?_
        obtain rfl := Option.some.inj h
        exact At.zret (b := true) rfl (Nat.zero_le _) (Nat.zero_le _) ⟨rfl, rfl⟩ dX9_hasPlace_26
def fX9_valueAt (t : Nat) (p1 : Int) (S : SS) : Option Int :=
  Option.bind (fX9_hasPlace t p1 S) fun q1 =>
  if q1 = true then (
    rdA S (t + 1) 40 p1 fun v2 =>
    some v2
  ) else (
    some 0
  )
set_option maxRecDepth 100000 in
set_option maxHeartbeats 4000000 in
theorem rX9_valueAt {G : GG} {t : Nat} {p1 : Int} {S : SS} {rr : Int} (ht : sh t = (9, 3)) (h : fX9_valueAt t p1 S = some rr) : RD G mX9_valueAt 2 [vr t, vi p1] S (some (vl rr)) S := by
  unfold fX9_valueAt at h
  refine Runs.of pl_X9 (Nat.le_of_ble_eq_true rfl) ?_
  show At G mX9_valueAt 2 0 [(0, vr t), (1, vi p1)] [] (mm S) 0 0 (EQ (some (vl rr)) S)
  refine At.aloadn dX9_valueAt_0 rfl <| At.iloadn dX9_valueAt_1 rfl <| ?_
  obtain ⟨q1, hq1, h⟩ := bnd_e h
  rcases ite_e h with ⟨c4, h⟩ | ⟨c4, h⟩
  · refine At.cV1 (av := [vi p1]) (rest := []) mv_X9_hasPlace lk_X9_28 dX9_valueAt_2 rfl rfl ht (Nat.le_of_ble_eq_true rfl) (by decide) ⟨rfl, rfl⟩ (rX9_hasPlace ht hq1) <| At.bifeq_f (tgt := 17) dX9_valueAt_5 (by decide) c4 <| ?_
    refine At.aloadn dX9_valueAt_8 rfl <| At.getR fl_X9_9 ht (le149 ht) (rfO_9_0 ht) dX9_valueAt_9 <| At.iloadn dX9_valueAt_12 rfl <| ?_
    obtain ⟨v2, hv2, g3, h⟩ := rdA_e h
    refine At.lald (shO_9_0 ht) (le149 (shO_9_0 ht)) g3.1 g3.2 dX9_valueAt_13 <| At.nml hv2 <| At.goto (tgt := 18) dX9_valueAt_14 (by decide) <| ?_
    obtain rfl := Option.some.inj h
    exact At.lret rfl (Nat.zero_le _) (Nat.zero_le _) ⟨rfl, rfl⟩ dX9_valueAt_18
  · refine At.cV1 (av := [vi p1]) (rest := []) mv_X9_hasPlace lk_X9_28 dX9_valueAt_2 rfl rfl ht (Nat.le_of_ble_eq_true rfl) (by decide) ⟨rfl, rfl⟩ (rX9_hasPlace ht hq1) <| At.bifeq_t (tgt := 17) dX9_valueAt_5 (by decide) c4 <| ?_
    refine At.lconst0 dX9_valueAt_17 <| ?_
    obtain rfl := Option.some.inj h
    exact At.lret rfl (Nat.zero_le _) (Nat.zero_le _) ⟨rfl, rfl⟩ dX9_valueAt_18
def fX0_told (p1 : Int) (p3 : Nat) (S : SS) : Option (Int × SS) :=
  if (lc p1 0) < 0 then (
    some (1, S)
  ) else (
    if (lc p1 3999) ≤ 0 then (
      lt (w32 p1) fun x1 =>
      if 100 ≤ x1 then (
        if 200 ≤ x1 then (
          if 1000 ≤ x1 then (
            Option.bind (fX0_moves (w32 (Int.tdiv (w32 (x1 - 1000)) 1000)) (w32 (Int.tdiv (Int.tmod x1 1000) 100)) (Int.tmod x1 100) p3 S) fun q2 =>
            some (q2.1, q2.2)
          ) else (
            Option.bind (fX0_plants (w32 (x1 - 200)) p3 S) fun q3 =>
            some (q3.1, q3.2)
          )
        ) else (
          Option.bind (fX0_signs (w32 (Int.tdiv (w32 (x1 - 100)) 10)) (Int.tmod x1 10) p3 S) fun q5 =>
          some (q5.1, q5.2)
        )
      ) else (
        Option.bind (fX0_walks (w32 (Int.tdiv x1 10)) (Int.tmod x1 10) p3 S) fun q7 =>
        some (q7.1, q7.2)
      )
    ) else (
      some (1, S)
    )
  )
set_option maxRecDepth 100000 in
set_option maxHeartbeats 4000000 in
theorem rX0_told {G : GG} {p1 : Int} {p3 : Nat} {S : SS} {rr : (Int × SS)} (hp3 : sh p3 = (6, 4)) (h : fX0_told p1 p3 S = some rr) : RD G mX0_told 6 [vr 34, vl p1, vr p3] S (some (vi rr.1)) rr.2 := by
  unfold fX0_told at h
  refine Runs.of pl_X0 (Nat.le_of_ble_eq_true rfl) ?_
  show At G mX0_told 6 0 [(0, vr 34), (1, vl p1), (3, vr p3)] [] (mm S) 0 0 (EQ (some (vi rr.1)) rr.2)
  rcases ite_e h with ⟨c10, h⟩ | ⟨c10, h⟩
  · refine At.lloadn dX0_told_0 rfl <| At.lconst0 dX0_told_1 <| At.lcmp dX0_told_2 <| At.if_lt_t (tgt := 14) dX0_told_3 (by decide) c10 <| ?_
    refine At.iconst dX0_told_14 (by decide) <| ?_
    obtain rfl := Option.some.inj h
    exact At.iret rfl (Nat.zero_le _) (Nat.zero_le _) ⟨rfl, rfl⟩ dX0_told_15
  · refine At.lloadn dX0_told_0 rfl <| At.lconst0 dX0_told_1 <| At.lcmp dX0_told_2 <| At.if_lt_f (tgt := 14) dX0_told_3 (by decide) c10 <| ?_
    rcases ite_e h with ⟨c9, h⟩ | ⟨c9, h⟩
    · refine At.lloadn dX0_told_6 rfl <| At.ldc2 dX0_told_7 kl_X0_58 (by decide) <| At.lcmp dX0_told_10 <| At.if_le_t (tgt := 16) dX0_told_11 (by decide) c9 <| ?_
      refine At.lloadn dX0_told_16 rfl <| At.l2i dX0_told_17 <| ?_
      obtain ⟨x1, hx1, h⟩ := lt_e h
      rcases ite_e h with ⟨c8, h⟩ | ⟨c8, h⟩
      · refine At.nm hx1 <| At.istore (ls' := [(4, vi x1), (0, vr 34), (1, vl p1), (3, vr p3)]) dX0_told_18 (by decide) rfl <| At.iload dX0_told_20 rfl <| At.bipush dX0_told_22 (by decide) <| At.icmp_ge_t (tgt := 43) dX0_told_24 (by decide) c8 <| ?_
        rcases ite_e h with ⟨c6, h⟩ | ⟨c6, h⟩
        · refine At.iload dX0_told_43 rfl <| At.sipush dX0_told_45 (by decide) <| At.icmp_ge_t (tgt := 70) dX0_told_48 (by decide) c6 <| ?_
          rcases ite_e h with ⟨c4, h⟩ | ⟨c4, h⟩
          · refine At.iload dX0_told_70 rfl <| At.sipush dX0_told_72 (by decide) <| At.icmp_ge_t (tgt := 90) dX0_told_75 (by decide) c4 <| ?_
            refine At.aloadn dX0_told_90 rfl <| At.iload dX0_told_91 rfl <| At.sipush dX0_told_93 (by decide) <| At.isub dX0_told_96 <| At.sipush dX0_told_97 (by decide) <| At.idiv dX0_told_100 (by decide) <| At.iload dX0_told_101 rfl <| At.sipush dX0_told_103 (by decide) <| At.irem dX0_told_106 (by decide) <| At.bipush dX0_told_107 (by decide) <| At.idiv dX0_told_109 (by decide) <| At.iload dX0_told_110 rfl <| At.bipush dX0_told_112 (by decide) <| At.irem dX0_told_114 (by decide) <| At.aloadn dX0_told_115 rfl <| ?_
            obtain ⟨q2, hq2, h⟩ := bnd_e h
            refine At.cV1 (av := [vi (w32 (Int.tdiv (w32 (x1 - 1000)) 1000)), vi (w32 (Int.tdiv (Int.tmod x1 1000) 100)), vi (Int.tmod x1 100), vr p3]) (rest := []) mv_X0_moves lk_X0_71 dX0_told_116 rfl rfl sh_34 (Nat.le_of_ble_eq_true rfl) (by decide) ⟨rfl, rfl⟩ (rX0_moves hp3 hq2) <| ?_
            obtain rfl := Option.some.inj h
            exact At.iret rfl (Nat.zero_le _) (Nat.zero_le _) ⟨rfl, rfl⟩ dX0_told_119
          · refine At.iload dX0_told_70 rfl <| At.sipush dX0_told_72 (by decide) <| At.icmp_ge_f (tgt := 90) dX0_told_75 (by decide) c4 <| ?_
            refine At.aloadn dX0_told_78 rfl <| At.iload dX0_told_79 rfl <| At.sipush dX0_told_81 (by decide) <| At.isub dX0_told_84 <| At.aloadn dX0_told_85 rfl <| ?_
            obtain ⟨q3, hq3, h⟩ := bnd_e h
            refine At.cV1 (av := [vi (w32 (x1 - 200)), vr p3]) (rest := []) mv_X0_plants lk_X0_67 dX0_told_86 rfl rfl sh_34 (Nat.le_of_ble_eq_true rfl) (by decide) ⟨rfl, rfl⟩ (rX0_plants hp3 hq3) <| ?_
            obtain rfl := Option.some.inj h
            exact At.iret rfl (Nat.zero_le _) (Nat.zero_le _) ⟨rfl, rfl⟩ dX0_told_89
        · refine At.iload dX0_told_43 rfl <| At.sipush dX0_told_45 (by decide) <| At.icmp_ge_f (tgt := 70) dX0_told_48 (by decide) c6 <| ?_
          refine At.aloadn dX0_told_51 rfl <| At.iload dX0_told_52 rfl <| At.bipush dX0_told_54 (by decide) <| At.isub dX0_told_56 <| At.bipush dX0_told_57 (by decide) <| At.idiv dX0_told_59 (by decide) <| At.iload dX0_told_60 rfl <| At.bipush dX0_told_62 (by decide) <| At.irem dX0_told_64 (by decide) <| At.aloadn dX0_told_65 rfl <| ?_
          obtain ⟨q5, hq5, h⟩ := bnd_e h
          refine At.cV1 (av := [vi (w32 (Int.tdiv (w32 (x1 - 100)) 10)), vi (Int.tmod x1 10), vr p3]) (rest := []) mv_X0_signs lk_X0_64 dX0_told_66 rfl rfl sh_34 (Nat.le_of_ble_eq_true rfl) (by decide) ⟨rfl, rfl⟩ (rX0_signs hp3 hq5) <| ?_
          obtain rfl := Option.some.inj h
          exact At.iret rfl (Nat.zero_le _) (Nat.zero_le _) ⟨rfl, rfl⟩ dX0_told_69
      · refine At.nm hx1 <| At.istore (ls' := [(4, vi x1), (0, vr 34), (1, vl p1), (3, vr p3)]) dX0_told_18 (by decide) rfl <| At.iload dX0_told_20 rfl <| At.bipush dX0_told_22 (by decide) <| At.icmp_ge_f (tgt := 43) dX0_told_24 (by decide) c8 <| ?_
        refine At.aloadn dX0_told_27 rfl <| At.iload dX0_told_28 rfl <| At.bipush dX0_told_30 (by decide) <| At.idiv dX0_told_32 (by decide) <| At.iload dX0_told_33 rfl <| At.bipush dX0_told_35 (by decide) <| At.irem dX0_told_37 (by decide) <| At.aloadn dX0_told_38 rfl <| ?_
        obtain ⟨q7, hq7, h⟩ := bnd_e h
        refine At.cV1 (av := [vi (w32 (Int.tdiv x1 10)), vi (Int.tmod x1 10), vr p3]) (rest := []) mv_X0_walks lk_X0_60 dX0_told_39 rfl rfl sh_34 (Nat.le_of_ble_eq_true rfl) (by decide) ⟨rfl, rfl⟩ (rX0_walks hp3 hq7) <| ?_
        obtain rfl := Option.some.inj h
        exact At.iret rfl (Nat.zero_le _) (Nat.zero_le _) ⟨rfl, rfl⟩ dX0_told_42
    · refine At.lloadn dX0_told_6 rfl <| At.ldc2 dX0_told_7 kl_X0_58 (by decide) <| At.lcmp dX0_told_10 <| At.if_le_f (tgt := 16) dX0_told_11 (by decide) c9 <| ?_
      refine At.iconst dX0_told_14 (by decide) <| ?_
      obtain rfl := Option.some.inj h
      exact At.iret rfl (Nat.zero_le _) (Nat.zero_le _) ⟨rfl, rfl⟩ dX0_told_15
def fX0_allOf_L7 (l1 : Nat) (l2 : Nat) : Nat → Int → SS → Option (Nat × Int × SS)
  | 0, _, _ => none
  | n + 1, l3, S =>
    if (S l1 2) ≤ l3 then (
      some (1, 0, S)
    ) else (
      Option.bind (fX9_valueAt l1 l3 S) fun q1 =>
      Option.bind (fX0_told q1 l2 S) fun q2 =>
      lt (up q2.2 34 2 q2.1) fun S3 =>
      if (S3 34 2) = 0 then (
        lt (w32 (l3 + 1)) fun x4 =>
        fX0_allOf_L7 l1 l2 n x4 S3
      ) else (
        some (0, l3, S3)
      )
    )
def fX0_allOf (p1 : Nat) (p2 : Nat) (S : SS) : Option (Int × SS) :=
  lt (up S 34 2 0) fun S1 =>
  Option.bind (fX0_allOf_L7 p1 p2 FU 0 S1) fun q2 =>
  if q2.1 = 0 then (
    some (q2.2.1, q2.2.2)
  ) else (
    lt (if (q2.2.2 p1 2) < 0 then 0 else q2.2.2 p1 2) fun x4 =>
    some (x4, q2.2.2)
  )
set_option maxRecDepth 100000 in
set_option maxHeartbeats 4000000 in
theorem lX0_allOf_L7 {G : GG} {Φ : Option VV → MM → Prop} {l1 : Nat} {l2 : Nat} (hl1 : sh l1 = (9, 3)) (hl2 : sh l2 = (6, 4)) : ∀ (n : Nat) (l3 : Int) (S : SS) (q : Nat × Int × SS), fX0_allOf_L7 l1 l2 n l3 S = some q → (q.1 = 0 → At G mX0_allOf 7 36 [(3, vi q.2.1)] [] (mm q.2.2) 0 0 Φ) → (q.1 = 1 → At G mX0_allOf 7 44 [(1, vr l1)] [] (mm q.2.2) 0 0 Φ) → At G mX0_allOf 7 7 [(0, vr 34), (1, vr l1), (2, vr l2), (3, vi l3)] [] (mm S) 0 0 Φ := by
  intro n
  induction n with
  | zero =>
    intro _ _ _ h
    cases h
  | succ n ih =>
    intro l3 S q h K36 K44
    unfold fX0_allOf_L7 at h
    rcases ite_e h with ⟨c6, h⟩ | ⟨c6, h⟩
    · refine At.iloadn dX0_allOf_7 rfl <| At.aloadn dX0_allOf_8 rfl <| At.getI fl_X0_77 hl1 (le149 hl1) dX0_allOf_9 <| At.icmp_ge_t (tgt := 44) dX0_allOf_12 (by decide) c6 <| ?_
      obtain rfl := Option.some.inj h
      exact At.sub [1] rfl (K44 rfl)
    · refine At.iloadn dX0_allOf_7 rfl <| At.aloadn dX0_allOf_8 rfl <| At.getI fl_X0_77 hl1 (le149 hl1) dX0_allOf_9 <| At.icmp_ge_f (tgt := 44) dX0_allOf_12 (by decide) c6 <| ?_
      refine At.aloadn dX0_allOf_15 rfl <| At.aloadn dX0_allOf_16 rfl <| At.aloadn dX0_allOf_17 rfl <| At.iloadn dX0_allOf_18 rfl <| ?_
      obtain ⟨q1, hq1, h⟩ := bnd_e h
      refine At.cV1 (av := [vi l3]) (rest := [vr 34, vr 34]) mv_X9_valueAt lk_X0_82 dX0_allOf_19 rfl rfl hl1 (Nat.le_of_ble_eq_true rfl) (by decide) ⟨rfl, rfl⟩ (rX9_valueAt hl1 hq1) <| At.aloadn dX0_allOf_22 rfl <| ?_
      obtain ⟨q2, hq2, h⟩ := bnd_e h
      refine At.cV1 (av := [vl q1, vr l2]) (rest := [vr 34]) mv_X0_told lk_X0_86 dX0_allOf_23 rfl rfl sh_34 (Nat.le_of_ble_eq_true rfl) (by decide) ⟨rfl, rfl⟩ (rX0_told hl2 hq2) <| ?_
      obtain ⟨S3, hS3, h⟩ := lt_e h
      rcases ite_e h with ⟨c5, h⟩ | ⟨c5, h⟩
      · refine At.putI fw_X0_74 sh_34 (le149 sh_34) dX0_allOf_26 <| At.nmS hS3 <| At.aloadn dX0_allOf_29 rfl <| At.getI fl_X0_74 sh_34 (le149 sh_34) dX0_allOf_30 <| At.if_eq_t (tgt := 38) dX0_allOf_33 (by decide) c5 <| ?_
        obtain ⟨x4, hx4, h⟩ := lt_e h
        refine At.iinc (ls' := [(3, vi x4), (0, vr 34), (1, vr l1), (2, vr l2)]) dX0_allOf_38 rfl (by decide) (by rw [hx4]; rfl) <| At.goto (tgt := 7) dX0_allOf_41 (by decide) <| ?_
        exact At.sub [1, 2, 3, 0] rfl (ih _ _ _ h K36 K44)
      · refine At.putI fw_X0_74 sh_34 (le149 sh_34) dX0_allOf_26 <| At.nmS hS3 <| At.aloadn dX0_allOf_29 rfl <| At.getI fl_X0_74 sh_34 (le149 sh_34) dX0_allOf_30 <| At.if_eq_f (tgt := 38) dX0_allOf_33 (by decide) c5 <| ?_
        obtain rfl := Option.some.inj h
        exact At.sub [3] rfl (K36 rfl)
set_option maxRecDepth 100000 in
set_option maxHeartbeats 4000000 in
theorem rX0_allOf {G : GG} {p1 : Nat} {p2 : Nat} {S : SS} {rr : (Int × SS)} (hp1 : sh p1 = (9, 3)) (hp2 : sh p2 = (6, 4)) (h : fX0_allOf p1 p2 S = some rr) : RD G mX0_allOf 7 [vr 34, vr p1, vr p2] S (some (vi rr.1)) rr.2 := by
  unfold fX0_allOf at h
  refine Runs.of pl_X0 (Nat.le_of_ble_eq_true rfl) ?_
  show At G mX0_allOf 7 0 [(0, vr 34), (1, vr p1), (2, vr p2)] [] (mm S) 0 0 (EQ (some (vi rr.1)) rr.2)
  refine At.aloadn dX0_allOf_0 rfl <| At.iconst dX0_allOf_1 (by decide) <| ?_
  obtain ⟨S1, hS1, h⟩ := lt_e h
  refine At.putI fw_X0_74 sh_34 (le149 sh_34) dX0_allOf_2 <| At.nmS hS1 <| At.iconst dX0_allOf_5 (by decide) <| At.istoren (ls' := [(3, vi 0), (0, vr 34), (1, vr p1), (2, vr p2)]) dX0_allOf_6 (by decide) rfl <| ?_
  obtain ⟨q2, ho3, h⟩ := bnd_e h
  refine At.sub [1, 2, 3, 0] rfl (lX0_allOf_L7 hp1 hp2 FU _ _ q2 ho3 (fun hq => ?_) (fun hq => ?_))
  · rw [if_pos hq] at h
    refine At.iloadn dX0_allOf_36 rfl <| ?_
    obtain rfl := Option.some.inj h
    exact At.iret rfl (Nat.zero_le _) (Nat.zero_le _) ⟨rfl, rfl⟩ dX0_allOf_37
  · rw [if_neg (by omega)] at h
    refine At.aloadn dX0_allOf_44 rfl <| At.getI fl_X0_77 hp1 (le149 hp1) dX0_allOf_45 <| At.iconst dX0_allOf_48 (by decide) <| ?_
    obtain ⟨x4, hx4, h⟩ := lt_e h
    refine At.mmax ln_X0_90 (Nat.le_of_ble_eq_true rfl) (by decide) dX0_allOf_49 <| At.nm hx4 <| ?_
    obtain rfl := Option.some.inj h
    exact At.iret rfl (Nat.zero_le _) (Nat.zero_le _) ⟨rfl, rfl⟩ dX0_allOf_52
def fX11_yearsTogether_L4 (l1 : Nat) (S : SS) : Nat → Int → Int → Option (Int)
  | 0, _, _ => none
  | n + 1, l2, l3 =>
    if (S 2 7) ≤ l3 then (
      some l2
    ) else (
      Option.bind (fX6_yearOf l1 l3 S) fun q1 =>
      lt (w32 (l2 + q1)) fun x2 =>
      lt (w32 (l3 + 1)) fun x3 =>
      fX11_yearsTogether_L4 l1 S n x2 x3
    )
def fX11_yearsTogether (p1 : Nat) (S : SS) : Option Int :=
  Option.bind (fX11_yearsTogether_L4 p1 S FU 0 0) fun q1 =>
  some q1
set_option maxRecDepth 100000 in
set_option maxHeartbeats 4000000 in
theorem lX11_yearsTogether_L4 {G : GG} {Φ : Option VV → MM → Prop} {l1 : Nat} {S : SS} (hl1 : sh l1 = (6, 4)) : ∀ (n : Nat) (l2 : Int) (l3 : Int) (q : Int), fX11_yearsTogether_L4 l1 S n l2 l3 = some q → At G mX11_yearsTogether 2 29 [(2, vi q)] [] (mm S) 0 0 Φ → At G mX11_yearsTogether 2 4 [(0, vr 1), (1, vr l1), (2, vi l2), (3, vi l3)] [] (mm S) 0 0 Φ := by
  intro n
  induction n with
  | zero =>
    intro _ _ _ h
    cases h
  | succ n ih =>
    intro l2 l3 q h K29
    unfold fX11_yearsTogether_L4 at h
    rcases ite_e h with ⟨c4, h⟩ | ⟨c4, h⟩
    · refine At.iloadn dX11_yearsTogether_4 rfl <| At.aloadn dX11_yearsTogether_5 rfl <| At.getR fl_X11_12 sh_1 (le149 sh_1) rf_1_0 dX11_yearsTogether_6 <| At.getI fl_X11_402 sh_2 (le149 sh_2) dX11_yearsTogether_9 <| At.icmp_ge_t (tgt := 29) dX11_yearsTogether_12 (by decide) c4 <| ?_
      obtain rfl := Option.some.inj h
      exact At.sub [2] rfl K29
    · refine At.iloadn dX11_yearsTogether_4 rfl <| At.aloadn dX11_yearsTogether_5 rfl <| At.getR fl_X11_12 sh_1 (le149 sh_1) rf_1_0 dX11_yearsTogether_6 <| At.getI fl_X11_402 sh_2 (le149 sh_2) dX11_yearsTogether_9 <| At.icmp_ge_f (tgt := 29) dX11_yearsTogether_12 (by decide) c4 <| ?_
      refine At.iloadn dX11_yearsTogether_15 rfl <| At.aloadn dX11_yearsTogether_16 rfl <| At.iloadn dX11_yearsTogether_17 rfl <| ?_
      obtain ⟨q1, hq1, h⟩ := bnd_e h
      refine At.cV1 (av := [vi l3]) (rest := [vi l2]) mv_X6_yearOf lk_X11_154 dX11_yearsTogether_18 rfl rfl hl1 (Nat.le_of_ble_eq_true rfl) (by decide) ⟨rfl, rfl⟩ (rX6_yearOf hl1 hq1) <| At.iadd dX11_yearsTogether_21 <| ?_
      obtain ⟨x2, hx2, h⟩ := lt_e h
      refine At.nm hx2 <| At.istoren (ls' := [(2, vi x2), (0, vr 1), (1, vr l1), (3, vi l3)]) dX11_yearsTogether_22 (by decide) rfl <| ?_
      obtain ⟨x3, hx3, h⟩ := lt_e h
      refine At.iinc (ls' := [(3, vi x3), (2, vi x2), (0, vr 1), (1, vr l1)]) dX11_yearsTogether_23 rfl (by decide) (by rw [hx3]; rfl) <| At.goto (tgt := 4) dX11_yearsTogether_26 (by decide) <| ?_
      exact At.sub [2, 3, 1, 0] rfl (ih _ _ _ h K29)
set_option maxRecDepth 100000 in
set_option maxHeartbeats 4000000 in
theorem rX11_yearsTogether {G : GG} {p1 : Nat} {S : SS} {rr : Int} (hp1 : sh p1 = (6, 4)) (h : fX11_yearsTogether p1 S = some rr) : RD G mX11_yearsTogether 2 [vr 1, vr p1] S (some (vi rr)) S := by
  unfold fX11_yearsTogether at h
  refine Runs.of pl_X11 (Nat.le_of_ble_eq_true rfl) ?_
  show At G mX11_yearsTogether 2 0 [(0, vr 1), (1, vr p1)] [] (mm S) 0 0 (EQ (some (vi rr)) S)
  refine At.iconst dX11_yearsTogether_0 (by decide) <| At.istoren (ls' := [(2, vi 0), (0, vr 1), (1, vr p1)]) dX11_yearsTogether_1 (by decide) rfl <| At.iconst dX11_yearsTogether_2 (by decide) <| At.istoren (ls' := [(3, vi 0), (2, vi 0), (0, vr 1), (1, vr p1)]) dX11_yearsTogether_3 (by decide) rfl <| ?_
  obtain ⟨q1, ho2, h⟩ := bnd_e h
  refine At.sub [2, 3, 1, 0] rfl (lX11_yearsTogether_L4 hp1 FU _ _ q1 ho2 ?_)
  refine At.iloadn dX11_yearsTogether_29 rfl <| ?_
  obtain rfl := Option.some.inj h
  exact At.iret rfl (Nat.zero_le _) (Nat.zero_le _) ⟨rfl, rfl⟩ dX11_yearsTogether_30
def fX11_cornersOfGoers_L4 (l1 : Nat) (S : SS) : Nat → Int → Int → Option (Int)
  | 0, _, _ => none
  | n + 1, l2, l3 =>
    if (S 2 7) ≤ l3 then (
      some l2
    ) else (
      Option.bind (fX6_cornerOf l1 l3 S) fun q1 =>
      lt (jor l2 (jshl 1 q1)) fun x2 =>
      lt (w32 (l3 + 1)) fun x3 =>
      fX11_cornersOfGoers_L4 l1 S n x2 x3
    )
def fX11_cornersOfGoers (p1 : Nat) (S : SS) : Option Int :=
  Option.bind (fX11_cornersOfGoers_L4 p1 S FU 0 0) fun q1 =>
  some q1
set_option maxRecDepth 100000 in
set_option maxHeartbeats 4000000 in
theorem lX11_cornersOfGoers_L4 {G : GG} {Φ : Option VV → MM → Prop} {l1 : Nat} {S : SS} (hl1 : sh l1 = (6, 4)) : ∀ (n : Nat) (l2 : Int) (l3 : Int) (q : Int), fX11_cornersOfGoers_L4 l1 S n l2 l3 = some q → At G mX11_cornersOfGoers 2 31 [(2, vi q)] [] (mm S) 0 0 Φ → At G mX11_cornersOfGoers 2 4 [(0, vr 1), (1, vr l1), (2, vi l2), (3, vi l3)] [] (mm S) 0 0 Φ := by
  intro n
  induction n with
  | zero =>
    intro _ _ _ h
    cases h
  | succ n ih =>
    intro l2 l3 q h K31
    unfold fX11_cornersOfGoers_L4 at h
    rcases ite_e h with ⟨c4, h⟩ | ⟨c4, h⟩
    · refine At.iloadn dX11_cornersOfGoers_4 rfl <| At.aloadn dX11_cornersOfGoers_5 rfl <| At.getR fl_X11_12 sh_1 (le149 sh_1) rf_1_0 dX11_cornersOfGoers_6 <| At.getI fl_X11_402 sh_2 (le149 sh_2) dX11_cornersOfGoers_9 <| At.icmp_ge_t (tgt := 31) dX11_cornersOfGoers_12 (by decide) c4 <| ?_
      obtain rfl := Option.some.inj h
      exact At.sub [2] rfl K31
    · refine At.iloadn dX11_cornersOfGoers_4 rfl <| At.aloadn dX11_cornersOfGoers_5 rfl <| At.getR fl_X11_12 sh_1 (le149 sh_1) rf_1_0 dX11_cornersOfGoers_6 <| At.getI fl_X11_402 sh_2 (le149 sh_2) dX11_cornersOfGoers_9 <| At.icmp_ge_f (tgt := 31) dX11_cornersOfGoers_12 (by decide) c4 <| ?_
      refine At.iloadn dX11_cornersOfGoers_15 rfl <| At.iconst dX11_cornersOfGoers_16 (by decide) <| At.aloadn dX11_cornersOfGoers_17 rfl <| At.iloadn dX11_cornersOfGoers_18 rfl <| ?_
      obtain ⟨q1, hq1, h⟩ := bnd_e h
      refine At.cV1 (av := [vi l3]) (rest := [vi 1, vi l2]) mv_X6_cornerOf lk_X11_151 dX11_cornersOfGoers_19 rfl rfl hl1 (Nat.le_of_ble_eq_true rfl) (by decide) ⟨rfl, rfl⟩ (rX6_cornerOf hl1 hq1) <| At.ishl dX11_cornersOfGoers_22 <| At.ior dX11_cornersOfGoers_23 <| ?_
      obtain ⟨x2, hx2, h⟩ := lt_e h
      refine At.nm hx2 <| At.istoren (ls' := [(2, vi x2), (0, vr 1), (1, vr l1), (3, vi l3)]) dX11_cornersOfGoers_24 (by decide) rfl <| ?_
      obtain ⟨x3, hx3, h⟩ := lt_e h
      refine At.iinc (ls' := [(3, vi x3), (2, vi x2), (0, vr 1), (1, vr l1)]) dX11_cornersOfGoers_25 rfl (by decide) (by rw [hx3]; rfl) <| At.goto (tgt := 4) dX11_cornersOfGoers_28 (by decide) <| ?_
      exact At.sub [2, 3, 1, 0] rfl (ih _ _ _ h K31)
set_option maxRecDepth 100000 in
set_option maxHeartbeats 4000000 in
theorem rX11_cornersOfGoers {G : GG} {p1 : Nat} {S : SS} {rr : Int} (hp1 : sh p1 = (6, 4)) (h : fX11_cornersOfGoers p1 S = some rr) : RD G mX11_cornersOfGoers 2 [vr 1, vr p1] S (some (vi rr)) S := by
  unfold fX11_cornersOfGoers at h
  refine Runs.of pl_X11 (Nat.le_of_ble_eq_true rfl) ?_
  show At G mX11_cornersOfGoers 2 0 [(0, vr 1), (1, vr p1)] [] (mm S) 0 0 (EQ (some (vi rr)) S)
  refine At.iconst dX11_cornersOfGoers_0 (by decide) <| At.istoren (ls' := [(2, vi 0), (0, vr 1), (1, vr p1)]) dX11_cornersOfGoers_1 (by decide) rfl <| At.iconst dX11_cornersOfGoers_2 (by decide) <| At.istoren (ls' := [(3, vi 0), (2, vi 0), (0, vr 1), (1, vr p1)]) dX11_cornersOfGoers_3 (by decide) rfl <| ?_
  obtain ⟨q1, ho2, h⟩ := bnd_e h
  refine At.sub [2, 3, 1, 0] rfl (lX11_cornersOfGoers_L4 hp1 FU _ _ q1 ho2 ?_)
  refine At.iloadn dX11_cornersOfGoers_31 rfl <| ?_
  obtain rfl := Option.some.inj h
  exact At.iret rfl (Nat.zero_le _) (Nat.zero_le _) ⟨rfl, rfl⟩ dX11_cornersOfGoers_32
def fX11_judge (p1 : Int) (p2 : Int) (S : SS) : Option (Int × SS) :=
  Option.bind (fX11_trayAt p1 S) fun q1 =>
  if q1 = 0 then (
    some ((-2), S)
  ) else (
    if p2 < 0 then (
      some ((-2), S)
    ) else (
      if p2 ≤ 3 then (
        gsh q1 (9, 3) <|
        Option.bind (fX9_isMissing q1 S) fun q3 =>
        if q3 = true then (
          some ((-6), S)
        ) else (
          Option.bind (fX6_copyOf 15 7 S) fun q4 =>
          Option.bind (fX0_allOf q1 15 q4) fun q5 =>
          if p2 = 0 then (
            if (q5.2 34 2) = 0 then (
              some ((-1), q5.2)
            ) else (
              some (q5.1, q5.2)
            )
          ) else (
            if p2 = 1 then (
              some (q5.2 34 2, q5.2)
            ) else (
              if p2 = 2 then (
                Option.bind (fX11_yearsTogether 15 q5.2) fun q10 =>
                some (q10, q5.2)
              ) else (
                Option.bind (fX11_cornersOfGoers 15 q5.2) fun q11 =>
                some (q11, q5.2)
              )
            )
          )
        )
      ) else (
        some ((-2), S)
      )
    )
  )
set_option maxRecDepth 100000 in
set_option maxHeartbeats 4000000 in
theorem rX11_judge {G : GG} {p1 : Int} {p2 : Int} {S : SS} {rr : (Int × SS)} (h : fX11_judge p1 p2 S = some rr) : RD G mX11_judge 8 [vr 1, vi p1, vi p2] S (some (vi rr.1)) rr.2 := by
  unfold fX11_judge at h
  refine Runs.of pl_X11 (Nat.le_of_ble_eq_true rfl) ?_
  show At G mX11_judge 8 0 [(0, vr 1), (1, vi p1), (2, vi p2)] [] (mm S) 0 0 (EQ (some (vi rr.1)) rr.2)
  refine At.aloadn dX11_judge_0 rfl <| At.iloadn dX11_judge_1 rfl <| ?_
  obtain ⟨q1, hq1, h⟩ := bnd_e h
  rcases ite_e h with ⟨c15, h⟩ | ⟨c15, h⟩
  · refine At.cV1 (av := [vi p1]) (rest := []) mv_X11_trayAt lk_X11_204 dX11_judge_2 rfl rfl sh_1 (Nat.le_of_ble_eq_true rfl) (by decide) ⟨rfl, rfl⟩ (rX11_trayAt hq1) <| At.astoren (ls' := [(3, vr q1), (0, vr 1), (1, vi p1), (2, vi p2)]) dX11_judge_5 (by decide) rfl <| At.aloadn dX11_judge_6 rfl <| At.ifnull_t (tgt := 19) dX11_judge_7 (by decide) c15 <| ?_
    refine At.bipush dX11_judge_19 (by decide) <| ?_
    obtain rfl := Option.some.inj h
    exact At.iret rfl (Nat.zero_le _) (Nat.zero_le _) ⟨rfl, rfl⟩ dX11_judge_21
  · refine At.cV1 (av := [vi p1]) (rest := []) mv_X11_trayAt lk_X11_204 dX11_judge_2 rfl rfl sh_1 (Nat.le_of_ble_eq_true rfl) (by decide) ⟨rfl, rfl⟩ (rX11_trayAt hq1) <| At.astoren (ls' := [(3, vr q1), (0, vr 1), (1, vi p1), (2, vi p2)]) dX11_judge_5 (by decide) rfl <| At.aloadn dX11_judge_6 rfl <| At.ifnull_f (tgt := 19) dX11_judge_7 (by decide) c15 <| ?_
    rcases ite_e h with ⟨c14, h⟩ | ⟨c14, h⟩
    · refine At.iloadn dX11_judge_10 rfl <| At.if_lt_t (tgt := 19) dX11_judge_11 (by decide) c14 <| ?_
      refine At.bipush dX11_judge_19 (by decide) <| ?_
      obtain rfl := Option.some.inj h
      exact At.iret rfl (Nat.zero_le _) (Nat.zero_le _) ⟨rfl, rfl⟩ dX11_judge_21
    · refine At.iloadn dX11_judge_10 rfl <| At.if_lt_f (tgt := 19) dX11_judge_11 (by decide) c14 <| ?_
      rcases ite_e h with ⟨c13, h⟩ | ⟨c13, h⟩
      · refine At.iloadn dX11_judge_14 rfl <| At.iconst dX11_judge_15 (by decide) <| At.icmp_le_t (tgt := 22) dX11_judge_16 (by decide) c13 <| ?_
        refine At.aloadn dX11_judge_22 rfl <| ?_
        obtain ⟨g2, h⟩ := gsh_e h
        obtain ⟨q3, hq3, h⟩ := bnd_e h
        rcases ite_e h with ⟨c12, h⟩ | ⟨c12, h⟩
        · refine At.cV1 (av := []) (rest := []) mv_X9_isMissing lk_X11_208 dX11_judge_23 rfl rfl g2 (Nat.le_of_ble_eq_true rfl) (by decide) ⟨rfl, rfl⟩ (rX9_isMissing g2 hq3) <| At.bifeq_f (tgt := 32) dX11_judge_26 (by decide) c12 <| ?_
          refine At.bipush dX11_judge_29 (by decide) <| ?_
          obtain rfl := Option.some.inj h
          exact At.iret rfl (Nat.zero_le _) (Nat.zero_le _) ⟨rfl, rfl⟩ dX11_judge_31
        · refine At.cV1 (av := []) (rest := []) mv_X9_isMissing lk_X11_208 dX11_judge_23 rfl rfl g2 (Nat.le_of_ble_eq_true rfl) (by decide) ⟨rfl, rfl⟩ (rX9_isMissing g2 hq3) <| At.bifeq_t (tgt := 32) dX11_judge_26 (by decide) c12 <| ?_
          refine At.aloadn dX11_judge_32 rfl <| At.getR fl_X11_29 sh_1 (le149 sh_1) rf_1_3 dX11_judge_33 <| At.aloadn dX11_judge_36 rfl <| At.getR fl_X11_20 sh_1 (le149 sh_1) rf_1_1 dX11_judge_37 <| ?_
          obtain ⟨q4, hq4, h⟩ := bnd_e h
          refine At.cV0 (av := [vr 7]) (rest := []) mv_X6_copyOf lk_X11_170 dX11_judge_40 rfl rfl sh_15 (Nat.le_of_ble_eq_true rfl) (by decide) ⟨rfl, rfl⟩ (rX6_copyOf sh_15 sh_7 hq4) <| At.aloadn dX11_judge_43 rfl <| At.getR fl_X11_53 sh_1 (le149 sh_1) rf_1_6 dX11_judge_44 <| At.aloadn dX11_judge_47 rfl <| At.aloadn dX11_judge_48 rfl <| At.getR fl_X11_29 sh_1 (le149 sh_1) rf_1_3 dX11_judge_49 <| ?_
          obtain ⟨q5, hq5, h⟩ := bnd_e h
          rcases ite_e h with ⟨c6, h⟩ | ⟨c6, h⟩
          · refine At.cV1 (av := [vr q1, vr 15]) (rest := []) mv_X0_allOf lk_X11_212 dX11_judge_52 rfl rfl sh_34 (Nat.le_of_ble_eq_true rfl) (by decide) ⟨rfl, rfl⟩ (rX0_allOf g2 sh_15 hq5) <| At.istore (ls' := [(4, vi q5.1), (3, vr q1), (0, vr 1), (1, vi p1), (2, vi p2)]) dX11_judge_55 (by decide) rfl <| At.iloadn dX11_judge_57 rfl <| At.tsIn (off := 26) (tgt := 84) dX11_judge_58 (by omega) (by omega) (by rw [c6] <;> rfl) (by decide) <| ?_
            rcases ite_e h with ⟨c7, h⟩ | ⟨c7, h⟩
            · refine At.aloadn dX11_judge_84 rfl <| At.getR fl_X11_53 sh_1 (le149 sh_1) rf_1_6 dX11_judge_85 <| At.getI fl_X11_216 sh_34 (le149 sh_34) dX11_judge_88 <| At.if_ne_f (tgt := 98) dX11_judge_91 (by decide) c7 <| ?_
              refine At.iconst dX11_judge_94 (by decide) <| At.goto (tgt := 100) dX11_judge_95 (by decide) <| ?_
              obtain rfl := Option.some.inj h
              exact At.iret rfl (Nat.zero_le _) (Nat.zero_le _) ⟨rfl, rfl⟩ dX11_judge_100
            · refine At.aloadn dX11_judge_84 rfl <| At.getR fl_X11_53 sh_1 (le149 sh_1) rf_1_6 dX11_judge_85 <| At.getI fl_X11_216 sh_34 (le149 sh_34) dX11_judge_88 <| At.if_ne_t (tgt := 98) dX11_judge_91 (by decide) c7 <| ?_
              refine At.iload dX11_judge_98 rfl <| ?_
              obtain rfl := Option.some.inj h
              exact At.iret rfl (Nat.zero_le _) (Nat.zero_le _) ⟨rfl, rfl⟩ dX11_judge_100
          · rcases ite_e h with ⟨c8, h⟩ | ⟨c8, h⟩
            · refine At.cV1 (av := [vr q1, vr 15]) (rest := []) mv_X0_allOf lk_X11_212 dX11_judge_52 rfl rfl sh_34 (Nat.le_of_ble_eq_true rfl) (by decide) ⟨rfl, rfl⟩ (rX0_allOf g2 sh_15 hq5) <| At.istore (ls' := [(4, vi q5.1), (3, vr q1), (0, vr 1), (1, vi p1), (2, vi p2)]) dX11_judge_55 (by decide) rfl <| At.iloadn dX11_judge_57 rfl <| At.tsIn (off := 43) (tgt := 101) dX11_judge_58 (by omega) (by omega) (by rw [c8] <;> rfl) (by decide) <| ?_
              refine At.aloadn dX11_judge_101 rfl <| At.getR fl_X11_53 sh_1 (le149 sh_1) rf_1_6 dX11_judge_102 <| At.getI fl_X11_216 sh_34 (le149 sh_34) dX11_judge_105 <| ?_
              obtain rfl := Option.some.inj h
              exact At.iret rfl (Nat.zero_le _) (Nat.zero_le _) ⟨rfl, rfl⟩ dX11_judge_108
            · rcases ite_e h with ⟨c9, h⟩ | ⟨c9, h⟩
              · refine At.cV1 (av := [vr q1, vr 15]) (rest := []) mv_X0_allOf lk_X11_212 dX11_judge_52 rfl rfl sh_34 (Nat.le_of_ble_eq_true rfl) (by decide) ⟨rfl, rfl⟩ (rX0_allOf g2 sh_15 hq5) <| At.istore (ls' := [(4, vi q5.1), (3, vr q1), (0, vr 1), (1, vi p1), (2, vi p2)]) dX11_judge_55 (by decide) rfl <| At.iloadn dX11_judge_57 rfl <| At.tsIn (off := 51) (tgt := 109) dX11_judge_58 (by omega) (by omega) (by rw [c9] <;> rfl) (by decide) <| ?_
                refine At.aloadn dX11_judge_109 rfl <| At.aloadn dX11_judge_110 rfl <| At.getR fl_X11_29 sh_1 (le149 sh_1) rf_1_3 dX11_judge_111 <| ?_
                obtain ⟨q10, hq10, h⟩ := bnd_e h
                refine At.cV1 (av := [vr 15]) (rest := []) mv_X11_yearsTogether lk_X11_219 dX11_judge_114 rfl rfl sh_1 (Nat.le_of_ble_eq_true rfl) (by decide) ⟨rfl, rfl⟩ (rX11_yearsTogether sh_15 hq10) <| ?_
                obtain rfl := Option.some.inj h
                exact At.iret rfl (Nat.zero_le _) (Nat.zero_le _) ⟨rfl, rfl⟩ dX11_judge_117
              · have hz : (p2 < 0 ∨ 2 < p2) := by omega
                refine At.cV1 (av := [vr q1, vr 15]) (rest := []) mv_X0_allOf lk_X11_212 dX11_judge_52 rfl rfl sh_34 (Nat.le_of_ble_eq_true rfl) (by decide) ⟨rfl, rfl⟩ (rX0_allOf g2 sh_15 hq5) <| At.istore (ls' := [(4, vi q5.1), (3, vr q1), (0, vr 1), (1, vi p1), (2, vi p2)]) dX11_judge_55 (by decide) rfl <| At.iloadn dX11_judge_57 rfl <| At.tsOut (tgt := 118) dX11_judge_58 hz (by decide) <| ?_
                refine At.aloadn dX11_judge_118 rfl <| At.aloadn dX11_judge_119 rfl <| At.getR fl_X11_29 sh_1 (le149 sh_1) rf_1_3 dX11_judge_120 <| ?_
                obtain ⟨q11, hq11, h⟩ := bnd_e h
                refine At.cV1 (av := [vr 15]) (rest := []) mv_X11_cornersOfGoers lk_X11_223 dX11_judge_123 rfl rfl sh_1 (Nat.le_of_ble_eq_true rfl) (by decide) ⟨rfl, rfl⟩ (rX11_cornersOfGoers sh_15 hq11) <| ?_
                obtain rfl := Option.some.inj h
                exact At.iret rfl (Nat.zero_le _) (Nat.zero_le _) ⟨rfl, rfl⟩ dX11_judge_126
      · refine At.iloadn dX11_judge_14 rfl <| At.iconst dX11_judge_15 (by decide) <| At.icmp_le_f (tgt := 22) dX11_judge_16 (by decide) c13 <| ?_
        refine At.bipush dX11_judge_19 (by decide) <| ?_
        obtain rfl := Option.some.inj h
        exact At.iret rfl (Nat.zero_le _) (Nat.zero_le _) ⟨rfl, rfl⟩ dX11_judge_21
def fX11_perform (p1 : Int) (S : SS) : Option (Int × SS) :=
  Option.bind (fX11_trayAt p1 S) fun q1 =>
  if q1 = 0 then (
    some ((-2), S)
  ) else (
    gsh q1 (9, 3) <|
    Option.bind (fX9_isMissing q1 S) fun q3 =>
    if q3 = true then (
      some ((-6), S)
    ) else (
      Option.bind (fX6_copyOf 11 7 S) fun q4 =>
      Option.bind (fX0_allOf q1 7 q4) fun q5 =>
      if q5.1 ≤ 0 then (
        some (q5.1, q5.2)
      ) else (
        Option.bind (fX11_kept q5.1 q5.2) fun q6 =>
        some (q6.1, q6.2)
      )
    )
  )
set_option maxRecDepth 100000 in
set_option maxHeartbeats 4000000 in
theorem rX11_perform {G : GG} {p1 : Int} {S : SS} {rr : (Int × SS)} (h : fX11_perform p1 S = some rr) : RD G mX11_perform 8 [vr 1, vi p1] S (some (vi rr.1)) rr.2 := by
  unfold fX11_perform at h
  refine Runs.of pl_X11 (Nat.le_of_ble_eq_true rfl) ?_
  show At G mX11_perform 8 0 [(0, vr 1), (1, vi p1)] [] (mm S) 0 0 (EQ (some (vi rr.1)) rr.2)
  refine At.aloadn dX11_perform_0 rfl <| At.iloadn dX11_perform_1 rfl <| ?_
  obtain ⟨q1, hq1, h⟩ := bnd_e h
  rcases ite_e h with ⟨c9, h⟩ | ⟨c9, h⟩
  · refine At.cV1 (av := [vi p1]) (rest := []) mv_X11_trayAt lk_X11_204 dX11_perform_2 rfl rfl sh_1 (Nat.le_of_ble_eq_true rfl) (by decide) ⟨rfl, rfl⟩ (rX11_trayAt hq1) <| At.astoren (ls' := [(2, vr q1), (0, vr 1), (1, vi p1)]) dX11_perform_5 (by decide) rfl <| At.aloadn dX11_perform_6 rfl <| At.ifnonnull_f (tgt := 13) dX11_perform_7 (by decide) c9 <| ?_
    refine At.bipush dX11_perform_10 (by decide) <| ?_
    obtain rfl := Option.some.inj h
    exact At.iret rfl (Nat.zero_le _) (Nat.zero_le _) ⟨rfl, rfl⟩ dX11_perform_12
  · refine At.cV1 (av := [vi p1]) (rest := []) mv_X11_trayAt lk_X11_204 dX11_perform_2 rfl rfl sh_1 (Nat.le_of_ble_eq_true rfl) (by decide) ⟨rfl, rfl⟩ (rX11_trayAt hq1) <| At.astoren (ls' := [(2, vr q1), (0, vr 1), (1, vi p1)]) dX11_perform_5 (by decide) rfl <| At.aloadn dX11_perform_6 rfl <| At.ifnonnull_t (tgt := 13) dX11_perform_7 (by decide) c9 <| ?_
    refine At.aloadn dX11_perform_13 rfl <| ?_
    obtain ⟨g2, h⟩ := gsh_e h
    obtain ⟨q3, hq3, h⟩ := bnd_e h
    rcases ite_e h with ⟨c8, h⟩ | ⟨c8, h⟩
    · refine At.cV1 (av := []) (rest := []) mv_X9_isMissing lk_X11_208 dX11_perform_14 rfl rfl g2 (Nat.le_of_ble_eq_true rfl) (by decide) ⟨rfl, rfl⟩ (rX9_isMissing g2 hq3) <| At.bifeq_f (tgt := 23) dX11_perform_17 (by decide) c8 <| ?_
      refine At.bipush dX11_perform_20 (by decide) <| ?_
      obtain rfl := Option.some.inj h
      exact At.iret rfl (Nat.zero_le _) (Nat.zero_le _) ⟨rfl, rfl⟩ dX11_perform_22
    · refine At.cV1 (av := []) (rest := []) mv_X9_isMissing lk_X11_208 dX11_perform_14 rfl rfl g2 (Nat.le_of_ble_eq_true rfl) (by decide) ⟨rfl, rfl⟩ (rX9_isMissing g2 hq3) <| At.bifeq_t (tgt := 23) dX11_perform_17 (by decide) c8 <| ?_
      refine At.aloadn dX11_perform_23 rfl <| At.getR fl_X11_26 sh_1 (le149 sh_1) rf_1_2 dX11_perform_24 <| At.aloadn dX11_perform_27 rfl <| At.getR fl_X11_20 sh_1 (le149 sh_1) rf_1_1 dX11_perform_28 <| ?_
      obtain ⟨q4, hq4, h⟩ := bnd_e h
      refine At.cV0 (av := [vr 7]) (rest := []) mv_X6_copyOf lk_X11_170 dX11_perform_31 rfl rfl sh_11 (Nat.le_of_ble_eq_true rfl) (by decide) ⟨rfl, rfl⟩ (rX6_copyOf sh_11 sh_7 hq4) <| At.aloadn dX11_perform_34 rfl <| At.getR fl_X11_53 sh_1 (le149 sh_1) rf_1_6 dX11_perform_35 <| At.aloadn dX11_perform_38 rfl <| At.aloadn dX11_perform_39 rfl <| At.getR fl_X11_20 sh_1 (le149 sh_1) rf_1_1 dX11_perform_40 <| ?_
      obtain ⟨q5, hq5, h⟩ := bnd_e h
      rcases ite_e h with ⟨c7, h⟩ | ⟨c7, h⟩
      · refine At.cV1 (av := [vr q1, vr 7]) (rest := []) mv_X0_allOf lk_X11_212 dX11_perform_43 rfl rfl sh_34 (Nat.le_of_ble_eq_true rfl) (by decide) ⟨rfl, rfl⟩ (rX0_allOf g2 sh_7 hq5) <| At.istoren (ls' := [(3, vi q5.1), (2, vr q1), (0, vr 1), (1, vi p1)]) dX11_perform_46 (by decide) rfl <| At.iloadn dX11_perform_47 rfl <| At.if_le_t (tgt := 59) dX11_perform_48 (by decide) c7 <| ?_
        refine At.iloadn dX11_perform_59 rfl <| ?_
        obtain rfl := Option.some.inj h
        exact At.iret rfl (Nat.zero_le _) (Nat.zero_le _) ⟨rfl, rfl⟩ dX11_perform_60
      · refine At.cV1 (av := [vr q1, vr 7]) (rest := []) mv_X0_allOf lk_X11_212 dX11_perform_43 rfl rfl sh_34 (Nat.le_of_ble_eq_true rfl) (by decide) ⟨rfl, rfl⟩ (rX0_allOf g2 sh_7 hq5) <| At.istoren (ls' := [(3, vi q5.1), (2, vr q1), (0, vr 1), (1, vi p1)]) dX11_perform_46 (by decide) rfl <| At.iloadn dX11_perform_47 rfl <| At.if_le_f (tgt := 59) dX11_perform_48 (by decide) c7 <| ?_
        refine At.aloadn dX11_perform_51 rfl <| At.iloadn dX11_perform_52 rfl <| ?_
        obtain ⟨q6, hq6, h⟩ := bnd_e h
        refine At.cV1 (av := [vi q5.1]) (rest := []) mv_X11_kept lk_X11_178 dX11_perform_53 rfl rfl sh_1 (Nat.le_of_ble_eq_true rfl) (by decide) ⟨rfl, rfl⟩ (rX11_kept hq6) <| At.goto (tgt := 60) dX11_perform_56 (by decide) <| ?_
        obtain rfl := Option.some.inj h
        exact At.iret rfl (Nat.zero_le _) (Nat.zero_le _) ⟨rfl, rfl⟩ dX11_perform_60
def fX0_draw (p1 : Int) (S : SS) : Option (Int × SS) :=
  lt (up S 34 3 (w32 ((w32 (1103515245 * (S 34 3))) + 12345))) fun S1 =>
  if p1 ≤ 0 then (
    some (0, S1)
  ) else (
    nz p1 <|
    some (Int.tmod (jushr (S1 34 3) 16) p1, S1)
  )
set_option maxRecDepth 100000 in
set_option maxHeartbeats 4000000 in
theorem rX0_draw {G : GG} {p1 : Int} {S : SS} {rr : (Int × SS)} (h : fX0_draw p1 S = some rr) : RD G mX0_draw 1 [vr 34, vi p1] S (some (vi rr.1)) rr.2 := by
  unfold fX0_draw at h
  refine Runs.of pl_X0 (Nat.le_of_ble_eq_true rfl) ?_
  show At G mX0_draw 1 0 [(0, vr 34), (1, vi p1)] [] (mm S) 0 0 (EQ (some (vi rr.1)) rr.2)
  refine At.aloadn dX0_draw_0 rfl <| At.ldc dX0_draw_1 ki_X0_106 (by decide) <| At.aloadn dX0_draw_3 rfl <| At.getI fl_X0_96 sh_34 (le149 sh_34) dX0_draw_4 <| At.imul dX0_draw_7 <| At.sipush dX0_draw_8 (by decide) <| At.iadd dX0_draw_11 <| ?_
  obtain ⟨S1, hS1, h⟩ := lt_e h
  rcases ite_e h with ⟨c3, h⟩ | ⟨c3, h⟩
  · refine At.putI fw_X0_96 sh_34 (le149 sh_34) dX0_draw_12 <| At.nmS hS1 <| At.iloadn dX0_draw_15 rfl <| At.if_le_t (tgt := 31) dX0_draw_16 (by decide) c3 <| ?_
    refine At.iconst dX0_draw_31 (by decide) <| ?_
    obtain rfl := Option.some.inj h
    exact At.iret rfl (Nat.zero_le _) (Nat.zero_le _) ⟨rfl, rfl⟩ dX0_draw_32
  · refine At.putI fw_X0_96 sh_34 (le149 sh_34) dX0_draw_12 <| At.nmS hS1 <| At.iloadn dX0_draw_15 rfl <| At.if_le_f (tgt := 31) dX0_draw_16 (by decide) c3 <| ?_
    refine At.aloadn dX0_draw_19 rfl <| At.getI fl_X0_96 sh_34 (le149 sh_34) dX0_draw_20 <| At.bipush dX0_draw_23 (by decide) <| At.iushr dX0_draw_25 <| At.iloadn dX0_draw_26 rfl <| ?_
    obtain ⟨g2, h⟩ := nz_e h
    refine At.irem dX0_draw_27 g2 <| At.goto (tgt := 32) dX0_draw_28 (by decide) <| ?_
    obtain rfl := Option.some.inj h
    exact At.iret rfl (Nat.zero_le _) (Nat.zero_le _) ⟨rfl, rfl⟩ dX0_draw_32
def fX0_drawnDeed (p1 : Nat) (S : SS) : Option (Int × SS) :=
  Option.bind (fX0_draw 6 S) fun q1 =>
  if 4 ≤ q1.1 then (
    if q1.1 = 4 then (
      Option.bind (fX0_draw 8 q1.2) fun q2 =>
      Option.bind (fX0_draw 4 q2.2) fun q3 =>
      Option.bind (fX0_signs q2.1 q3.1 p1 q3.2) fun q4 =>
      some (q4.1, q4.2)
    ) else (
      Option.bind (fX0_draw 10 q1.2) fun q5 =>
      Option.bind (fX0_plants q5.1 p1 q5.2) fun q6 =>
      some (q6.1, q6.2)
    )
  ) else (
    Option.bind (fX0_draw 3 q1.2) fun q8 =>
    Option.bind (fX0_draw 8 q8.2) fun q9 =>
    Option.bind (fX0_walks q8.1 q9.1 p1 q9.2) fun q10 =>
    some (q10.1, q10.2)
  )
set_option maxRecDepth 100000 in
set_option maxHeartbeats 4000000 in
theorem rX0_drawnDeed {G : GG} {p1 : Nat} {S : SS} {rr : (Int × SS)} (hp1 : sh p1 = (6, 4)) (h : fX0_drawnDeed p1 S = some rr) : RD G mX0_drawnDeed 6 [vr 34, vr p1] S (some (vi rr.1)) rr.2 := by
  unfold fX0_drawnDeed at h
  refine Runs.of pl_X0 (Nat.le_of_ble_eq_true rfl) ?_
  show At G mX0_drawnDeed 6 0 [(0, vr 34), (1, vr p1)] [] (mm S) 0 0 (EQ (some (vi rr.1)) rr.2)
  refine At.aloadn dX0_drawnDeed_0 rfl <| At.bipush dX0_drawnDeed_1 (by decide) <| ?_
  obtain ⟨q1, hq1, h⟩ := bnd_e h
  rcases ite_e h with ⟨c11, h⟩ | ⟨c11, h⟩
  · refine At.cV1 (av := [vi 6]) (rest := []) mv_X0_draw lk_X0_103 dX0_drawnDeed_3 rfl rfl sh_34 (Nat.le_of_ble_eq_true rfl) (by decide) ⟨rfl, rfl⟩ (rX0_draw hq1) <| At.istoren (ls' := [(2, vi q1.1), (0, vr 34), (1, vr p1)]) dX0_drawnDeed_6 (by decide) rfl <| At.iloadn dX0_drawnDeed_7 rfl <| At.iconst dX0_drawnDeed_8 (by decide) <| At.icmp_ge_t (tgt := 31) dX0_drawnDeed_9 (by decide) c11 <| ?_
    rcases ite_e h with ⟨c7, h⟩ | ⟨c7, h⟩
    · refine At.iloadn dX0_drawnDeed_31 rfl <| At.iconst dX0_drawnDeed_32 (by decide) <| At.icmp_ne_f (tgt := 55) dX0_drawnDeed_33 (by decide) c7 <| ?_
      refine At.aloadn dX0_drawnDeed_36 rfl <| At.bipush dX0_drawnDeed_37 (by decide) <| ?_
      obtain ⟨q2, hq2, h⟩ := bnd_e h
      refine At.cV1 (av := [vi 8]) (rest := []) mv_X0_draw lk_X0_103 dX0_drawnDeed_39 rfl rfl sh_34 (Nat.le_of_ble_eq_true rfl) (by decide) ⟨rfl, rfl⟩ (rX0_draw hq2) <| At.istoren (ls' := [(3, vi q2.1), (2, vi q1.1), (0, vr 34), (1, vr p1)]) dX0_drawnDeed_42 (by decide) rfl <| At.aloadn dX0_drawnDeed_43 rfl <| At.iloadn dX0_drawnDeed_44 rfl <| At.aloadn dX0_drawnDeed_45 rfl <| At.iconst dX0_drawnDeed_46 (by decide) <| ?_
      obtain ⟨q3, hq3, h⟩ := bnd_e h
      refine At.cV1 (av := [vi 4]) (rest := [vi q2.1, vr 34]) mv_X0_draw lk_X0_103 dX0_drawnDeed_47 rfl rfl sh_34 (Nat.le_of_ble_eq_true rfl) (by decide) ⟨rfl, rfl⟩ (rX0_draw hq3) <| At.aloadn dX0_drawnDeed_50 rfl <| ?_
      obtain ⟨q4, hq4, h⟩ := bnd_e h
      refine At.cV1 (av := [vi q2.1, vi q3.1, vr p1]) (rest := []) mv_X0_signs lk_X0_64 dX0_drawnDeed_51 rfl rfl sh_34 (Nat.le_of_ble_eq_true rfl) (by decide) ⟨rfl, rfl⟩ (rX0_signs hp1 hq4) <| ?_
      obtain rfl := Option.some.inj h
      exact At.iret rfl (Nat.zero_le _) (Nat.zero_le _) ⟨rfl, rfl⟩ dX0_drawnDeed_54
    · refine At.iloadn dX0_drawnDeed_31 rfl <| At.iconst dX0_drawnDeed_32 (by decide) <| At.icmp_ne_t (tgt := 55) dX0_drawnDeed_33 (by decide) c7 <| ?_
      refine At.aloadn dX0_drawnDeed_55 rfl <| At.aloadn dX0_drawnDeed_56 rfl <| At.bipush dX0_drawnDeed_57 (by decide) <| ?_
      obtain ⟨q5, hq5, h⟩ := bnd_e h
      refine At.cV1 (av := [vi 10]) (rest := [vr 34]) mv_X0_draw lk_X0_103 dX0_drawnDeed_59 rfl rfl sh_34 (Nat.le_of_ble_eq_true rfl) (by decide) ⟨rfl, rfl⟩ (rX0_draw hq5) <| At.aloadn dX0_drawnDeed_62 rfl <| ?_
      obtain ⟨q6, hq6, h⟩ := bnd_e h
      refine At.cV1 (av := [vi q5.1, vr p1]) (rest := []) mv_X0_plants lk_X0_67 dX0_drawnDeed_63 rfl rfl sh_34 (Nat.le_of_ble_eq_true rfl) (by decide) ⟨rfl, rfl⟩ (rX0_plants hp1 hq6) <| ?_
      obtain rfl := Option.some.inj h
      exact At.iret rfl (Nat.zero_le _) (Nat.zero_le _) ⟨rfl, rfl⟩ dX0_drawnDeed_66
  · refine At.cV1 (av := [vi 6]) (rest := []) mv_X0_draw lk_X0_103 dX0_drawnDeed_3 rfl rfl sh_34 (Nat.le_of_ble_eq_true rfl) (by decide) ⟨rfl, rfl⟩ (rX0_draw hq1) <| At.istoren (ls' := [(2, vi q1.1), (0, vr 34), (1, vr p1)]) dX0_drawnDeed_6 (by decide) rfl <| At.iloadn dX0_drawnDeed_7 rfl <| At.iconst dX0_drawnDeed_8 (by decide) <| At.icmp_ge_f (tgt := 31) dX0_drawnDeed_9 (by decide) c11 <| ?_
    refine At.aloadn dX0_drawnDeed_12 rfl <| At.iconst dX0_drawnDeed_13 (by decide) <| ?_
    obtain ⟨q8, hq8, h⟩ := bnd_e h
    refine At.cV1 (av := [vi 3]) (rest := []) mv_X0_draw lk_X0_103 dX0_drawnDeed_14 rfl rfl sh_34 (Nat.le_of_ble_eq_true rfl) (by decide) ⟨rfl, rfl⟩ (rX0_draw hq8) <| At.istoren (ls' := [(3, vi q8.1), (2, vi q1.1), (0, vr 34), (1, vr p1)]) dX0_drawnDeed_17 (by decide) rfl <| At.aloadn dX0_drawnDeed_18 rfl <| At.iloadn dX0_drawnDeed_19 rfl <| At.aloadn dX0_drawnDeed_20 rfl <| At.bipush dX0_drawnDeed_21 (by decide) <| ?_
    obtain ⟨q9, hq9, h⟩ := bnd_e h
    refine At.cV1 (av := [vi 8]) (rest := [vi q8.1, vr 34]) mv_X0_draw lk_X0_103 dX0_drawnDeed_23 rfl rfl sh_34 (Nat.le_of_ble_eq_true rfl) (by decide) ⟨rfl, rfl⟩ (rX0_draw hq9) <| At.aloadn dX0_drawnDeed_26 rfl <| ?_
    obtain ⟨q10, hq10, h⟩ := bnd_e h
    refine At.cV1 (av := [vi q8.1, vi q9.1, vr p1]) (rest := []) mv_X0_walks lk_X0_60 dX0_drawnDeed_27 rfl rfl sh_34 (Nat.le_of_ble_eq_true rfl) (by decide) ⟨rfl, rfl⟩ (rX0_walks hp1 hq10) <| ?_
    obtain rfl := Option.some.inj h
    exact At.iret rfl (Nat.zero_le _) (Nat.zero_le _) ⟨rfl, rfl⟩ dX0_drawnDeed_30
def fX0_drawn_L11 (l2 : Int) (l3 : Nat) : Nat → Int → Int → SS → Option (Int × SS)
  | 0, _, _, _ => none
  | n + 1, l4, l5, S =>
    if l2 ≤ l5 then (
      some (l4, S)
    ) else (
      Option.bind (fX0_drawnDeed l3 S) fun q1 =>
      Option.bind (
        if q1.1 = 0 then (
          lt (w32 (l4 + 1)) fun x3 =>
          some x3
        ) else (
          some l4
        )
        : Option (Int)) fun q2 =>
      lt (w32 (l5 + 1)) fun x5 =>
      fX0_drawn_L11 l2 l3 n q2 x5 q1.2
    )
def fX0_drawn (p1 : Int) (p2 : Int) (p3 : Nat) (S : SS) : Option (Int × SS) :=
  lt (up S 34 3 p1) fun S1 =>
  Option.bind (fX0_drawn_L11 p2 p3 FU 0 0 S1) fun q2 =>
  some (q2.1, q2.2)
set_option maxRecDepth 100000 in
set_option maxHeartbeats 4000000 in
theorem lX0_drawn_L11 {G : GG} {Φ : Option VV → MM → Prop} {l2 : Int} {l3 : Nat} (hl3 : sh l3 = (6, 4)) : ∀ (n : Nat) (l4 : Int) (l5 : Int) (S : SS) (q : Int × SS), fX0_drawn_L11 l2 l3 n l4 l5 S = some q → At G mX0_drawn 7 34 [(4, vi q.1)] [] (mm q.2) 0 0 Φ → At G mX0_drawn 7 11 [(0, vr 34), (2, vi l2), (3, vr l3), (4, vi l4), (5, vi l5)] [] (mm S) 0 0 Φ := by
  intro n
  induction n with
  | zero =>
    intro _ _ _ _ h
    cases h
  | succ n ih =>
    intro l4 l5 S q h K34
    unfold fX0_drawn_L11 at h
    rcases ite_e h with ⟨c6, h⟩ | ⟨c6, h⟩
    · refine At.iload dX0_drawn_11 rfl <| At.iloadn dX0_drawn_13 rfl <| At.icmp_ge_t (tgt := 34) dX0_drawn_14 (by decide) c6 <| ?_
      obtain rfl := Option.some.inj h
      exact At.sub [3] rfl K34
    · refine At.iload dX0_drawn_11 rfl <| At.iloadn dX0_drawn_13 rfl <| At.icmp_ge_f (tgt := 34) dX0_drawn_14 (by decide) c6 <| ?_
      refine At.aloadn dX0_drawn_17 rfl <| At.aloadn dX0_drawn_18 rfl <| ?_
      obtain ⟨q1, hq1, h⟩ := bnd_e h
      obtain ⟨q2, hj28, h⟩ := bnd_e h
      have K28 : At G mX0_drawn 7 28 [(0, vr 34), (2, vi l2), (3, vr l3), (4, vi q2), (5, vi l5)] [] (mm q1.2) 0 0 Φ := by
        obtain ⟨x5, hx5, h⟩ := lt_e h
        refine At.iinc (ls' := [(5, vi x5), (0, vr 34), (2, vi l2), (3, vr l3), (4, vi q2)]) dX0_drawn_28 rfl (by decide) (by rw [hx5]; rfl) <| At.goto (tgt := 11) dX0_drawn_31 (by decide) <| ?_
        exact At.sub [1, 2, 3, 4, 0] rfl (ih _ _ _ _ h K34)
      clear h; have h := hj28; clear hj28
      rcases ite_e h with ⟨c4, h⟩ | ⟨c4, h⟩
      · refine At.cV1 (av := [vr l3]) (rest := []) mv_X0_drawnDeed lk_X0_99 dX0_drawn_19 rfl rfl sh_34 (Nat.le_of_ble_eq_true rfl) (by decide) ⟨rfl, rfl⟩ (rX0_drawnDeed hl3 hq1) <| At.if_ne_f (tgt := 28) dX0_drawn_22 (by decide) c4 <| ?_
        obtain ⟨x3, hx3, h⟩ := lt_e h
        refine At.iinc (ls' := [(4, vi x3), (0, vr 34), (2, vi l2), (3, vr l3), (5, vi l5)]) dX0_drawn_25 rfl (by decide) (by rw [hx3]; rfl) <| ?_
        obtain rfl := Option.some.inj h
        exact At.sub [1, 2, 3, 0, 4] rfl K28
      · refine At.cV1 (av := [vr l3]) (rest := []) mv_X0_drawnDeed lk_X0_99 dX0_drawn_19 rfl rfl sh_34 (Nat.le_of_ble_eq_true rfl) (by decide) ⟨rfl, rfl⟩ (rX0_drawnDeed hl3 hq1) <| At.if_ne_t (tgt := 28) dX0_drawn_22 (by decide) c4 <| ?_
        obtain rfl := Option.some.inj h
        exact At.sub [0, 1, 2, 3, 4] rfl K28
set_option maxRecDepth 100000 in
set_option maxHeartbeats 4000000 in
theorem rX0_drawn {G : GG} {p1 : Int} {p2 : Int} {p3 : Nat} {S : SS} {rr : (Int × SS)} (hp3 : sh p3 = (6, 4)) (h : fX0_drawn p1 p2 p3 S = some rr) : RD G mX0_drawn 7 [vr 34, vi p1, vi p2, vr p3] S (some (vi rr.1)) rr.2 := by
  unfold fX0_drawn at h
  refine Runs.of pl_X0 (Nat.le_of_ble_eq_true rfl) ?_
  show At G mX0_drawn 7 0 [(0, vr 34), (1, vi p1), (2, vi p2), (3, vr p3)] [] (mm S) 0 0 (EQ (some (vi rr.1)) rr.2)
  refine At.aloadn dX0_drawn_0 rfl <| At.iloadn dX0_drawn_1 rfl <| ?_
  obtain ⟨S1, hS1, h⟩ := lt_e h
  refine At.putI fw_X0_96 sh_34 (le149 sh_34) dX0_drawn_2 <| At.nmS hS1 <| At.iconst dX0_drawn_5 (by decide) <| At.istore (ls' := [(4, vi 0), (0, vr 34), (1, vi p1), (2, vi p2), (3, vr p3)]) dX0_drawn_6 (by decide) rfl <| At.iconst dX0_drawn_8 (by decide) <| At.istore (ls' := [(5, vi 0), (4, vi 0), (0, vr 34), (1, vi p1), (2, vi p2), (3, vr p3)]) dX0_drawn_9 (by decide) rfl <| ?_
  obtain ⟨q2, ho3, h⟩ := bnd_e h
  refine At.sub [2, 4, 5, 1, 0] rfl (lX0_drawn_L11 hp3 FU _ _ _ q2 ho3 ?_)
  refine At.iload dX0_drawn_34 rfl <| ?_
  obtain rfl := Option.some.inj h
  exact At.iret rfl (Nat.zero_le _) (Nat.zero_le _) ⟨rfl, rfl⟩ dX0_drawn_36
def fX11_day (p1 : Int) (p2 : Int) (S : SS) : Option (Int × SS) :=
  if p2 < 1 then (
    some ((-3), S)
  ) else (
    if p2 ≤ 40 then (
      Option.bind (fX6_copyOf 11 7 S) fun q1 =>
      Option.bind (fX0_drawn p1 p2 7 q1) fun q2 =>
      if q2.1 ≤ 0 then (
        some (q2.1, q2.2)
      ) else (
        Option.bind (fX11_kept q2.1 q2.2) fun q3 =>
        some (q3.1, q3.2)
      )
    ) else (
      some ((-3), S)
    )
  )
set_option maxRecDepth 100000 in
set_option maxHeartbeats 4000000 in
theorem rX11_day {G : GG} {p1 : Int} {p2 : Int} {S : SS} {rr : (Int × SS)} (h : fX11_day p1 p2 S = some rr) : RD G mX11_day 8 [vr 1, vi p1, vi p2] S (some (vi rr.1)) rr.2 := by
  unfold fX11_day at h
  refine Runs.of pl_X11 (Nat.le_of_ble_eq_true rfl) ?_
  show At G mX11_day 8 0 [(0, vr 1), (1, vi p1), (2, vi p2)] [] (mm S) 0 0 (EQ (some (vi rr.1)) rr.2)
  rcases ite_e h with ⟨c6, h⟩ | ⟨c6, h⟩
  · refine At.iloadn dX11_day_0 rfl <| At.iconst dX11_day_1 (by decide) <| At.icmp_lt_t (tgt := 11) dX11_day_2 (by decide) c6 <| ?_
    refine At.bipush dX11_day_11 (by decide) <| ?_
    obtain rfl := Option.some.inj h
    exact At.iret rfl (Nat.zero_le _) (Nat.zero_le _) ⟨rfl, rfl⟩ dX11_day_13
  · refine At.iloadn dX11_day_0 rfl <| At.iconst dX11_day_1 (by decide) <| At.icmp_lt_f (tgt := 11) dX11_day_2 (by decide) c6 <| ?_
    rcases ite_e h with ⟨c5, h⟩ | ⟨c5, h⟩
    · refine At.iloadn dX11_day_5 rfl <| At.bipush dX11_day_6 (by decide) <| At.icmp_le_t (tgt := 14) dX11_day_8 (by decide) c5 <| ?_
      refine At.aloadn dX11_day_14 rfl <| At.getR fl_X11_26 sh_1 (le149 sh_1) rf_1_2 dX11_day_15 <| At.aloadn dX11_day_18 rfl <| At.getR fl_X11_20 sh_1 (le149 sh_1) rf_1_1 dX11_day_19 <| ?_
      obtain ⟨q1, hq1, h⟩ := bnd_e h
      refine At.cV0 (av := [vr 7]) (rest := []) mv_X6_copyOf lk_X11_170 dX11_day_22 rfl rfl sh_11 (Nat.le_of_ble_eq_true rfl) (by decide) ⟨rfl, rfl⟩ (rX6_copyOf sh_11 sh_7 hq1) <| At.aloadn dX11_day_25 rfl <| At.getR fl_X11_53 sh_1 (le149 sh_1) rf_1_6 dX11_day_26 <| At.iloadn dX11_day_29 rfl <| At.iloadn dX11_day_30 rfl <| At.aloadn dX11_day_31 rfl <| At.getR fl_X11_20 sh_1 (le149 sh_1) rf_1_1 dX11_day_32 <| ?_
      obtain ⟨q2, hq2, h⟩ := bnd_e h
      rcases ite_e h with ⟨c4, h⟩ | ⟨c4, h⟩
      · refine At.cV1 (av := [vi p1, vi p2, vr 7]) (rest := []) mv_X0_drawn lk_X11_226 dX11_day_35 rfl rfl sh_34 (Nat.le_of_ble_eq_true rfl) (by decide) ⟨rfl, rfl⟩ (rX0_drawn sh_7 hq2) <| At.istoren (ls' := [(3, vi q2.1), (0, vr 1), (1, vi p1), (2, vi p2)]) dX11_day_38 (by decide) rfl <| At.iloadn dX11_day_39 rfl <| At.if_le_t (tgt := 51) dX11_day_40 (by decide) c4 <| ?_
        refine At.iloadn dX11_day_51 rfl <| ?_
        obtain rfl := Option.some.inj h
        exact At.iret rfl (Nat.zero_le _) (Nat.zero_le _) ⟨rfl, rfl⟩ dX11_day_52
      · refine At.cV1 (av := [vi p1, vi p2, vr 7]) (rest := []) mv_X0_drawn lk_X11_226 dX11_day_35 rfl rfl sh_34 (Nat.le_of_ble_eq_true rfl) (by decide) ⟨rfl, rfl⟩ (rX0_drawn sh_7 hq2) <| At.istoren (ls' := [(3, vi q2.1), (0, vr 1), (1, vi p1), (2, vi p2)]) dX11_day_38 (by decide) rfl <| At.iloadn dX11_day_39 rfl <| At.if_le_f (tgt := 51) dX11_day_40 (by decide) c4 <| ?_
        refine At.aloadn dX11_day_43 rfl <| At.iloadn dX11_day_44 rfl <| ?_
        obtain ⟨q3, hq3, h⟩ := bnd_e h
        refine At.cV1 (av := [vi q2.1]) (rest := []) mv_X11_kept lk_X11_178 dX11_day_45 rfl rfl sh_1 (Nat.le_of_ble_eq_true rfl) (by decide) ⟨rfl, rfl⟩ (rX11_kept hq3) <| At.goto (tgt := 52) dX11_day_48 (by decide) <| ?_
        obtain rfl := Option.some.inj h
        exact At.iret rfl (Nat.zero_le _) (Nat.zero_le _) ⟨rfl, rfl⟩ dX11_day_52
    · refine At.iloadn dX11_day_5 rfl <| At.bipush dX11_day_6 (by decide) <| At.icmp_le_f (tgt := 14) dX11_day_8 (by decide) c5 <| ?_
      refine At.bipush dX11_day_11 (by decide) <| ?_
      obtain rfl := Option.some.inj h
      exact At.iret rfl (Nat.zero_le _) (Nat.zero_le _) ⟨rfl, rfl⟩ dX11_day_13
def fX11_refusesComing (p1 : Int) (p2 : Int) (p3 : Int) (S : SS) : Option Int :=
  Option.bind (fX8_hasGoer 2 p1 S) fun q1 =>
  if q1 = true then (
    Option.bind (fX8_hasCorner 2 p2 S) fun q2 =>
    if q2 = true then (
      if p3 = ((-1)) then (
        some 0
      ) else (
        Option.bind (fX11_isYear p3) fun q3 =>
        if q3 = true then (
          some 0
        ) else (
          some ((-3))
        )
      )
    ) else (
      some ((-2))
    )
  ) else (
    some ((-2))
  )
set_option maxRecDepth 100000 in
set_option maxHeartbeats 4000000 in
theorem rX11_refusesComing {G : GG} {p1 : Int} {p2 : Int} {p3 : Int} {S : SS} {rr : Int} (h : fX11_refusesComing p1 p2 p3 S = some rr) : RD G mX11_refusesComing 2 [vr 1, vi p1, vi p2, vi p3] S (some (vi rr)) S := by
  unfold fX11_refusesComing at h
  refine Runs.of pl_X11 (Nat.le_of_ble_eq_true rfl) ?_
  show At G mX11_refusesComing 2 0 [(0, vr 1), (1, vi p1), (2, vi p2), (3, vi p3)] [] (mm S) 0 0 (EQ (some (vi rr)) S)
  refine At.aloadn dX11_refusesComing_0 rfl <| At.getR fl_X11_12 sh_1 (le149 sh_1) rf_1_0 dX11_refusesComing_1 <| At.iloadn dX11_refusesComing_4 rfl <| ?_
  obtain ⟨q1, hq1, h⟩ := bnd_e h
  rcases ite_e h with ⟨c7, h⟩ | ⟨c7, h⟩
  · refine At.cV1 (av := [vi p1]) (rest := []) mv_X8_hasGoer lk_X11_148 dX11_refusesComing_5 rfl rfl sh_2 (Nat.le_of_ble_eq_true rfl) (by decide) ⟨rfl, rfl⟩ (rX8_hasGoer sh_2 hq1) <| At.bifeq_f (tgt := 22) dX11_refusesComing_8 (by decide) c7 <| ?_
    refine At.aloadn dX11_refusesComing_11 rfl <| At.getR fl_X11_12 sh_1 (le149 sh_1) rf_1_0 dX11_refusesComing_12 <| At.iloadn dX11_refusesComing_15 rfl <| ?_
    obtain ⟨q2, hq2, h⟩ := bnd_e h
    rcases ite_e h with ⟨c6, h⟩ | ⟨c6, h⟩
    · refine At.cV1 (av := [vi p2]) (rest := []) mv_X8_hasCorner lk_X11_253 dX11_refusesComing_16 rfl rfl sh_2 (Nat.le_of_ble_eq_true rfl) (by decide) ⟨rfl, rfl⟩ (rX8_hasCorner sh_2 hq2) <| At.bifne_t (tgt := 25) dX11_refusesComing_19 (by decide) c6 <| ?_
      rcases ite_e h with ⟨c5, h⟩ | ⟨c5, h⟩
      · refine At.iloadn dX11_refusesComing_25 rfl <| At.iconst dX11_refusesComing_26 (by decide) <| At.icmp_eq_t (tgt := 37) dX11_refusesComing_27 (by decide) c5 <| ?_
        refine At.iconst dX11_refusesComing_37 (by decide) <| At.goto (tgt := 43) dX11_refusesComing_38 (by decide) <| ?_
        obtain rfl := Option.some.inj h
        exact At.iret rfl (Nat.zero_le _) (Nat.zero_le _) ⟨rfl, rfl⟩ dX11_refusesComing_43
      · refine At.iloadn dX11_refusesComing_25 rfl <| At.iconst dX11_refusesComing_26 (by decide) <| At.icmp_eq_f (tgt := 37) dX11_refusesComing_27 (by decide) c5 <| ?_
        refine At.iloadn dX11_refusesComing_30 rfl <| ?_
        obtain ⟨q3, hq3, h⟩ := bnd_e h
        rcases ite_e h with ⟨c4, h⟩ | ⟨c4, h⟩
        · refine At.cS1 (av := [vi p3]) (rest := []) ms_X11_isYear lk_X11_344 dX11_refusesComing_31 rfl rfl (Nat.le_of_ble_eq_true rfl) (by decide) ⟨rfl, rfl⟩ (rX11_isYear hq3) <| At.bifeq_f (tgt := 41) dX11_refusesComing_34 (by decide) c4 <| ?_
          refine At.iconst dX11_refusesComing_37 (by decide) <| At.goto (tgt := 43) dX11_refusesComing_38 (by decide) <| ?_
          obtain rfl := Option.some.inj h
          exact At.iret rfl (Nat.zero_le _) (Nat.zero_le _) ⟨rfl, rfl⟩ dX11_refusesComing_43
        · refine At.cS1 (av := [vi p3]) (rest := []) ms_X11_isYear lk_X11_344 dX11_refusesComing_31 rfl rfl (Nat.le_of_ble_eq_true rfl) (by decide) ⟨rfl, rfl⟩ (rX11_isYear hq3) <| At.bifeq_t (tgt := 41) dX11_refusesComing_34 (by decide) c4 <| ?_
          refine At.bipush dX11_refusesComing_41 (by decide) <| ?_
          obtain rfl := Option.some.inj h
          exact At.iret rfl (Nat.zero_le _) (Nat.zero_le _) ⟨rfl, rfl⟩ dX11_refusesComing_43
    · refine At.cV1 (av := [vi p2]) (rest := []) mv_X8_hasCorner lk_X11_253 dX11_refusesComing_16 rfl rfl sh_2 (Nat.le_of_ble_eq_true rfl) (by decide) ⟨rfl, rfl⟩ (rX8_hasCorner sh_2 hq2) <| At.bifne_f (tgt := 25) dX11_refusesComing_19 (by decide) c6 <| ?_
      refine At.bipush dX11_refusesComing_22 (by decide) <| ?_
      obtain rfl := Option.some.inj h
      exact At.iret rfl (Nat.zero_le _) (Nat.zero_le _) ⟨rfl, rfl⟩ dX11_refusesComing_24
  · refine At.cV1 (av := [vi p1]) (rest := []) mv_X8_hasGoer lk_X11_148 dX11_refusesComing_5 rfl rfl sh_2 (Nat.le_of_ble_eq_true rfl) (by decide) ⟨rfl, rfl⟩ (rX8_hasGoer sh_2 hq1) <| At.bifeq_t (tgt := 22) dX11_refusesComing_8 (by decide) c7 <| ?_
    refine At.bipush dX11_refusesComing_22 (by decide) <| ?_
    obtain rfl := Option.some.inj h
    exact At.iret rfl (Nat.zero_le _) (Nat.zero_le _) ⟨rfl, rfl⟩ dX11_refusesComing_24
def fJ7_fill_53178_960_L5 (l0 : Nat) (l1 : Int) (l3 : Int) : Nat → Int → SS → Option (SS)
  | 0, _, _ => none
  | n + 1, l2, S =>
    if l3 ≤ l2 then (
      some S
    ) else (
      wrA S l0 960 l2 l1 fun S1 =>
      lt (w32 (l2 + 1)) fun x3 =>
      fJ7_fill_53178_960_L5 l0 l1 l3 n x3 S1
    )
def fJ7_fill_53178_960 (p0 : Nat) (p1 : Int) (S : SS) : Option SS :=
  Option.bind (fJ7_fill_53178_960_L5 p0 p1 960 FU 0 S) fun q1 =>
  some q1
set_option maxRecDepth 100000 in
set_option maxHeartbeats 4000000 in
theorem lJ7_fill_53178_960_L5 {G : GG} {Φ : Option VV → MM → Prop} {l0 : Nat} {l1 : Int} {l3 : Int} (hl0 : sh l0 = (20, 960)) : ∀ (n : Nat) (l2 : Int) (S : SS) (q : SS), fJ7_fill_53178_960_L5 l0 l1 l3 n l2 S = some q → At G mJ7_fill_53178 1 20 [] [] (mm q) 0 0 Φ → At G mJ7_fill_53178 1 5 [(0, vr l0), (1, vi l1), (2, vi l2), (3, vi l3)] [] (mm S) 0 0 Φ := by
  intro n
  induction n with
  | zero =>
    intro _ _ _ h
    cases h
  | succ n ih =>
    intro l2 S q h K20
    unfold fJ7_fill_53178_960_L5 at h
    rcases ite_e h with ⟨c4, h⟩ | ⟨c4, h⟩
    · refine At.iloadn dJ7_fill_53178_5 rfl <| At.iloadn dJ7_fill_53178_6 rfl <| At.icmp_ge_t (tgt := 20) dJ7_fill_53178_7 (by decide) c4 <| ?_
      obtain rfl := Option.some.inj h
      exact At.sub [] rfl K20
    · refine At.iloadn dJ7_fill_53178_5 rfl <| At.iloadn dJ7_fill_53178_6 rfl <| At.icmp_ge_f (tgt := 20) dJ7_fill_53178_7 (by decide) c4 <| ?_
      refine At.aloadn dJ7_fill_53178_10 rfl <| At.iloadn dJ7_fill_53178_11 rfl <| At.iloadn dJ7_fill_53178_12 rfl <| ?_
      obtain ⟨S1, hS1, g2, h⟩ := wrA_e h
      refine At.iast hl0 (le149 hl0) g2.1 g2.2 dJ7_fill_53178_13 <| At.nmS hS1 <| ?_
      obtain ⟨x3, hx3, h⟩ := lt_e h
      refine At.iinc (ls' := [(2, vi x3), (0, vr l0), (1, vi l1), (3, vi l3)]) dJ7_fill_53178_14 rfl (by decide) (by rw [hx3]; rfl) <| At.goto (tgt := 5) dJ7_fill_53178_17 (by decide) <| ?_
      exact At.sub [1, 2, 0, 3] rfl (ih _ _ _ h K20)
set_option maxRecDepth 100000 in
set_option maxHeartbeats 4000000 in
theorem rJ7_fill_53178_960 {G : GG} {p0 : Nat} {p1 : Int} {S : SS} {rr : SS} (hp0 : sh p0 = (20, 960)) (h : fJ7_fill_53178_960 p0 p1 S = some rr) : RD G mJ7_fill_53178 1 [vr p0, vi p1] S none rr := by
  unfold fJ7_fill_53178_960 at h
  refine Runs.of pl_J7 (Nat.le_of_ble_eq_true rfl) ?_
  show At G mJ7_fill_53178 1 0 [(0, vr p0), (1, vi p1)] [] (mm S) 0 0 (EQ none rr)
  refine At.iconst dJ7_fill_53178_0 (by decide) <| At.istoren (ls' := [(2, vi 0), (0, vr p0), (1, vi p1)]) dJ7_fill_53178_1 (by decide) rfl <| At.aloadn dJ7_fill_53178_2 rfl <| At.alenI hp0 (le149 hp0) (by decide) (z := 960) rfl dJ7_fill_53178_3 <| At.istoren (ls' := [(3, vi 960), (2, vi 0), (0, vr p0), (1, vi p1)]) dJ7_fill_53178_4 (by decide) rfl <| ?_
  obtain ⟨q1, ho2, h⟩ := bnd_e h
  refine At.sub [2, 3, 1, 0] rfl (lJ7_fill_53178_960_L5 hp0 FU _ _ q1 ho2 ?_)
  obtain rfl := Option.some.inj h
  exact At.vret rfl (Nat.zero_le _) (Nat.zero_le _) ⟨rfl, rfl⟩ dJ7_fill_53178_20
def fX5_settle (p1 : Int) (S : SS) : Option SS :=
  if p1 = (S 30 3) then (
    some S
  ) else (
    Option.bind (fJ7_fill_53178_960 33 0 S) fun q1 =>
    lt (up q1 30 3 p1) fun S2 =>
    some S2
  )
set_option maxRecDepth 100000 in
set_option maxHeartbeats 4000000 in
theorem rX5_settle {G : GG} {p1 : Int} {S : SS} {rr : SS} (h : fX5_settle p1 S = some rr) : RD G mX5_settle 2 [vr 30, vi p1] S none rr := by
  unfold fX5_settle at h
  refine Runs.of pl_X5 (Nat.le_of_ble_eq_true rfl) ?_
  show At G mX5_settle 2 0 [(0, vr 30), (1, vi p1)] [] (mm S) 0 0 (EQ none rr)
  rcases ite_e h with ⟨c3, h⟩ | ⟨c3, h⟩
  · refine At.iloadn dX5_settle_0 rfl <| At.aloadn dX5_settle_1 rfl <| At.getI fl_X5_22 sh_30 (le149 sh_30) dX5_settle_2 <| At.icmp_eq_t (tgt := 21) dX5_settle_5 (by decide) c3 <| ?_
    obtain rfl := Option.some.inj h
    exact At.vret rfl (Nat.zero_le _) (Nat.zero_le _) ⟨rfl, rfl⟩ dX5_settle_21
  · refine At.iloadn dX5_settle_0 rfl <| At.aloadn dX5_settle_1 rfl <| At.getI fl_X5_22 sh_30 (le149 sh_30) dX5_settle_2 <| At.icmp_eq_f (tgt := 21) dX5_settle_5 (by decide) c3 <| ?_
    refine At.aloadn dX5_settle_8 rfl <| At.getR fl_X5_18 sh_30 (le149 sh_30) rf_30_2 dX5_settle_9 <| At.iconst dX5_settle_12 (by decide) <| ?_
    obtain ⟨q1, hq1, h⟩ := bnd_e h
    refine At.cS0 (av := [vr 33, vi 0]) (rest := []) ms_J7_fill_53178 lk_X5_30 dX5_settle_13 rfl rfl (Nat.le_of_ble_eq_true rfl) (by decide) ⟨rfl, rfl⟩ (rJ7_fill_53178_960 sh_33 hq1) <| At.aloadn dX5_settle_16 rfl <| At.iloadn dX5_settle_17 rfl <| ?_
    obtain ⟨S2, hS2, h⟩ := lt_e h
    refine At.putI fw_X5_22 sh_30 (le149 sh_30) dX5_settle_18 <| At.nmS hS2 <| ?_
    obtain rfl := Option.some.inj h
    exact At.vret rfl (Nat.zero_le _) (Nat.zero_le _) ⟨rfl, rfl⟩ dX5_settle_21
def fX5_leaving_L5 (l1 : Int) (l2 : Nat) (S : SS) : Nat → Int → Int → Option (Int)
  | 0, _, _ => none
  | n + 1, l3, l4 =>
    if (S 2 6) ≤ l4 then (
      some l3
    ) else (
      if 8 ≤ l4 then (
        some l3
      ) else (
        Option.bind (fX6_signOf l2 l4 S) fun q1 =>
        Option.bind (fX5_sideOf l4 l1 q1 S) fun q2 =>
        Option.bind (
          if q2 = ((-1)) then (
            some l3
          ) else (
            lt (jor l3 (jshl 1 l4)) fun x4 =>
            some x4
          )
          : Option (Int)) fun q3 =>
        lt (w32 (l4 + 1)) fun x6 =>
        fX5_leaving_L5 l1 l2 S n q3 x6
      )
    )
def fX5_leaving (p1 : Int) (p2 : Nat) (S : SS) : Option Int :=
  Option.bind (fX5_leaving_L5 p1 p2 S FU 0 0) fun q1 =>
  some q1
set_option maxRecDepth 100000 in
set_option maxHeartbeats 4000000 in
theorem lX5_leaving_L5 {G : GG} {Φ : Option VV → MM → Prop} {l1 : Int} {l2 : Nat} {S : SS} (hl2 : sh l2 = (6, 4)) : ∀ (n : Nat) (l3 : Int) (l4 : Int) (q : Int), fX5_leaving_L5 l1 l2 S n l3 l4 = some q → At G mX5_leaving 2 54 [(3, vi q)] [] (mm S) 0 0 Φ → At G mX5_leaving 2 5 [(0, vr 30), (1, vi l1), (2, vr l2), (3, vi l3), (4, vi l4)] [] (mm S) 0 0 Φ := by
  intro n
  induction n with
  | zero =>
    intro _ _ _ h
    cases h
  | succ n ih =>
    intro l3 l4 q h K54
    unfold fX5_leaving_L5 at h
    rcases ite_e h with ⟨c8, h⟩ | ⟨c8, h⟩
    · refine At.iload dX5_leaving_5 rfl <| At.aloadn dX5_leaving_7 rfl <| At.getR fl_X5_26 sh_30 (le149 sh_30) rf_30_0 dX5_leaving_8 <| At.getI fl_X5_71 sh_2 (le149 sh_2) dX5_leaving_11 <| At.icmp_ge_t (tgt := 54) dX5_leaving_14 (by decide) c8 <| ?_
      obtain rfl := Option.some.inj h
      exact At.sub [3] rfl K54
    · refine At.iload dX5_leaving_5 rfl <| At.aloadn dX5_leaving_7 rfl <| At.getR fl_X5_26 sh_30 (le149 sh_30) rf_30_0 dX5_leaving_8 <| At.getI fl_X5_71 sh_2 (le149 sh_2) dX5_leaving_11 <| At.icmp_ge_f (tgt := 54) dX5_leaving_14 (by decide) c8 <| ?_
      rcases ite_e h with ⟨c7, h⟩ | ⟨c7, h⟩
      · refine At.iload dX5_leaving_17 rfl <| At.bipush dX5_leaving_19 (by decide) <| At.icmp_ge_t (tgt := 54) dX5_leaving_21 (by decide) c7 <| ?_
        obtain rfl := Option.some.inj h
        exact At.sub [3] rfl K54
      · refine At.iload dX5_leaving_17 rfl <| At.bipush dX5_leaving_19 (by decide) <| At.icmp_ge_f (tgt := 54) dX5_leaving_21 (by decide) c7 <| ?_
        refine At.aloadn dX5_leaving_24 rfl <| At.iload dX5_leaving_25 rfl <| At.iloadn dX5_leaving_27 rfl <| At.aloadn dX5_leaving_28 rfl <| At.iload dX5_leaving_29 rfl <| ?_
        obtain ⟨q1, hq1, h⟩ := bnd_e h
        refine At.cV1 (av := [vi l4]) (rest := [vi l1, vi l4, vr 30]) mv_X6_signOf lk_X5_48 dX5_leaving_31 rfl rfl hl2 (Nat.le_of_ble_eq_true rfl) (by decide) ⟨rfl, rfl⟩ (rX6_signOf hl2 hq1) <| ?_
        obtain ⟨q2, hq2, h⟩ := bnd_e h
        obtain ⟨q3, hj48, h⟩ := bnd_e h
        have K48 : At G mX5_leaving 2 48 [(0, vr 30), (1, vi l1), (2, vr l2), (3, vi q3), (4, vi l4)] [] (mm S) 0 0 Φ := by
          obtain ⟨x6, hx6, h⟩ := lt_e h
          refine At.iinc (ls' := [(4, vi x6), (0, vr 30), (1, vi l1), (2, vr l2), (3, vi q3)]) dX5_leaving_48 rfl (by decide) (by rw [hx6]; rfl) <| At.goto (tgt := 5) dX5_leaving_51 (by decide) <| ?_
          exact At.sub [1, 2, 3, 4, 0] rfl (ih _ _ _ h K54)
        clear h; have h := hj48; clear hj48
        rcases ite_e h with ⟨c5, h⟩ | ⟨c5, h⟩
        · refine At.cV1 (av := [vi l4, vi l1, vi q1]) (rest := []) mv_X5_sideOf lk_X5_54 dX5_leaving_34 rfl rfl sh_30 (Nat.le_of_ble_eq_true rfl) (by decide) ⟨rfl, rfl⟩ (rX5_sideOf hq2) <| At.iconst dX5_leaving_37 (by decide) <| At.icmp_eq_t (tgt := 48) dX5_leaving_38 (by decide) c5 <| ?_
          obtain rfl := Option.some.inj h
          exact At.sub [0, 1, 2, 3, 4] rfl K48
        · refine At.cV1 (av := [vi l4, vi l1, vi q1]) (rest := []) mv_X5_sideOf lk_X5_54 dX5_leaving_34 rfl rfl sh_30 (Nat.le_of_ble_eq_true rfl) (by decide) ⟨rfl, rfl⟩ (rX5_sideOf hq2) <| At.iconst dX5_leaving_37 (by decide) <| At.icmp_eq_f (tgt := 48) dX5_leaving_38 (by decide) c5 <| ?_
          refine At.iloadn dX5_leaving_41 rfl <| At.iconst dX5_leaving_42 (by decide) <| At.iload dX5_leaving_43 rfl <| At.ishl dX5_leaving_45 <| At.ior dX5_leaving_46 <| ?_
          obtain ⟨x4, hx4, h⟩ := lt_e h
          refine At.nm hx4 <| At.istoren (ls' := [(3, vi x4), (0, vr 30), (1, vi l1), (2, vr l2), (4, vi l4)]) dX5_leaving_47 (by decide) rfl <| ?_
          obtain rfl := Option.some.inj h
          exact At.sub [1, 2, 3, 0, 4] rfl K48
set_option maxRecDepth 100000 in
set_option maxHeartbeats 4000000 in
theorem rX5_leaving {G : GG} {p1 : Int} {p2 : Nat} {S : SS} {rr : Int} (hp2 : sh p2 = (6, 4)) (h : fX5_leaving p1 p2 S = some rr) : RD G mX5_leaving 2 [vr 30, vi p1, vr p2] S (some (vi rr)) S := by
  unfold fX5_leaving at h
  refine Runs.of pl_X5 (Nat.le_of_ble_eq_true rfl) ?_
  show At G mX5_leaving 2 0 [(0, vr 30), (1, vi p1), (2, vr p2)] [] (mm S) 0 0 (EQ (some (vi rr)) S)
  refine At.iconst dX5_leaving_0 (by decide) <| At.istoren (ls' := [(3, vi 0), (0, vr 30), (1, vi p1), (2, vr p2)]) dX5_leaving_1 (by decide) rfl <| At.iconst dX5_leaving_2 (by decide) <| At.istore (ls' := [(4, vi 0), (3, vi 0), (0, vr 30), (1, vi p1), (2, vr p2)]) dX5_leaving_3 (by decide) rfl <| ?_
  obtain ⟨q1, ho2, h⟩ := bnd_e h
  refine At.sub [2, 3, 4, 1, 0] rfl (lX5_leaving_L5 hp2 FU _ _ q1 ho2 ?_)
  refine At.iloadn dX5_leaving_54 rfl <| ?_
  obtain rfl := Option.some.inj h
  exact At.iret rfl (Nat.zero_le _) (Nat.zero_le _) ⟨rfl, rfl⟩ dX5_leaving_55
def fX10_begin_L13 (l0 : Nat) (l1 : Nat) : Nat → Int → SS → Option (SS)
  | 0, _, _ => none
  | n + 1, l2, S =>
    if 6 ≤ l2 then (
      some S
    ) else (
      Option.bind (fX5_leaving l2 l1 S) fun q1 =>
      wrA S (l0 + 5) 6 l2 q1 fun S2 =>
      lt (w32 (l2 + 1)) fun x4 =>
      fX10_begin_L13 l0 l1 n x4 S2
    )
def fX10_begin (t : Nat) (p1 : Nat) (S : SS) : Option SS :=
  Option.bind (fX5_settle (S p1 3) S) fun q1 =>
  Option.bind (fX10_begin_L13 t p1 FU 0 q1) fun q2 =>
  some q2
set_option maxRecDepth 100000 in
set_option maxHeartbeats 4000000 in
theorem lX10_begin_L13 {G : GG} {Φ : Option VV → MM → Prop} {l0 : Nat} {l1 : Nat} (hl0 : sh l0 = (10, 10)) (hl1 : sh l1 = (6, 4)) : ∀ (n : Nat) (l2 : Int) (S : SS) (q : SS), fX10_begin_L13 l0 l1 n l2 S = some q → At G mX10_begin 3 43 [] [] (mm q) 0 0 Φ → At G mX10_begin 3 13 [(0, vr l0), (1, vr l1), (2, vi l2)] [] (mm S) 0 0 Φ := by
  intro n
  induction n with
  | zero =>
    intro _ _ _ h
    cases h
  | succ n ih =>
    intro l2 S q h K43
    unfold fX10_begin_L13 at h
    rcases ite_e h with ⟨c5, h⟩ | ⟨c5, h⟩
    · refine At.iloadn dX10_begin_13 rfl <| At.aloadn dX10_begin_14 rfl <| At.getR fl_X10_24 hl0 (le149 hl0) (rfO_10_5 hl0) dX10_begin_15 <| At.alenI (shO_10_5 hl0) (le149 (shO_10_5 hl0)) (by decide) (z := 6) rfl dX10_begin_18 <| At.icmp_ge_t (tgt := 43) dX10_begin_19 (by decide) c5 <| ?_
      obtain rfl := Option.some.inj h
      exact At.sub [] rfl K43
    · refine At.iloadn dX10_begin_13 rfl <| At.aloadn dX10_begin_14 rfl <| At.getR fl_X10_24 hl0 (le149 hl0) (rfO_10_5 hl0) dX10_begin_15 <| At.alenI (shO_10_5 hl0) (le149 (shO_10_5 hl0)) (by decide) (z := 6) rfl dX10_begin_18 <| At.icmp_ge_f (tgt := 43) dX10_begin_19 (by decide) c5 <| ?_
      refine At.aloadn dX10_begin_22 rfl <| At.getR fl_X10_24 hl0 (le149 hl0) (rfO_10_5 hl0) dX10_begin_23 <| At.iloadn dX10_begin_26 rfl <| At.aloadn dX10_begin_27 rfl <| At.getR fl_X10_33 hl0 (le149 hl0) (rfO_10_0 hl0) dX10_begin_28 <| At.iloadn dX10_begin_31 rfl <| At.aloadn dX10_begin_32 rfl <| ?_
      obtain ⟨q1, hq1, h⟩ := bnd_e h
      refine At.cV1 (av := [vi l2, vr l1]) (rest := [vi l2, vr (l0 + 5)]) mv_X5_leaving lk_X10_81 dX10_begin_33 rfl rfl sh_30 (Nat.le_of_ble_eq_true rfl) (by decide) ⟨rfl, rfl⟩ (rX5_leaving hl1 hq1) <| ?_
      obtain ⟨S2, hS2, g3, h⟩ := wrA_e h
      refine At.iast (shO_10_5 hl0) (le149 (shO_10_5 hl0)) g3.1 g3.2 dX10_begin_36 <| At.nmS hS2 <| ?_
      obtain ⟨x4, hx4, h⟩ := lt_e h
      refine At.iinc (ls' := [(2, vi x4), (0, vr l0), (1, vr l1)]) dX10_begin_37 rfl (by decide) (by rw [hx4]; rfl) <| At.goto (tgt := 13) dX10_begin_40 (by decide) <| ?_
      exact At.sub [1, 2, 0] rfl (ih _ _ _ h K43)
set_option maxRecDepth 100000 in
set_option maxHeartbeats 4000000 in
theorem rX10_begin {G : GG} {t : Nat} {p1 : Nat} {S : SS} {rr : SS} (ht : sh t = (10, 10)) (hp1 : sh p1 = (6, 4)) (h : fX10_begin t p1 S = some rr) : RD G mX10_begin 3 [vr t, vr p1] S none rr := by
  unfold fX10_begin at h
  refine Runs.of pl_X10 (Nat.le_of_ble_eq_true rfl) ?_
  show At G mX10_begin 3 0 [(0, vr t), (1, vr p1)] [] (mm S) 0 0 (EQ none rr)
  refine At.aloadn dX10_begin_0 rfl <| At.getR fl_X10_33 ht (le149 ht) (rfO_10_0 ht) dX10_begin_1 <| At.aloadn dX10_begin_4 rfl <| At.getI fl_X10_72 hp1 (le149 hp1) dX10_begin_5 <| ?_
  obtain ⟨q1, hq1, h⟩ := bnd_e h
  refine At.cV0 (av := [vi (S p1 3)]) (rest := []) mv_X5_settle lk_X10_77 dX10_begin_8 rfl rfl sh_30 (Nat.le_of_ble_eq_true rfl) (by decide) ⟨rfl, rfl⟩ (rX5_settle hq1) <| At.iconst dX10_begin_11 (by decide) <| At.istoren (ls' := [(2, vi 0), (0, vr t), (1, vr p1)]) dX10_begin_12 (by decide) rfl <| ?_
  obtain ⟨q2, ho3, h⟩ := bnd_e h
  refine At.sub [1, 2, 0] rfl (lX10_begin_L13 ht hp1 FU _ _ q2 ho3 ?_)
  obtain rfl := Option.some.inj h
  exact At.vret rfl (Nat.zero_le _) (Nat.zero_le _) ⟨rfl, rfl⟩ dX10_begin_43
def fJ7_fill_53178_120_L5 (l0 : Nat) (l1 : Int) (l3 : Int) : Nat → Int → SS → Option (SS)
  | 0, _, _ => none
  | n + 1, l2, S =>
    if l3 ≤ l2 then (
      some S
    ) else (
      wrA S l0 120 l2 l1 fun S1 =>
      lt (w32 (l2 + 1)) fun x3 =>
      fJ7_fill_53178_120_L5 l0 l1 l3 n x3 S1
    )
def fJ7_fill_53178_120 (p0 : Nat) (p1 : Int) (S : SS) : Option SS :=
  Option.bind (fJ7_fill_53178_120_L5 p0 p1 120 FU 0 S) fun q1 =>
  some q1
set_option maxRecDepth 100000 in
set_option maxHeartbeats 4000000 in
theorem lJ7_fill_53178_120_L5 {G : GG} {Φ : Option VV → MM → Prop} {l0 : Nat} {l1 : Int} {l3 : Int} (hl0 : sh l0 = (20, 120)) : ∀ (n : Nat) (l2 : Int) (S : SS) (q : SS), fJ7_fill_53178_120_L5 l0 l1 l3 n l2 S = some q → At G mJ7_fill_53178 1 20 [] [] (mm q) 0 0 Φ → At G mJ7_fill_53178 1 5 [(0, vr l0), (1, vi l1), (2, vi l2), (3, vi l3)] [] (mm S) 0 0 Φ := by
  intro n
  induction n with
  | zero =>
    intro _ _ _ h
    cases h
  | succ n ih =>
    intro l2 S q h K20
    unfold fJ7_fill_53178_120_L5 at h
    rcases ite_e h with ⟨c4, h⟩ | ⟨c4, h⟩
    · refine At.iloadn dJ7_fill_53178_5 rfl <| At.iloadn dJ7_fill_53178_6 rfl <| At.icmp_ge_t (tgt := 20) dJ7_fill_53178_7 (by decide) c4 <| ?_
      obtain rfl := Option.some.inj h
      exact At.sub [] rfl K20
    · refine At.iloadn dJ7_fill_53178_5 rfl <| At.iloadn dJ7_fill_53178_6 rfl <| At.icmp_ge_f (tgt := 20) dJ7_fill_53178_7 (by decide) c4 <| ?_
      refine At.aloadn dJ7_fill_53178_10 rfl <| At.iloadn dJ7_fill_53178_11 rfl <| At.iloadn dJ7_fill_53178_12 rfl <| ?_
      obtain ⟨S1, hS1, g2, h⟩ := wrA_e h
      refine At.iast hl0 (le149 hl0) g2.1 g2.2 dJ7_fill_53178_13 <| At.nmS hS1 <| ?_
      obtain ⟨x3, hx3, h⟩ := lt_e h
      refine At.iinc (ls' := [(2, vi x3), (0, vr l0), (1, vi l1), (3, vi l3)]) dJ7_fill_53178_14 rfl (by decide) (by rw [hx3]; rfl) <| At.goto (tgt := 5) dJ7_fill_53178_17 (by decide) <| ?_
      exact At.sub [1, 2, 0, 3] rfl (ih _ _ _ h K20)
set_option maxRecDepth 100000 in
set_option maxHeartbeats 4000000 in
theorem rJ7_fill_53178_120 {G : GG} {p0 : Nat} {p1 : Int} {S : SS} {rr : SS} (hp0 : sh p0 = (20, 120)) (h : fJ7_fill_53178_120 p0 p1 S = some rr) : RD G mJ7_fill_53178 1 [vr p0, vi p1] S none rr := by
  unfold fJ7_fill_53178_120 at h
  refine Runs.of pl_J7 (Nat.le_of_ble_eq_true rfl) ?_
  show At G mJ7_fill_53178 1 0 [(0, vr p0), (1, vi p1)] [] (mm S) 0 0 (EQ none rr)
  refine At.iconst dJ7_fill_53178_0 (by decide) <| At.istoren (ls' := [(2, vi 0), (0, vr p0), (1, vi p1)]) dJ7_fill_53178_1 (by decide) rfl <| At.aloadn dJ7_fill_53178_2 rfl <| At.alenI hp0 (le149 hp0) (by decide) (z := 120) rfl dJ7_fill_53178_3 <| At.istoren (ls' := [(3, vi 120), (2, vi 0), (0, vr p0), (1, vi p1)]) dJ7_fill_53178_4 (by decide) rfl <| ?_
  obtain ⟨q1, ho2, h⟩ := bnd_e h
  refine At.sub [2, 3, 1, 0] rfl (lJ7_fill_53178_120_L5 hp0 FU _ _ q1 ho2 ?_)
  obtain rfl := Option.some.inj h
  exact At.vret rfl (Nat.zero_le _) (Nat.zero_le _) ⟨rfl, rfl⟩ dJ7_fill_53178_20
def fX10_streetsFrom (t : Nat) (p1 : Int) (S : SS) : Option Int :=
  Option.bind (fX11_isSpot p1) fun q1 =>
  if q1 = true then (
    rdA S (t + 5) 6 (w32 (Int.tdiv p1 20)) fun v2 =>
    some v2
  ) else (
    some 0
  )
set_option maxRecDepth 100000 in
set_option maxHeartbeats 4000000 in
theorem rX10_streetsFrom {G : GG} {t : Nat} {p1 : Int} {S : SS} {rr : Int} (ht : sh t = (10, 10)) (h : fX10_streetsFrom t p1 S = some rr) : RD G mX10_streetsFrom 2 [vr t, vi p1] S (some (vi rr)) S := by
  unfold fX10_streetsFrom at h
  refine Runs.of pl_X10 (Nat.le_of_ble_eq_true rfl) ?_
  show At G mX10_streetsFrom 2 0 [(0, vr t), (1, vi p1)] [] (mm S) 0 0 (EQ (some (vi rr)) S)
  refine At.iloadn dX10_streetsFrom_0 rfl <| ?_
  obtain ⟨q1, hq1, h⟩ := bnd_e h
  rcases ite_e h with ⟨c4, h⟩ | ⟨c4, h⟩
  · refine At.cS1 (av := [vi p1]) (rest := []) ms_X11_isSpot lk_X10_54 dX10_streetsFrom_1 rfl rfl (Nat.le_of_ble_eq_true rfl) (by decide) ⟨rfl, rfl⟩ (rX11_isSpot hq1) <| At.bifeq_f (tgt := 19) dX10_streetsFrom_4 (by decide) c4 <| ?_
    refine At.aloadn dX10_streetsFrom_7 rfl <| At.getR fl_X10_24 ht (le149 ht) (rfO_10_5 ht) dX10_streetsFrom_8 <| At.iloadn dX10_streetsFrom_11 rfl <| At.bipush dX10_streetsFrom_12 (by decide) <| At.idiv dX10_streetsFrom_14 (by decide) <| ?_
    obtain ⟨v2, hv2, g3, h⟩ := rdA_e h
    refine At.iald (shO_10_5 ht) (le149 (shO_10_5 ht)) g3.1 g3.2 dX10_streetsFrom_15 <| At.nm hv2 <| At.goto (tgt := 20) dX10_streetsFrom_16 (by decide) <| ?_
    obtain rfl := Option.some.inj h
    exact At.iret rfl (Nat.zero_le _) (Nat.zero_le _) ⟨rfl, rfl⟩ dX10_streetsFrom_20
  · refine At.cS1 (av := [vi p1]) (rest := []) ms_X11_isSpot lk_X10_54 dX10_streetsFrom_1 rfl rfl (Nat.le_of_ble_eq_true rfl) (by decide) ⟨rfl, rfl⟩ (rX11_isSpot hq1) <| At.bifeq_t (tgt := 19) dX10_streetsFrom_4 (by decide) c4 <| ?_
    refine At.iconst dX10_streetsFrom_19 (by decide) <| ?_
    obtain rfl := Option.some.inj h
    exact At.iret rfl (Nat.zero_le _) (Nat.zero_le _) ⟨rfl, rfl⟩ dX10_streetsFrom_20
def fX10_comeTo (t : Nat) (p1 : Int) (p2 : Int) (p3 : Int) (S : SS) : Option SS :=
  Option.bind (fX11_isSpot p1) fun q1 =>
  if q1 = true then (
    Option.bind (fX11_isSpot p2) fun q2 =>
    if q2 = true then (
      rdA S (t + 1) 120 0 fun v3 =>
      Option.bind (
        if p1 = v3 then (
          if (S t 9) = ((-1)) then (
            rdA S (t + 2) 120 p2 fun v6 =>
            lt (up S t 9 (w32 (v6 + 1))) fun S8 =>
            some S8
          ) else (
            some S
          )
        ) else (
          some S
        )
        : Option (SS)) fun q5 =>
      rdA q5 (t + 2) 120 p1 fun v11 =>
      if v11 = ((-1)) then (
        if 120 ≤ (q5 t 8) then (
          some q5
        ) else (
          rdA q5 (t + 2) 120 p2 fun v13 =>
          wrA q5 (t + 2) 120 p1 (w32 (v13 + 1)) fun S15 =>
          wrA S15 (t + 3) 120 p1 p2 fun S17 =>
          wrA S17 (t + 4) 120 p1 p3 fun S19 =>
          wrA S19 (t + 1) 120 (S19 t 8) p1 fun S21 =>
          lt (up S21 t 8 (w32 ((S21 t 8) + 1))) fun S23 =>
          some S23
        )
      ) else (
        some q5
      )
    ) else (
      some S
    )
  ) else (
    some S
  )
set_option maxRecDepth 100000 in
set_option maxHeartbeats 4000000 in
theorem rX10_comeTo {G : GG} {t : Nat} {p1 : Int} {p2 : Int} {p3 : Int} {S : SS} {rr : SS} (ht : sh t = (10, 10)) (h : fX10_comeTo t p1 p2 p3 S = some rr) : RD G mX10_comeTo 2 [vr t, vi p1, vi p2, vi p3] S none rr := by
  unfold fX10_comeTo at h
  refine Runs.of pl_X10 (Nat.le_of_ble_eq_true rfl) ?_
  show At G mX10_comeTo 2 0 [(0, vr t), (1, vi p1), (2, vi p2), (3, vi p3)] [] (mm S) 0 0 (EQ none rr)
  refine At.iloadn dX10_comeTo_0 rfl <| ?_
  obtain ⟨q1, hq1, h⟩ := bnd_e h
  rcases ite_e h with ⟨c27, h⟩ | ⟨c27, h⟩
  · refine At.cS1 (av := [vi p1]) (rest := []) ms_X11_isSpot lk_X10_54 dX10_comeTo_1 rfl rfl (Nat.le_of_ble_eq_true rfl) (by decide) ⟨rfl, rfl⟩ (rX11_isSpot hq1) <| At.bifeq_f (tgt := 14) dX10_comeTo_4 (by decide) c27 <| ?_
    refine At.iloadn dX10_comeTo_7 rfl <| ?_
    obtain ⟨q2, hq2, h⟩ := bnd_e h
    rcases ite_e h with ⟨c26, h⟩ | ⟨c26, h⟩
    · refine At.cS1 (av := [vi p2]) (rest := []) ms_X11_isSpot lk_X10_54 dX10_comeTo_8 rfl rfl (Nat.le_of_ble_eq_true rfl) (by decide) ⟨rfl, rfl⟩ (rX11_isSpot hq2) <| At.bifne_t (tgt := 15) dX10_comeTo_11 (by decide) c26 <| ?_
      refine At.iloadn dX10_comeTo_15 rfl <| At.aloadn dX10_comeTo_16 rfl <| At.getR fl_X10_9 ht (le149 ht) (rfO_10_1 ht) dX10_comeTo_17 <| At.iconst dX10_comeTo_20 (by decide) <| ?_
      obtain ⟨v3, hv3, g4, h⟩ := rdA_e h
      obtain ⟨q5, hj45, h⟩ := bnd_e h
      have K45 : At G mX10_comeTo 2 45 [(0, vr t), (1, vi p1), (2, vi p2), (3, vi p3)] [] (mm q5) 0 0 (EQ none rr) := by
        refine At.aloadn dX10_comeTo_45 rfl <| At.getR fl_X10_15 ht (le149 ht) (rfO_10_2 ht) dX10_comeTo_46 <| At.iloadn dX10_comeTo_49 rfl <| ?_
        obtain ⟨v11, hv11, g12, h⟩ := rdA_e h
        rcases ite_e h with ⟨c25, h⟩ | ⟨c25, h⟩
        · refine At.iald (shO_10_2 ht) (le149 (shO_10_2 ht)) g12.1 g12.2 dX10_comeTo_50 <| At.nm hv11 <| At.iconst dX10_comeTo_51 (by decide) <| At.icmp_ne_f (tgt := 112) dX10_comeTo_52 (by decide) c25 <| ?_
          rcases ite_e h with ⟨c24, h⟩ | ⟨c24, h⟩
          · refine At.aloadn dX10_comeTo_55 rfl <| At.getI fl_X10_47 ht (le149 ht) dX10_comeTo_56 <| At.bipush dX10_comeTo_59 (by decide) <| At.icmp_ge_t (tgt := 112) dX10_comeTo_61 (by decide) c24 <| ?_
            obtain rfl := Option.some.inj h
            exact At.vret rfl (Nat.zero_le _) (Nat.zero_le _) ⟨rfl, rfl⟩ dX10_comeTo_112
          · refine At.aloadn dX10_comeTo_55 rfl <| At.getI fl_X10_47 ht (le149 ht) dX10_comeTo_56 <| At.bipush dX10_comeTo_59 (by decide) <| At.icmp_ge_f (tgt := 112) dX10_comeTo_61 (by decide) c24 <| ?_
            refine At.aloadn dX10_comeTo_64 rfl <| At.getR fl_X10_15 ht (le149 ht) (rfO_10_2 ht) dX10_comeTo_65 <| At.iloadn dX10_comeTo_68 rfl <| At.aloadn dX10_comeTo_69 rfl <| At.getR fl_X10_15 ht (le149 ht) (rfO_10_2 ht) dX10_comeTo_70 <| At.iloadn dX10_comeTo_73 rfl <| ?_
            obtain ⟨v13, hv13, g14, h⟩ := rdA_e h
            refine At.iald (shO_10_2 ht) (le149 (shO_10_2 ht)) g14.1 g14.2 dX10_comeTo_74 <| At.nm hv13 <| At.iconst dX10_comeTo_75 (by decide) <| At.iadd dX10_comeTo_76 <| ?_
            obtain ⟨S15, hS15, g16, h⟩ := wrA_e h
            refine At.iast (shO_10_2 ht) (le149 (shO_10_2 ht)) g16.1 g16.2 dX10_comeTo_77 <| At.nmS hS15 <| At.aloadn dX10_comeTo_78 rfl <| At.getR fl_X10_18 ht (le149 ht) (rfO_10_3 ht) dX10_comeTo_79 <| At.iloadn dX10_comeTo_82 rfl <| At.iloadn dX10_comeTo_83 rfl <| ?_
            obtain ⟨S17, hS17, g18, h⟩ := wrA_e h
            refine At.iast (shO_10_3 ht) (le149 (shO_10_3 ht)) g18.1 g18.2 dX10_comeTo_84 <| At.nmS hS17 <| At.aloadn dX10_comeTo_85 rfl <| At.getR fl_X10_21 ht (le149 ht) (rfO_10_4 ht) dX10_comeTo_86 <| At.iloadn dX10_comeTo_89 rfl <| At.iloadn dX10_comeTo_90 rfl <| ?_
            obtain ⟨S19, hS19, g20, h⟩ := wrA_e h
            refine At.iast (shO_10_4 ht) (le149 (shO_10_4 ht)) g20.1 g20.2 dX10_comeTo_91 <| At.nmS hS19 <| At.aloadn dX10_comeTo_92 rfl <| At.getR fl_X10_9 ht (le149 ht) (rfO_10_1 ht) dX10_comeTo_93 <| At.aloadn dX10_comeTo_96 rfl <| At.getI fl_X10_47 ht (le149 ht) dX10_comeTo_97 <| At.iloadn dX10_comeTo_100 rfl <| ?_
            obtain ⟨S21, hS21, g22, h⟩ := wrA_e h
            refine At.iast (shO_10_1 ht) (le149 (shO_10_1 ht)) g22.1 g22.2 dX10_comeTo_101 <| At.nmS hS21 <| At.aloadn dX10_comeTo_102 rfl <| At.dup rfl dX10_comeTo_103 <| At.getI fl_X10_47 ht (le149 ht) dX10_comeTo_104 <| At.iconst dX10_comeTo_107 (by decide) <| At.iadd dX10_comeTo_108 <| ?_
            obtain ⟨S23, hS23, h⟩ := lt_e h
            refine At.putI fw_X10_47 ht (le149 ht) dX10_comeTo_109 <| At.nmS hS23 <| ?_
            obtain rfl := Option.some.inj h
            exact At.vret rfl (Nat.zero_le _) (Nat.zero_le _) ⟨rfl, rfl⟩ dX10_comeTo_112
        · refine At.iald (shO_10_2 ht) (le149 (shO_10_2 ht)) g12.1 g12.2 dX10_comeTo_50 <| At.nm hv11 <| At.iconst dX10_comeTo_51 (by decide) <| At.icmp_ne_t (tgt := 112) dX10_comeTo_52 (by decide) c25 <| ?_
          obtain rfl := Option.some.inj h
          exact At.vret rfl (Nat.zero_le _) (Nat.zero_le _) ⟨rfl, rfl⟩ dX10_comeTo_112
      clear h; have h := hj45; clear hj45
      rcases ite_e h with ⟨c10, h⟩ | ⟨c10, h⟩
      · refine At.iald (shO_10_1 ht) (le149 (shO_10_1 ht)) g4.1 g4.2 dX10_comeTo_21 <| At.nm hv3 <| At.icmp_ne_f (tgt := 45) dX10_comeTo_22 (by decide) c10 <| ?_
        rcases ite_e h with ⟨c9, h⟩ | ⟨c9, h⟩
        · refine At.aloadn dX10_comeTo_25 rfl <| At.getI fl_X10_51 ht (le149 ht) dX10_comeTo_26 <| At.iconst dX10_comeTo_29 (by decide) <| At.icmp_ne_f (tgt := 45) dX10_comeTo_30 (by decide) c9 <| ?_
          refine At.aloadn dX10_comeTo_33 rfl <| At.aloadn dX10_comeTo_34 rfl <| At.getR fl_X10_15 ht (le149 ht) (rfO_10_2 ht) dX10_comeTo_35 <| At.iloadn dX10_comeTo_38 rfl <| ?_
          obtain ⟨v6, hv6, g7, h⟩ := rdA_e h
          refine At.iald (shO_10_2 ht) (le149 (shO_10_2 ht)) g7.1 g7.2 dX10_comeTo_39 <| At.nm hv6 <| At.iconst dX10_comeTo_40 (by decide) <| At.iadd dX10_comeTo_41 <| ?_
          obtain ⟨S8, hS8, h⟩ := lt_e h
          refine At.putI fw_X10_51 ht (le149 ht) dX10_comeTo_42 <| At.nmS hS8 <| ?_
          obtain rfl := Option.some.inj h
          exact At.sub [0, 1, 2, 3] rfl K45
        · refine At.aloadn dX10_comeTo_25 rfl <| At.getI fl_X10_51 ht (le149 ht) dX10_comeTo_26 <| At.iconst dX10_comeTo_29 (by decide) <| At.icmp_ne_t (tgt := 45) dX10_comeTo_30 (by decide) c9 <| ?_
          obtain rfl := Option.some.inj h
          exact At.sub [0, 1, 2, 3] rfl K45
      · refine At.iald (shO_10_1 ht) (le149 (shO_10_1 ht)) g4.1 g4.2 dX10_comeTo_21 <| At.nm hv3 <| At.icmp_ne_t (tgt := 45) dX10_comeTo_22 (by decide) c10 <| ?_
        obtain rfl := Option.some.inj h
        exact At.sub [0, 1, 2, 3] rfl K45
    · refine At.cS1 (av := [vi p2]) (rest := []) ms_X11_isSpot lk_X10_54 dX10_comeTo_8 rfl rfl (Nat.le_of_ble_eq_true rfl) (by decide) ⟨rfl, rfl⟩ (rX11_isSpot hq2) <| At.bifne_f (tgt := 15) dX10_comeTo_11 (by decide) c26 <| ?_
      obtain rfl := Option.some.inj h
      exact At.vret rfl (Nat.zero_le _) (Nat.zero_le _) ⟨rfl, rfl⟩ dX10_comeTo_14
  · refine At.cS1 (av := [vi p1]) (rest := []) ms_X11_isSpot lk_X10_54 dX10_comeTo_1 rfl rfl (Nat.le_of_ble_eq_true rfl) (by decide) ⟨rfl, rfl⟩ (rX11_isSpot hq1) <| At.bifeq_t (tgt := 14) dX10_comeTo_4 (by decide) c27 <| ?_
    obtain rfl := Option.some.inj h
    exact At.vret rfl (Nat.zero_le _) (Nat.zero_le _) ⟨rfl, rfl⟩ dX10_comeTo_14
def fX10_spread_L89 (l0 : Nat) (l1 : Int) (l3 : Nat) (l4 : Int) (l5 : Int) (l6 : Int) : Nat → Int → SS → Option (SS)
  | 0, _, _ => none
  | n + 1, l7, S =>
    if 8 ≤ l7 then (
      some S
    ) else (
      Option.bind (
        if (jand (jshr l6 l7) 1) = 1 then (
          Option.bind (fX5_after l1 l7 l5 l3 S) fun q2 =>
          Option.bind (fX10_comeTo l0 q2.1 l5 l7 q2.2) fun q3 =>
          some q3
        ) else (
          some S
        )
        : Option (SS)) fun q1 =>
      lt (w32 (l7 + 1)) fun x5 =>
      fX10_spread_L89 l0 l1 l3 l4 l5 l6 n x5 q1
    )
def fX10_spread_L53 (l0 : Nat) (l1 : Int) (l3 : Nat) : Nat → Int → SS → Option (SS)
  | 0, _, _ => none
  | n + 1, l4, S =>
    if (S l0 8) ≤ l4 then (
      some S
    ) else (
      if 120 ≤ l4 then (
        some S
      ) else (
        rdA S (l0 + 1) 120 l4 fun v1 =>
        Option.bind (fX10_streetsFrom l0 v1 S) fun q3 =>
        Option.bind (fX10_spread_L89 l0 l1 l3 l4 v1 q3 FU 0 S) fun q4 =>
        lt (w32 (l4 + 1)) fun x6 =>
        fX10_spread_L53 l0 l1 l3 n x6 q4
      )
    )
def fX10_spread (t : Nat) (p1 : Int) (p2 : Int) (p3 : Nat) (S : SS) : Option SS :=
  Option.bind (fX10_begin t p3 S) fun q1 =>
  Option.bind (fJ7_fill_53178_120 (t + 2) ((-1)) q1) fun q2 =>
  lt (up q2 t 8 0) fun S3 =>
  lt (up S3 t 9 ((-1))) fun S4 =>
  Option.bind (fX11_isSpot p2) fun q5 =>
  if q5 = true then (
    wrA S4 (t + 2) 120 p2 0 fun S6 =>
    wrA S6 (t + 1) 120 0 p2 fun S8 =>
    lt (up S8 t 8 1) fun S10 =>
    Option.bind (fX10_spread_L53 t p1 p3 FU 0 S10) fun q11 =>
    some q11
  ) else (
    some S4
  )
set_option maxRecDepth 100000 in
set_option maxHeartbeats 4000000 in
theorem lX10_spread_L89 {G : GG} {Φ : Option VV → MM → Prop} {l0 : Nat} {l1 : Int} {l3 : Nat} {l4 : Int} {l5 : Int} {l6 : Int} (hl0 : sh l0 = (10, 10)) (hl3 : sh l3 = (6, 4)) : ∀ (n : Nat) (l7 : Int) (S : SS) (q : SS), fX10_spread_L89 l0 l1 l3 l4 l5 l6 n l7 S = some q → At G mX10_spread 5 134 [(0, vr l0), (1, vi l1), (3, vr l3), (4, vi l4)] [] (mm q) 0 0 Φ → At G mX10_spread 5 89 [(0, vr l0), (1, vi l1), (3, vr l3), (4, vi l4), (5, vi l5), (6, vi l6), (7, vi l7)] [] (mm S) 0 0 Φ := by
  intro n
  induction n with
  | zero =>
    intro _ _ _ h
    cases h
  | succ n ih =>
    intro l7 S q h K134
    unfold fX10_spread_L89 at h
    rcases ite_e h with ⟨c6, h⟩ | ⟨c6, h⟩
    · refine At.iload dX10_spread_89 rfl <| At.bipush dX10_spread_91 (by decide) <| At.icmp_ge_t (tgt := 134) dX10_spread_93 (by decide) c6 <| ?_
      obtain rfl := Option.some.inj h
      exact At.sub [0, 1, 2, 3] rfl K134
    · refine At.iload dX10_spread_89 rfl <| At.bipush dX10_spread_91 (by decide) <| At.icmp_ge_f (tgt := 134) dX10_spread_93 (by decide) c6 <| ?_
      obtain ⟨q1, hj128, h⟩ := bnd_e h
      have K128 : At G mX10_spread 5 128 [(0, vr l0), (1, vi l1), (3, vr l3), (4, vi l4), (5, vi l5), (6, vi l6), (7, vi l7)] [] (mm q1) 0 0 Φ := by
        obtain ⟨x5, hx5, h⟩ := lt_e h
        refine At.iinc (ls' := [(7, vi x5), (0, vr l0), (1, vi l1), (3, vr l3), (4, vi l4), (5, vi l5), (6, vi l6)]) dX10_spread_128 rfl (by decide) (by rw [hx5]; rfl) <| At.goto (tgt := 89) dX10_spread_131 (by decide) <| ?_
        exact At.sub [1, 2, 3, 4, 5, 6, 0] rfl (ih _ _ _ h K134)
      clear h; have h := hj128; clear hj128
      rcases ite_e h with ⟨c4, h⟩ | ⟨c4, h⟩
      · refine At.iload dX10_spread_96 rfl <| At.iload dX10_spread_98 rfl <| At.ishr dX10_spread_100 <| At.iconst dX10_spread_101 (by decide) <| At.iand dX10_spread_102 <| At.iconst dX10_spread_103 (by decide) <| At.icmp_ne_f (tgt := 128) dX10_spread_104 (by decide) c4 <| ?_
        refine At.aloadn dX10_spread_107 rfl <| At.aloadn dX10_spread_108 rfl <| At.getR fl_X10_33 hl0 (le149 hl0) (rfO_10_0 hl0) dX10_spread_109 <| At.iloadn dX10_spread_112 rfl <| At.iload dX10_spread_113 rfl <| At.iload dX10_spread_115 rfl <| At.aloadn dX10_spread_117 rfl <| ?_
        obtain ⟨q2, hq2, h⟩ := bnd_e h
        refine At.cV1 (av := [vi l1, vi l7, vi l5, vr l3]) (rest := [vr l0]) mv_X5_after lk_X10_62 dX10_spread_118 rfl rfl sh_30 (Nat.le_of_ble_eq_true rfl) (by decide) ⟨rfl, rfl⟩ (rX5_after hl3 hq2) <| At.iload dX10_spread_121 rfl <| At.iload dX10_spread_123 rfl <| ?_
        obtain ⟨q3, hq3, h⟩ := bnd_e h
        refine At.cV0 (av := [vi q2.1, vi l5, vi l7]) (rest := []) mv_X10_comeTo lk_X10_68 dX10_spread_125 rfl rfl hl0 (Nat.le_of_ble_eq_true rfl) (by decide) ⟨rfl, rfl⟩ (rX10_comeTo hl0 hq3) <| ?_
        obtain rfl := Option.some.inj h
        exact At.sub [0, 1, 2, 3, 4, 5, 6] rfl K128
      · refine At.iload dX10_spread_96 rfl <| At.iload dX10_spread_98 rfl <| At.ishr dX10_spread_100 <| At.iconst dX10_spread_101 (by decide) <| At.iand dX10_spread_102 <| At.iconst dX10_spread_103 (by decide) <| At.icmp_ne_t (tgt := 128) dX10_spread_104 (by decide) c4 <| ?_
        obtain rfl := Option.some.inj h
        exact At.sub [0, 1, 2, 3, 4, 5, 6] rfl K128
set_option maxRecDepth 100000 in
set_option maxHeartbeats 4000000 in
theorem lX10_spread_L53 {G : GG} {Φ : Option VV → MM → Prop} {l0 : Nat} {l1 : Int} {l3 : Nat} (hl0 : sh l0 = (10, 10)) (hl3 : sh l3 = (6, 4)) : ∀ (n : Nat) (l4 : Int) (S : SS) (q : SS), fX10_spread_L53 l0 l1 l3 n l4 S = some q → At G mX10_spread 5 140 [] [] (mm q) 0 0 Φ → At G mX10_spread 5 53 [(0, vr l0), (1, vi l1), (3, vr l3), (4, vi l4)] [] (mm S) 0 0 Φ := by
  intro n
  induction n with
  | zero =>
    intro _ _ _ h
    cases h
  | succ n ih =>
    intro l4 S q h K140
    unfold fX10_spread_L53 at h
    rcases ite_e h with ⟨c8, h⟩ | ⟨c8, h⟩
    · refine At.iload dX10_spread_53 rfl <| At.aloadn dX10_spread_55 rfl <| At.getI fl_X10_47 hl0 (le149 hl0) dX10_spread_56 <| At.icmp_ge_t (tgt := 140) dX10_spread_59 (by decide) c8 <| ?_
      obtain rfl := Option.some.inj h
      exact At.sub [] rfl K140
    · refine At.iload dX10_spread_53 rfl <| At.aloadn dX10_spread_55 rfl <| At.getI fl_X10_47 hl0 (le149 hl0) dX10_spread_56 <| At.icmp_ge_f (tgt := 140) dX10_spread_59 (by decide) c8 <| ?_
      rcases ite_e h with ⟨c7, h⟩ | ⟨c7, h⟩
      · refine At.iload dX10_spread_62 rfl <| At.bipush dX10_spread_64 (by decide) <| At.icmp_ge_t (tgt := 140) dX10_spread_66 (by decide) c7 <| ?_
        obtain rfl := Option.some.inj h
        exact At.sub [] rfl K140
      · refine At.iload dX10_spread_62 rfl <| At.bipush dX10_spread_64 (by decide) <| At.icmp_ge_f (tgt := 140) dX10_spread_66 (by decide) c7 <| ?_
        refine At.aloadn dX10_spread_69 rfl <| At.getR fl_X10_9 hl0 (le149 hl0) (rfO_10_1 hl0) dX10_spread_70 <| At.iload dX10_spread_73 rfl <| ?_
        obtain ⟨v1, hv1, g2, h⟩ := rdA_e h
        refine At.iald (shO_10_1 hl0) (le149 (shO_10_1 hl0)) g2.1 g2.2 dX10_spread_75 <| At.nm hv1 <| At.istore (ls' := [(5, vi v1), (0, vr l0), (1, vi l1), (3, vr l3), (4, vi l4)]) dX10_spread_76 (by decide) rfl <| At.aloadn dX10_spread_78 rfl <| At.iload dX10_spread_79 rfl <| ?_
        obtain ⟨q3, hq3, h⟩ := bnd_e h
        refine At.cV1 (av := [vi v1]) (rest := []) mv_X10_streetsFrom lk_X10_58 dX10_spread_81 rfl rfl hl0 (Nat.le_of_ble_eq_true rfl) (by decide) ⟨rfl, rfl⟩ (rX10_streetsFrom hl0 hq3) <| At.istore (ls' := [(6, vi q3), (5, vi v1), (0, vr l0), (1, vi l1), (3, vr l3), (4, vi l4)]) dX10_spread_84 (by decide) rfl <| At.iconst dX10_spread_86 (by decide) <| At.istore (ls' := [(7, vi 0), (6, vi q3), (5, vi v1), (0, vr l0), (1, vi l1), (3, vr l3), (4, vi l4)]) dX10_spread_87 (by decide) rfl <| ?_
        obtain ⟨q4, ho5, h⟩ := bnd_e h
        refine At.sub [3, 4, 5, 6, 2, 1, 0] rfl (lX10_spread_L89 hl0 hl3 FU _ _ q4 ho5 ?_)
        obtain ⟨x6, hx6, h⟩ := lt_e h
        refine At.iinc (ls' := [(4, vi x6), (0, vr l0), (1, vi l1), (3, vr l3)]) dX10_spread_134 rfl (by decide) (by rw [hx6]; rfl) <| At.goto (tgt := 53) dX10_spread_137 (by decide) <| ?_
        exact At.sub [1, 2, 3, 0] rfl (ih _ _ _ h K140)
set_option maxRecDepth 100000 in
set_option maxHeartbeats 4000000 in
theorem rX10_spread {G : GG} {t : Nat} {p1 : Int} {p2 : Int} {p3 : Nat} {S : SS} {rr : SS} (ht : sh t = (10, 10)) (hp3 : sh p3 = (6, 4)) (h : fX10_spread t p1 p2 p3 S = some rr) : RD G mX10_spread 5 [vr t, vi p1, vi p2, vr p3] S none rr := by
  unfold fX10_spread at h
  refine Runs.of pl_X10 (Nat.le_of_ble_eq_true rfl) ?_
  show At G mX10_spread 5 0 [(0, vr t), (1, vi p1), (2, vi p2), (3, vr p3)] [] (mm S) 0 0 (EQ none rr)
  refine At.aloadn dX10_spread_0 rfl <| At.aloadn dX10_spread_1 rfl <| ?_
  obtain ⟨q1, hq1, h⟩ := bnd_e h
  refine At.cV0 (av := [vr p3]) (rest := []) mv_X10_begin lk_X10_37 dX10_spread_2 rfl rfl ht (Nat.le_of_ble_eq_true rfl) (by decide) ⟨rfl, rfl⟩ (rX10_begin ht hp3 hq1) <| At.aloadn dX10_spread_5 rfl <| At.getR fl_X10_15 ht (le149 ht) (rfO_10_2 ht) dX10_spread_6 <| At.iconst dX10_spread_9 (by decide) <| ?_
  obtain ⟨q2, hq2, h⟩ := bnd_e h
  refine At.cS0 (av := [vr (t + 2), vi ((-1))]) (rest := []) ms_J7_fill_53178 lk_X10_41 dX10_spread_10 rfl rfl (Nat.le_of_ble_eq_true rfl) (by decide) ⟨rfl, rfl⟩ (rJ7_fill_53178_120 (shO_10_2 ht) hq2) <| At.aloadn dX10_spread_13 rfl <| At.iconst dX10_spread_14 (by decide) <| ?_
  obtain ⟨S3, hS3, h⟩ := lt_e h
  refine At.putI fw_X10_47 ht (le149 ht) dX10_spread_15 <| At.nmS hS3 <| At.aloadn dX10_spread_18 rfl <| At.iconst dX10_spread_19 (by decide) <| ?_
  obtain ⟨S4, hS4, h⟩ := lt_e h
  refine At.putI fw_X10_51 ht (le149 ht) dX10_spread_20 <| At.nmS hS4 <| At.iloadn dX10_spread_23 rfl <| ?_
  obtain ⟨q5, hq5, h⟩ := bnd_e h
  rcases ite_e h with ⟨c13, h⟩ | ⟨c13, h⟩
  · refine At.cS1 (av := [vi p2]) (rest := []) ms_X11_isSpot lk_X10_54 dX10_spread_24 rfl rfl (Nat.le_of_ble_eq_true rfl) (by decide) ⟨rfl, rfl⟩ (rX11_isSpot hq5) <| At.bifne_t (tgt := 31) dX10_spread_27 (by decide) c13 <| ?_
    refine At.aloadn dX10_spread_31 rfl <| At.getR fl_X10_15 ht (le149 ht) (rfO_10_2 ht) dX10_spread_32 <| At.iloadn dX10_spread_35 rfl <| At.iconst dX10_spread_36 (by decide) <| ?_
    obtain ⟨S6, hS6, g7, h⟩ := wrA_e h
    refine At.iast (shO_10_2 ht) (le149 (shO_10_2 ht)) g7.1 g7.2 dX10_spread_37 <| At.nmS hS6 <| At.aloadn dX10_spread_38 rfl <| At.getR fl_X10_9 ht (le149 ht) (rfO_10_1 ht) dX10_spread_39 <| At.iconst dX10_spread_42 (by decide) <| At.iloadn dX10_spread_43 rfl <| ?_
    obtain ⟨S8, hS8, g9, h⟩ := wrA_e h
    refine At.iast (shO_10_1 ht) (le149 (shO_10_1 ht)) g9.1 g9.2 dX10_spread_44 <| At.nmS hS8 <| At.aloadn dX10_spread_45 rfl <| At.iconst dX10_spread_46 (by decide) <| ?_
    obtain ⟨S10, hS10, h⟩ := lt_e h
    refine At.putI fw_X10_47 ht (le149 ht) dX10_spread_47 <| At.nmS hS10 <| At.iconst dX10_spread_50 (by decide) <| At.istore (ls' := [(4, vi 0), (0, vr t), (1, vi p1), (2, vi p2), (3, vr p3)]) dX10_spread_51 (by decide) rfl <| ?_
    obtain ⟨q11, ho12, h⟩ := bnd_e h
    refine At.sub [1, 2, 4, 0] rfl (lX10_spread_L53 ht hp3 FU _ _ q11 ho12 ?_)
    obtain rfl := Option.some.inj h
    exact At.vret rfl (Nat.zero_le _) (Nat.zero_le _) ⟨rfl, rfl⟩ dX10_spread_140
  · refine At.cS1 (av := [vi p2]) (rest := []) ms_X11_isSpot lk_X10_54 dX10_spread_24 rfl rfl (Nat.le_of_ble_eq_true rfl) (by decide) ⟨rfl, rfl⟩ (rX11_isSpot hq5) <| At.bifne_f (tgt := 31) dX10_spread_27 (by decide) c13 <| ?_
    obtain rfl := Option.some.inj h
    exact At.vret rfl (Nat.zero_le _) (Nat.zero_le _) ⟨rfl, rfl⟩ dX10_spread_30
def fX10_firstAt_L2 (l0 : Nat) (l1 : Int) (l2 : Int) (S : SS) : Nat → Int → Option (Nat × Int)
  | 0, _ => none
  | n + 1, l3 =>
    if (S l0 8) ≤ l3 then (
      some (1, 0)
    ) else (
      if 120 ≤ l3 then (
        some (1, 0)
      ) else (
        rdA S (l0 + 1) 120 l3 fun v1 =>
        if (w32 (Int.tdiv v1 20)) = l1 then (
          if l2 = ((-1)) then (
            some (0, v1)
          ) else (
            if (Int.tmod v1 20) = l2 then (
              some (0, v1)
            ) else (
              lt (w32 (l3 + 1)) fun x3 =>
              fX10_firstAt_L2 l0 l1 l2 S n x3
            )
          )
        ) else (
          lt (w32 (l3 + 1)) fun x6 =>
          fX10_firstAt_L2 l0 l1 l2 S n x6
        )
      )
    )
def fX10_firstAt (t : Nat) (p1 : Int) (p2 : Int) (S : SS) : Option Int :=
  Option.bind (fX10_firstAt_L2 t p1 p2 S FU 0) fun q1 =>
  if q1.1 = 0 then (
    some q1.2
  ) else (
    some ((-1))
  )
set_option maxRecDepth 100000 in
set_option maxHeartbeats 4000000 in
theorem lX10_firstAt_L2 {G : GG} {Φ : Option VV → MM → Prop} {l0 : Nat} {l1 : Int} {l2 : Int} {S : SS} (hl0 : sh l0 = (10, 10)) : ∀ (n : Nat) (l3 : Int) (q : Nat × Int), fX10_firstAt_L2 l0 l1 l2 S n l3 = some q → (q.1 = 0 → At G mX10_firstAt 1 47 [(4, vi q.2)] [] (mm S) 0 0 Φ) → (q.1 = 1 → At G mX10_firstAt 1 56 [] [] (mm S) 0 0 Φ) → At G mX10_firstAt 1 2 [(0, vr l0), (1, vi l1), (2, vi l2), (3, vi l3)] [] (mm S) 0 0 Φ := by
  intro n
  induction n with
  | zero =>
    intro _ _ h
    cases h
  | succ n ih =>
    intro l3 q h K47 K56
    unfold fX10_firstAt_L2 at h
    rcases ite_e h with ⟨c9, h⟩ | ⟨c9, h⟩
    · refine At.iloadn dX10_firstAt_2 rfl <| At.aloadn dX10_firstAt_3 rfl <| At.getI fl_X10_47 hl0 (le149 hl0) dX10_firstAt_4 <| At.icmp_ge_t (tgt := 56) dX10_firstAt_7 (by decide) c9 <| ?_
      obtain rfl := Option.some.inj h
      exact At.sub [] rfl (K56 rfl)
    · refine At.iloadn dX10_firstAt_2 rfl <| At.aloadn dX10_firstAt_3 rfl <| At.getI fl_X10_47 hl0 (le149 hl0) dX10_firstAt_4 <| At.icmp_ge_f (tgt := 56) dX10_firstAt_7 (by decide) c9 <| ?_
      rcases ite_e h with ⟨c8, h⟩ | ⟨c8, h⟩
      · refine At.iloadn dX10_firstAt_10 rfl <| At.bipush dX10_firstAt_11 (by decide) <| At.icmp_ge_t (tgt := 56) dX10_firstAt_13 (by decide) c8 <| ?_
        obtain rfl := Option.some.inj h
        exact At.sub [] rfl (K56 rfl)
      · refine At.iloadn dX10_firstAt_10 rfl <| At.bipush dX10_firstAt_11 (by decide) <| At.icmp_ge_f (tgt := 56) dX10_firstAt_13 (by decide) c8 <| ?_
        refine At.aloadn dX10_firstAt_16 rfl <| At.getR fl_X10_9 hl0 (le149 hl0) (rfO_10_1 hl0) dX10_firstAt_17 <| At.iloadn dX10_firstAt_20 rfl <| ?_
        obtain ⟨v1, hv1, g2, h⟩ := rdA_e h
        rcases ite_e h with ⟨c7, h⟩ | ⟨c7, h⟩
        · refine At.iald (shO_10_1 hl0) (le149 (shO_10_1 hl0)) g2.1 g2.2 dX10_firstAt_21 <| At.nm hv1 <| At.istore (ls' := [(4, vi v1), (0, vr l0), (1, vi l1), (2, vi l2), (3, vi l3)]) dX10_firstAt_22 (by decide) rfl <| At.iload dX10_firstAt_24 rfl <| At.bipush dX10_firstAt_26 (by decide) <| At.idiv dX10_firstAt_28 (by decide) <| At.iloadn dX10_firstAt_29 rfl <| At.icmp_ne_f (tgt := 50) dX10_firstAt_30 (by decide) c7 <| ?_
          rcases ite_e h with ⟨c5, h⟩ | ⟨c5, h⟩
          · refine At.iloadn dX10_firstAt_33 rfl <| At.iconst dX10_firstAt_34 (by decide) <| At.icmp_eq_t (tgt := 47) dX10_firstAt_35 (by decide) c5 <| ?_
            obtain rfl := Option.some.inj h
            exact At.sub [0] rfl (K47 rfl)
          · refine At.iloadn dX10_firstAt_33 rfl <| At.iconst dX10_firstAt_34 (by decide) <| At.icmp_eq_f (tgt := 47) dX10_firstAt_35 (by decide) c5 <| ?_
            rcases ite_e h with ⟨c4, h⟩ | ⟨c4, h⟩
            · refine At.iload dX10_firstAt_38 rfl <| At.bipush dX10_firstAt_40 (by decide) <| At.irem dX10_firstAt_42 (by decide) <| At.iloadn dX10_firstAt_43 rfl <| At.icmp_ne_f (tgt := 50) dX10_firstAt_44 (by decide) c4 <| ?_
              obtain rfl := Option.some.inj h
              exact At.sub [0] rfl (K47 rfl)
            · refine At.iload dX10_firstAt_38 rfl <| At.bipush dX10_firstAt_40 (by decide) <| At.irem dX10_firstAt_42 (by decide) <| At.iloadn dX10_firstAt_43 rfl <| At.icmp_ne_t (tgt := 50) dX10_firstAt_44 (by decide) c4 <| ?_
              obtain ⟨x3, hx3, h⟩ := lt_e h
              refine At.iinc (ls' := [(3, vi x3), (4, vi v1), (0, vr l0), (1, vi l1), (2, vi l2)]) dX10_firstAt_50 rfl (by decide) (by rw [hx3]; rfl) <| At.goto (tgt := 2) dX10_firstAt_53 (by decide) <| ?_
              exact At.sub [2, 3, 4, 0] rfl (ih _ _ h K47 K56)
        · refine At.iald (shO_10_1 hl0) (le149 (shO_10_1 hl0)) g2.1 g2.2 dX10_firstAt_21 <| At.nm hv1 <| At.istore (ls' := [(4, vi v1), (0, vr l0), (1, vi l1), (2, vi l2), (3, vi l3)]) dX10_firstAt_22 (by decide) rfl <| At.iload dX10_firstAt_24 rfl <| At.bipush dX10_firstAt_26 (by decide) <| At.idiv dX10_firstAt_28 (by decide) <| At.iloadn dX10_firstAt_29 rfl <| At.icmp_ne_t (tgt := 50) dX10_firstAt_30 (by decide) c7 <| ?_
          obtain ⟨x6, hx6, h⟩ := lt_e h
          refine At.iinc (ls' := [(3, vi x6), (4, vi v1), (0, vr l0), (1, vi l1), (2, vi l2)]) dX10_firstAt_50 rfl (by decide) (by rw [hx6]; rfl) <| At.goto (tgt := 2) dX10_firstAt_53 (by decide) <| ?_
          exact At.sub [2, 3, 4, 0] rfl (ih _ _ h K47 K56)
set_option maxRecDepth 100000 in
set_option maxHeartbeats 4000000 in
theorem rX10_firstAt {G : GG} {t : Nat} {p1 : Int} {p2 : Int} {S : SS} {rr : Int} (ht : sh t = (10, 10)) (h : fX10_firstAt t p1 p2 S = some rr) : RD G mX10_firstAt 1 [vr t, vi p1, vi p2] S (some (vi rr)) S := by
  unfold fX10_firstAt at h
  refine Runs.of pl_X10 (Nat.le_of_ble_eq_true rfl) ?_
  show At G mX10_firstAt 1 0 [(0, vr t), (1, vi p1), (2, vi p2)] [] (mm S) 0 0 (EQ (some (vi rr)) S)
  refine At.iconst dX10_firstAt_0 (by decide) <| At.istoren (ls' := [(3, vi 0), (0, vr t), (1, vi p1), (2, vi p2)]) dX10_firstAt_1 (by decide) rfl <| ?_
  obtain ⟨q1, ho2, h⟩ := bnd_e h
  refine At.sub [1, 2, 3, 0] rfl (lX10_firstAt_L2 ht FU _ q1 ho2 (fun hq => ?_) (fun hq => ?_))
  · rw [if_pos hq] at h
    refine At.iload dX10_firstAt_47 rfl <| ?_
    obtain rfl := Option.some.inj h
    exact At.iret rfl (Nat.zero_le _) (Nat.zero_le _) ⟨rfl, rfl⟩ dX10_firstAt_49
  · rw [if_neg (by omega)] at h
    refine At.iconst dX10_firstAt_56 (by decide) <| ?_
    obtain rfl := Option.some.inj h
    exact At.iret rfl (Nat.zero_le _) (Nat.zero_le _) ⟨rfl, rfl⟩ dX10_firstAt_57
def fX11_comesTo (p1 : Int) (p2 : Int) (p3 : Int) (p4 : Nat) (S : SS) : Option (Int × SS) :=
  Option.bind (fX6_spotOf p4 p1 S) fun q1 =>
  Option.bind (fX10_spread 35 p1 q1 p4 S) fun q2 =>
  Option.bind (fX10_firstAt 35 p2 p3 q2) fun q3 =>
  some (q3, q2)
set_option maxRecDepth 100000 in
set_option maxHeartbeats 4000000 in
theorem rX11_comesTo {G : GG} {p1 : Int} {p2 : Int} {p3 : Int} {p4 : Nat} {S : SS} {rr : (Int × SS)} (hp4 : sh p4 = (6, 4)) (h : fX11_comesTo p1 p2 p3 p4 S = some rr) : RD G mX11_comesTo 6 [vr 1, vi p1, vi p2, vi p3, vr p4] S (some (vi rr.1)) rr.2 := by
  unfold fX11_comesTo at h
  refine Runs.of pl_X11 (Nat.le_of_ble_eq_true rfl) ?_
  show At G mX11_comesTo 6 0 [(0, vr 1), (1, vi p1), (2, vi p2), (3, vi p3), (4, vr p4)] [] (mm S) 0 0 (EQ (some (vi rr.1)) rr.2)
  refine At.aloadn dX11_comesTo_0 rfl <| At.getR fl_X11_62 sh_1 (le149 sh_1) rf_1_7 dX11_comesTo_1 <| At.iloadn dX11_comesTo_4 rfl <| At.aload dX11_comesTo_5 rfl <| At.iloadn dX11_comesTo_7 rfl <| ?_
  obtain ⟨q1, hq1, h⟩ := bnd_e h
  refine At.cV1 (av := [vi p1]) (rest := [vi p1, vr 35]) mv_X6_spotOf lk_X11_163 dX11_comesTo_8 rfl rfl hp4 (Nat.le_of_ble_eq_true rfl) (by decide) ⟨rfl, rfl⟩ (rX6_spotOf hp4 hq1) <| At.aload dX11_comesTo_11 rfl <| ?_
  obtain ⟨q2, hq2, h⟩ := bnd_e h
  refine At.cV0 (av := [vi p1, vi q1, vr p4]) (rest := []) mv_X10_spread lk_X11_256 dX11_comesTo_13 rfl rfl sh_35 (Nat.le_of_ble_eq_true rfl) (by decide) ⟨rfl, rfl⟩ (rX10_spread sh_35 hp4 hq2) <| At.aloadn dX11_comesTo_16 rfl <| At.getR fl_X11_62 sh_1 (le149 sh_1) rf_1_7 dX11_comesTo_17 <| At.iloadn dX11_comesTo_20 rfl <| At.iloadn dX11_comesTo_21 rfl <| ?_
  obtain ⟨q3, hq3, h⟩ := bnd_e h
  refine At.cV1 (av := [vi p2, vi p3]) (rest := []) mv_X10_firstAt lk_X11_408 dX11_comesTo_22 rfl rfl sh_35 (Nat.le_of_ble_eq_true rfl) (by decide) ⟨rfl, rfl⟩ (rX10_firstAt sh_35 hq3) <| ?_
  obtain rfl := Option.some.inj h
  exact At.iret rfl (Nat.zero_le _) (Nat.zero_le _) ⟨rfl, rfl⟩ dX11_comesTo_25
def fX10_goingsTo (t : Nat) (p1 : Int) (S : SS) : Option Int :=
  Option.bind (fX11_isSpot p1) fun q1 =>
  if q1 = true then (
    rdA S (t + 2) 120 p1 fun v2 =>
    some v2
  ) else (
    some ((-1))
  )
set_option maxRecDepth 100000 in
set_option maxHeartbeats 4000000 in
theorem rX10_goingsTo {G : GG} {t : Nat} {p1 : Int} {S : SS} {rr : Int} (ht : sh t = (10, 10)) (h : fX10_goingsTo t p1 S = some rr) : RD G mX10_goingsTo 2 [vr t, vi p1] S (some (vi rr)) S := by
  unfold fX10_goingsTo at h
  refine Runs.of pl_X10 (Nat.le_of_ble_eq_true rfl) ?_
  show At G mX10_goingsTo 2 0 [(0, vr t), (1, vi p1)] [] (mm S) 0 0 (EQ (some (vi rr)) S)
  refine At.iloadn dX10_goingsTo_0 rfl <| ?_
  obtain ⟨q1, hq1, h⟩ := bnd_e h
  rcases ite_e h with ⟨c4, h⟩ | ⟨c4, h⟩
  · refine At.cS1 (av := [vi p1]) (rest := []) ms_X11_isSpot lk_X10_54 dX10_goingsTo_1 rfl rfl (Nat.le_of_ble_eq_true rfl) (by decide) ⟨rfl, rfl⟩ (rX11_isSpot hq1) <| At.bifeq_f (tgt := 16) dX10_goingsTo_4 (by decide) c4 <| ?_
    refine At.aloadn dX10_goingsTo_7 rfl <| At.getR fl_X10_15 ht (le149 ht) (rfO_10_2 ht) dX10_goingsTo_8 <| At.iloadn dX10_goingsTo_11 rfl <| ?_
    obtain ⟨v2, hv2, g3, h⟩ := rdA_e h
    refine At.iald (shO_10_2 ht) (le149 (shO_10_2 ht)) g3.1 g3.2 dX10_goingsTo_12 <| At.nm hv2 <| At.goto (tgt := 17) dX10_goingsTo_13 (by decide) <| ?_
    obtain rfl := Option.some.inj h
    exact At.iret rfl (Nat.zero_le _) (Nat.zero_le _) ⟨rfl, rfl⟩ dX10_goingsTo_17
  · refine At.cS1 (av := [vi p1]) (rest := []) ms_X11_isSpot lk_X10_54 dX10_goingsTo_1 rfl rfl (Nat.le_of_ble_eq_true rfl) (by decide) ⟨rfl, rfl⟩ (rX11_isSpot hq1) <| At.bifeq_t (tgt := 16) dX10_goingsTo_4 (by decide) c4 <| ?_
    refine At.iconst dX10_goingsTo_16 (by decide) <| ?_
    obtain rfl := Option.some.inj h
    exact At.iret rfl (Nat.zero_le _) (Nat.zero_le _) ⟨rfl, rfl⟩ dX10_goingsTo_17
def fX11_soonest (p1 : Int) (p2 : Int) (p3 : Int) (S : SS) : Option (Int × SS) :=
  Option.bind (fX11_refusesComing p1 p2 p3 S) fun q1 =>
  if q1 = 0 then (
    Option.bind (fX11_comesTo p1 p2 p3 7 S) fun q2 =>
    Option.bind (fX10_goingsTo 35 q2.1 q2.2) fun q3 =>
    some (q3, q2.2)
  ) else (
    some (q1, S)
  )
set_option maxRecDepth 100000 in
set_option maxHeartbeats 4000000 in
theorem rX11_soonest {G : GG} {p1 : Int} {p2 : Int} {p3 : Int} {S : SS} {rr : (Int × SS)} (h : fX11_soonest p1 p2 p3 S = some rr) : RD G mX11_soonest 7 [vr 1, vi p1, vi p2, vi p3] S (some (vi rr.1)) rr.2 := by
  unfold fX11_soonest at h
  refine Runs.of pl_X11 (Nat.le_of_ble_eq_true rfl) ?_
  show At G mX11_soonest 7 0 [(0, vr 1), (1, vi p1), (2, vi p2), (3, vi p3)] [] (mm S) 0 0 (EQ (some (vi rr.1)) rr.2)
  refine At.aloadn dX11_soonest_0 rfl <| At.iloadn dX11_soonest_1 rfl <| At.iloadn dX11_soonest_2 rfl <| At.iloadn dX11_soonest_3 rfl <| ?_
  obtain ⟨q1, hq1, h⟩ := bnd_e h
  rcases ite_e h with ⟨c4, h⟩ | ⟨c4, h⟩
  · refine At.cV1 (av := [vi p1, vi p2, vi p3]) (rest := []) mv_X11_refusesComing lk_X11_229 dX11_soonest_4 rfl rfl sh_1 (Nat.le_of_ble_eq_true rfl) (by decide) ⟨rfl, rfl⟩ (rX11_refusesComing hq1) <| At.istore (ls' := [(4, vi q1), (0, vr 1), (1, vi p1), (2, vi p2), (3, vi p3)]) dX11_soonest_7 (by decide) rfl <| At.iload dX11_soonest_9 rfl <| At.if_eq_t (tgt := 17) dX11_soonest_11 (by decide) c4 <| ?_
    refine At.aloadn dX11_soonest_17 rfl <| At.getR fl_X11_62 sh_1 (le149 sh_1) rf_1_7 dX11_soonest_18 <| At.aloadn dX11_soonest_21 rfl <| At.iloadn dX11_soonest_22 rfl <| At.iloadn dX11_soonest_23 rfl <| At.iloadn dX11_soonest_24 rfl <| At.aloadn dX11_soonest_25 rfl <| At.getR fl_X11_20 sh_1 (le149 sh_1) rf_1_1 dX11_soonest_26 <| ?_
    obtain ⟨q2, hq2, h⟩ := bnd_e h
    refine At.cV1 (av := [vi p1, vi p2, vi p3, vr 7]) (rest := [vr 35]) mv_X11_comesTo lk_X11_233 dX11_soonest_29 rfl rfl sh_1 (Nat.le_of_ble_eq_true rfl) (by decide) ⟨rfl, rfl⟩ (rX11_comesTo sh_7 hq2) <| ?_
    obtain ⟨q3, hq3, h⟩ := bnd_e h
    refine At.cV1 (av := [vi q2.1]) (rest := []) mv_X10_goingsTo lk_X11_236 dX11_soonest_32 rfl rfl sh_35 (Nat.le_of_ble_eq_true rfl) (by decide) ⟨rfl, rfl⟩ (rX10_goingsTo sh_35 hq3) <| ?_
    obtain rfl := Option.some.inj h
    exact At.iret rfl (Nat.zero_le _) (Nat.zero_le _) ⟨rfl, rfl⟩ dX11_soonest_35
  · refine At.cV1 (av := [vi p1, vi p2, vi p3]) (rest := []) mv_X11_refusesComing lk_X11_229 dX11_soonest_4 rfl rfl sh_1 (Nat.le_of_ble_eq_true rfl) (by decide) ⟨rfl, rfl⟩ (rX11_refusesComing hq1) <| At.istore (ls' := [(4, vi q1), (0, vr 1), (1, vi p1), (2, vi p2), (3, vi p3)]) dX11_soonest_7 (by decide) rfl <| At.iload dX11_soonest_9 rfl <| At.if_eq_f (tgt := 17) dX11_soonest_11 (by decide) c4 <| ?_
    refine At.iload dX11_soonest_14 rfl <| ?_
    obtain rfl := Option.some.inj h
    exact At.iret rfl (Nat.zero_le _) (Nat.zero_le _) ⟨rfl, rfl⟩ dX11_soonest_16
def fX10_streetOfWay_L25 (l0 : Nat) (l2 : Int) (S : SS) : Nat → Int → Int → Option (Nat × Int)
  | 0, _, _ => none
  | n + 1, l4, l5 =>
    if l5 ≤ l2 then (
      some (1, l4)
    ) else (
      Option.bind (fX11_isSpot l4) fun q1 =>
      if q1 = true then (
        rdA S (l0 + 3) 120 l4 fun v2 =>
        lt (w32 (l5 + (-1))) fun x4 =>
        fX10_streetOfWay_L25 l0 l2 S n v2 x4
      ) else (
        some (0, 0)
      )
    )
def fX10_streetOfWay (t : Nat) (p1 : Int) (p2 : Int) (S : SS) : Option Int :=
  Option.bind (fX10_goingsTo t p1 S) fun q1 =>
  if p2 < 0 then (
    some ((-1))
  ) else (
    if p2 < q1 then (
      lt (w32 (q1 - 1)) fun x2 =>
      Option.bind (fX10_streetOfWay_L25 t p2 S FU p1 x2) fun q3 =>
      if q3.1 = 0 then (
        some ((-1))
      ) else (
        Option.bind (fX11_isSpot q3.2) fun q5 =>
        if q5 = true then (
          rdA S (t + 4) 120 q3.2 fun v6 =>
          some v6
        ) else (
          some ((-1))
        )
      )
    ) else (
      some ((-1))
    )
  )
set_option maxRecDepth 100000 in
set_option maxHeartbeats 4000000 in
theorem lX10_streetOfWay_L25 {G : GG} {Φ : Option VV → MM → Prop} {l0 : Nat} {l2 : Int} {S : SS} (hl0 : sh l0 = (10, 10)) : ∀ (n : Nat) (l4 : Int) (l5 : Int) (q : Nat × Int), fX10_streetOfWay_L25 l0 l2 S n l4 l5 = some q → (q.1 = 0 → At G mX10_streetOfWay 3 39 [] [] (mm S) 0 0 Φ) → (q.1 = 1 → At G mX10_streetOfWay 3 56 [(0, vr l0), (4, vi q.2)] [] (mm S) 0 0 Φ) → At G mX10_streetOfWay 3 25 [(0, vr l0), (2, vi l2), (4, vi l4), (5, vi l5)] [] (mm S) 0 0 Φ := by
  intro n
  induction n with
  | zero =>
    intro _ _ _ h
    cases h
  | succ n ih =>
    intro l4 l5 q h K39 K56
    unfold fX10_streetOfWay_L25 at h
    rcases ite_e h with ⟨c6, h⟩ | ⟨c6, h⟩
    · refine At.iload dX10_streetOfWay_25 rfl <| At.iloadn dX10_streetOfWay_27 rfl <| At.icmp_le_t (tgt := 56) dX10_streetOfWay_28 (by decide) c6 <| ?_
      obtain rfl := Option.some.inj h
      exact At.sub [0, 2] rfl (K56 rfl)
    · refine At.iload dX10_streetOfWay_25 rfl <| At.iloadn dX10_streetOfWay_27 rfl <| At.icmp_le_f (tgt := 56) dX10_streetOfWay_28 (by decide) c6 <| ?_
      refine At.iload dX10_streetOfWay_31 rfl <| ?_
      obtain ⟨q1, hq1, h⟩ := bnd_e h
      rcases ite_e h with ⟨c5, h⟩ | ⟨c5, h⟩
      · refine At.cS1 (av := [vi l4]) (rest := []) ms_X11_isSpot lk_X10_54 dX10_streetOfWay_33 rfl rfl (Nat.le_of_ble_eq_true rfl) (by decide) ⟨rfl, rfl⟩ (rX11_isSpot hq1) <| At.bifne_t (tgt := 41) dX10_streetOfWay_36 (by decide) c5 <| ?_
        refine At.aloadn dX10_streetOfWay_41 rfl <| At.getR fl_X10_18 hl0 (le149 hl0) (rfO_10_3 hl0) dX10_streetOfWay_42 <| At.iload dX10_streetOfWay_45 rfl <| ?_
        obtain ⟨v2, hv2, g3, h⟩ := rdA_e h
        refine At.iald (shO_10_3 hl0) (le149 (shO_10_3 hl0)) g3.1 g3.2 dX10_streetOfWay_47 <| At.nm hv2 <| At.istore (ls' := [(4, vi v2), (0, vr l0), (2, vi l2), (5, vi l5)]) dX10_streetOfWay_48 (by decide) rfl <| ?_
        obtain ⟨x4, hx4, h⟩ := lt_e h
        refine At.iinc (ls' := [(5, vi x4), (4, vi v2), (0, vr l0), (2, vi l2)]) dX10_streetOfWay_50 rfl (by decide) (by rw [hx4]; rfl) <| At.goto (tgt := 25) dX10_streetOfWay_53 (by decide) <| ?_
        exact At.sub [2, 3, 1, 0] rfl (ih _ _ _ h K39 K56)
      · refine At.cS1 (av := [vi l4]) (rest := []) ms_X11_isSpot lk_X10_54 dX10_streetOfWay_33 rfl rfl (Nat.le_of_ble_eq_true rfl) (by decide) ⟨rfl, rfl⟩ (rX11_isSpot hq1) <| At.bifne_f (tgt := 41) dX10_streetOfWay_36 (by decide) c5 <| ?_
        obtain rfl := Option.some.inj h
        exact At.sub [] rfl (K39 rfl)
set_option maxRecDepth 100000 in
set_option maxHeartbeats 4000000 in
theorem rX10_streetOfWay {G : GG} {t : Nat} {p1 : Int} {p2 : Int} {S : SS} {rr : Int} (ht : sh t = (10, 10)) (h : fX10_streetOfWay t p1 p2 S = some rr) : RD G mX10_streetOfWay 3 [vr t, vi p1, vi p2] S (some (vi rr)) S := by
  unfold fX10_streetOfWay at h
  refine Runs.of pl_X10 (Nat.le_of_ble_eq_true rfl) ?_
  show At G mX10_streetOfWay 3 0 [(0, vr t), (1, vi p1), (2, vi p2)] [] (mm S) 0 0 (EQ (some (vi rr)) S)
  refine At.aloadn dX10_streetOfWay_0 rfl <| At.iloadn dX10_streetOfWay_1 rfl <| ?_
  obtain ⟨q1, hq1, h⟩ := bnd_e h
  rcases ite_e h with ⟨c10, h⟩ | ⟨c10, h⟩
  · refine At.cV1 (av := [vi p1]) (rest := []) mv_X10_goingsTo lk_X10_84 dX10_streetOfWay_2 rfl rfl ht (Nat.le_of_ble_eq_true rfl) (by decide) ⟨rfl, rfl⟩ (rX10_goingsTo ht hq1) <| At.istoren (ls' := [(3, vi q1), (0, vr t), (1, vi p1), (2, vi p2)]) dX10_streetOfWay_5 (by decide) rfl <| At.iloadn dX10_streetOfWay_6 rfl <| At.if_lt_t (tgt := 15) dX10_streetOfWay_7 (by decide) c10 <| ?_
    refine At.iconst dX10_streetOfWay_15 (by decide) <| ?_
    obtain rfl := Option.some.inj h
    exact At.iret rfl (Nat.zero_le _) (Nat.zero_le _) ⟨rfl, rfl⟩ dX10_streetOfWay_16
  · refine At.cV1 (av := [vi p1]) (rest := []) mv_X10_goingsTo lk_X10_84 dX10_streetOfWay_2 rfl rfl ht (Nat.le_of_ble_eq_true rfl) (by decide) ⟨rfl, rfl⟩ (rX10_goingsTo ht hq1) <| At.istoren (ls' := [(3, vi q1), (0, vr t), (1, vi p1), (2, vi p2)]) dX10_streetOfWay_5 (by decide) rfl <| At.iloadn dX10_streetOfWay_6 rfl <| At.if_lt_f (tgt := 15) dX10_streetOfWay_7 (by decide) c10 <| ?_
    rcases ite_e h with ⟨c9, h⟩ | ⟨c9, h⟩
    · refine At.iloadn dX10_streetOfWay_10 rfl <| At.iloadn dX10_streetOfWay_11 rfl <| At.icmp_lt_t (tgt := 17) dX10_streetOfWay_12 (by decide) c9 <| ?_
      refine At.iloadn dX10_streetOfWay_17 rfl <| At.istore (ls' := [(4, vi p1), (3, vi q1), (0, vr t), (1, vi p1), (2, vi p2)]) dX10_streetOfWay_18 (by decide) rfl <| At.iloadn dX10_streetOfWay_20 rfl <| At.iconst dX10_streetOfWay_21 (by decide) <| At.isub dX10_streetOfWay_22 <| ?_
      obtain ⟨x2, hx2, h⟩ := lt_e h
      refine At.nm hx2 <| At.istore (ls' := [(5, vi x2), (4, vi p1), (3, vi q1), (0, vr t), (1, vi p1), (2, vi p2)]) dX10_streetOfWay_23 (by decide) rfl <| ?_
      obtain ⟨q3, ho4, h⟩ := bnd_e h
      refine At.sub [3, 5, 1, 0] rfl (lX10_streetOfWay_L25 ht FU _ _ q3 ho4 (fun hq => ?_) (fun hq => ?_))
      · rw [if_pos hq] at h
        refine At.iconst dX10_streetOfWay_39 (by decide) <| ?_
        obtain rfl := Option.some.inj h
        exact At.iret rfl (Nat.zero_le _) (Nat.zero_le _) ⟨rfl, rfl⟩ dX10_streetOfWay_40
      · rw [if_neg (by omega)] at h
        refine At.iload dX10_streetOfWay_56 rfl <| ?_
        obtain ⟨q5, hq5, h⟩ := bnd_e h
        rcases ite_e h with ⟨c8, h⟩ | ⟨c8, h⟩
        · refine At.cS1 (av := [vi q3.2]) (rest := []) ms_X11_isSpot lk_X10_54 dX10_streetOfWay_58 rfl rfl (Nat.le_of_ble_eq_true rfl) (by decide) ⟨rfl, rfl⟩ (rX11_isSpot hq5) <| At.bifeq_f (tgt := 74) dX10_streetOfWay_61 (by decide) c8 <| ?_
          refine At.aloadn dX10_streetOfWay_64 rfl <| At.getR fl_X10_21 ht (le149 ht) (rfO_10_4 ht) dX10_streetOfWay_65 <| At.iload dX10_streetOfWay_68 rfl <| ?_
          obtain ⟨v6, hv6, g7, h⟩ := rdA_e h
          refine At.iald (shO_10_4 ht) (le149 (shO_10_4 ht)) g7.1 g7.2 dX10_streetOfWay_70 <| At.nm hv6 <| At.goto (tgt := 75) dX10_streetOfWay_71 (by decide) <| ?_
          obtain rfl := Option.some.inj h
          exact At.iret rfl (Nat.zero_le _) (Nat.zero_le _) ⟨rfl, rfl⟩ dX10_streetOfWay_75
        · refine At.cS1 (av := [vi q3.2]) (rest := []) ms_X11_isSpot lk_X10_54 dX10_streetOfWay_58 rfl rfl (Nat.le_of_ble_eq_true rfl) (by decide) ⟨rfl, rfl⟩ (rX11_isSpot hq5) <| At.bifeq_t (tgt := 74) dX10_streetOfWay_61 (by decide) c8 <| ?_
          refine At.iconst dX10_streetOfWay_74 (by decide) <| ?_
          obtain rfl := Option.some.inj h
          exact At.iret rfl (Nat.zero_le _) (Nat.zero_le _) ⟨rfl, rfl⟩ dX10_streetOfWay_75
    · refine At.iloadn dX10_streetOfWay_10 rfl <| At.iloadn dX10_streetOfWay_11 rfl <| At.icmp_lt_f (tgt := 17) dX10_streetOfWay_12 (by decide) c9 <| ?_
      refine At.iconst dX10_streetOfWay_15 (by decide) <| ?_
      obtain rfl := Option.some.inj h
      exact At.iret rfl (Nat.zero_le _) (Nat.zero_le _) ⟨rfl, rfl⟩ dX10_streetOfWay_16
def fX11_way (p1 : Int) (p2 : Int) (p3 : Int) (p4 : Int) (S : SS) : Option (Int × SS) :=
  Option.bind (fX11_refusesComing p1 p2 p3 S) fun q1 =>
  if q1 = 0 then (
    if 0 ≤ p4 then (
      Option.bind (fX11_comesTo p1 p2 p3 7 S) fun q2 =>
      Option.bind (fX10_streetOfWay 35 q2.1 p4 q2.2) fun q3 =>
      some (q3, q2.2)
    ) else (
      some ((-3), S)
    )
  ) else (
    some (q1, S)
  )
set_option maxRecDepth 100000 in
set_option maxHeartbeats 4000000 in
theorem rX11_way {G : GG} {p1 : Int} {p2 : Int} {p3 : Int} {p4 : Int} {S : SS} {rr : (Int × SS)} (h : fX11_way p1 p2 p3 p4 S = some rr) : RD G mX11_way 7 [vr 1, vi p1, vi p2, vi p3, vi p4] S (some (vi rr.1)) rr.2 := by
  unfold fX11_way at h
  refine Runs.of pl_X11 (Nat.le_of_ble_eq_true rfl) ?_
  show At G mX11_way 7 0 [(0, vr 1), (1, vi p1), (2, vi p2), (3, vi p3), (4, vi p4)] [] (mm S) 0 0 (EQ (some (vi rr.1)) rr.2)
  refine At.aloadn dX11_way_0 rfl <| At.iloadn dX11_way_1 rfl <| At.iloadn dX11_way_2 rfl <| At.iloadn dX11_way_3 rfl <| ?_
  obtain ⟨q1, hq1, h⟩ := bnd_e h
  rcases ite_e h with ⟨c5, h⟩ | ⟨c5, h⟩
  · refine At.cV1 (av := [vi p1, vi p2, vi p3]) (rest := []) mv_X11_refusesComing lk_X11_229 dX11_way_4 rfl rfl sh_1 (Nat.le_of_ble_eq_true rfl) (by decide) ⟨rfl, rfl⟩ (rX11_refusesComing hq1) <| At.istore (ls' := [(5, vi q1), (0, vr 1), (1, vi p1), (2, vi p2), (3, vi p3), (4, vi p4)]) dX11_way_7 (by decide) rfl <| At.iload dX11_way_9 rfl <| At.if_eq_t (tgt := 17) dX11_way_11 (by decide) c5 <| ?_
    rcases ite_e h with ⟨c4, h⟩ | ⟨c4, h⟩
    · refine At.iload dX11_way_17 rfl <| At.if_ge_t (tgt := 25) dX11_way_19 (by decide) c4 <| ?_
      refine At.aloadn dX11_way_25 rfl <| At.iloadn dX11_way_26 rfl <| At.iloadn dX11_way_27 rfl <| At.iloadn dX11_way_28 rfl <| At.aloadn dX11_way_29 rfl <| At.getR fl_X11_20 sh_1 (le149 sh_1) rf_1_1 dX11_way_30 <| ?_
      obtain ⟨q2, hq2, h⟩ := bnd_e h
      refine At.cV1 (av := [vi p1, vi p2, vi p3, vr 7]) (rest := []) mv_X11_comesTo lk_X11_233 dX11_way_33 rfl rfl sh_1 (Nat.le_of_ble_eq_true rfl) (by decide) ⟨rfl, rfl⟩ (rX11_comesTo sh_7 hq2) <| At.istore (ls' := [(6, vi q2.1), (5, vi q1), (0, vr 1), (1, vi p1), (2, vi p2), (3, vi p3), (4, vi p4)]) dX11_way_36 (by decide) rfl <| At.aloadn dX11_way_38 rfl <| At.getR fl_X11_62 sh_1 (le149 sh_1) rf_1_7 dX11_way_39 <| At.iload dX11_way_42 rfl <| At.iload dX11_way_44 rfl <| ?_
      obtain ⟨q3, hq3, h⟩ := bnd_e h
      refine At.cV1 (av := [vi q2.1, vi p4]) (rest := []) mv_X10_streetOfWay lk_X11_239 dX11_way_46 rfl rfl sh_35 (Nat.le_of_ble_eq_true rfl) (by decide) ⟨rfl, rfl⟩ (rX10_streetOfWay sh_35 hq3) <| ?_
      obtain rfl := Option.some.inj h
      exact At.iret rfl (Nat.zero_le _) (Nat.zero_le _) ⟨rfl, rfl⟩ dX11_way_49
    · refine At.iload dX11_way_17 rfl <| At.if_ge_f (tgt := 25) dX11_way_19 (by decide) c4 <| ?_
      refine At.bipush dX11_way_22 (by decide) <| ?_
      obtain rfl := Option.some.inj h
      exact At.iret rfl (Nat.zero_le _) (Nat.zero_le _) ⟨rfl, rfl⟩ dX11_way_24
  · refine At.cV1 (av := [vi p1, vi p2, vi p3]) (rest := []) mv_X11_refusesComing lk_X11_229 dX11_way_4 rfl rfl sh_1 (Nat.le_of_ble_eq_true rfl) (by decide) ⟨rfl, rfl⟩ (rX11_refusesComing hq1) <| At.istore (ls' := [(5, vi q1), (0, vr 1), (1, vi p1), (2, vi p2), (3, vi p3), (4, vi p4)]) dX11_way_7 (by decide) rfl <| At.iload dX11_way_9 rfl <| At.if_eq_f (tgt := 17) dX11_way_11 (by decide) c5 <| ?_
    refine At.iload dX11_way_14 rfl <| ?_
    obtain rfl := Option.some.inj h
    exact At.iret rfl (Nat.zero_le _) (Nat.zero_le _) ⟨rfl, rfl⟩ dX11_way_16
def fJ7_fill_d0a16_120_L6 (l0 : Nat) (l1 : Int) (l4 : Int) : Nat → Int → SS → Option (SS)
  | 0, _, _ => none
  | n + 1, l3, S =>
    if l4 ≤ l3 then (
      some S
    ) else (
      wrA S l0 120 l3 l1 fun S1 =>
      lt (w32 (l3 + 1)) fun x3 =>
      fJ7_fill_d0a16_120_L6 l0 l1 l4 n x3 S1
    )
def fJ7_fill_d0a16_120 (p0 : Nat) (p1 : Int) (S : SS) : Option SS :=
  Option.bind (fJ7_fill_d0a16_120_L6 p0 p1 120 FU 0 S) fun q1 =>
  some q1
set_option maxRecDepth 100000 in
set_option maxHeartbeats 4000000 in
theorem lJ7_fill_d0a16_120_L6 {G : GG} {Φ : Option VV → MM → Prop} {l0 : Nat} {l1 : Int} {l4 : Int} (hl0 : sh l0 = (21, 120)) : ∀ (n : Nat) (l3 : Int) (S : SS) (q : SS), fJ7_fill_d0a16_120_L6 l0 l1 l4 n l3 S = some q → At G mJ7_fill_d0a16 1 22 [] [] (mm q) 0 0 Φ → At G mJ7_fill_d0a16 1 6 [(0, vr l0), (1, vl l1), (3, vi l3), (4, vi l4)] [] (mm S) 0 0 Φ := by
  intro n
  induction n with
  | zero =>
    intro _ _ _ h
    cases h
  | succ n ih =>
    intro l3 S q h K22
    unfold fJ7_fill_d0a16_120_L6 at h
    rcases ite_e h with ⟨c4, h⟩ | ⟨c4, h⟩
    · refine At.iloadn dJ7_fill_d0a16_6 rfl <| At.iload dJ7_fill_d0a16_7 rfl <| At.icmp_ge_t (tgt := 22) dJ7_fill_d0a16_9 (by decide) c4 <| ?_
      obtain rfl := Option.some.inj h
      exact At.sub [] rfl K22
    · refine At.iloadn dJ7_fill_d0a16_6 rfl <| At.iload dJ7_fill_d0a16_7 rfl <| At.icmp_ge_f (tgt := 22) dJ7_fill_d0a16_9 (by decide) c4 <| ?_
      refine At.aloadn dJ7_fill_d0a16_12 rfl <| At.iloadn dJ7_fill_d0a16_13 rfl <| At.lloadn dJ7_fill_d0a16_14 rfl <| ?_
      obtain ⟨S1, hS1, g2, h⟩ := wrA_e h
      refine At.last hl0 (le149 hl0) g2.1 g2.2 dJ7_fill_d0a16_15 <| At.nmS hS1 <| ?_
      obtain ⟨x3, hx3, h⟩ := lt_e h
      refine At.iinc (ls' := [(3, vi x3), (0, vr l0), (1, vl l1), (4, vi l4)]) dJ7_fill_d0a16_16 rfl (by decide) (by rw [hx3]; rfl) <| At.goto (tgt := 6) dJ7_fill_d0a16_19 (by decide) <| ?_
      exact At.sub [1, 2, 0, 3] rfl (ih _ _ _ h K22)
set_option maxRecDepth 100000 in
set_option maxHeartbeats 4000000 in
theorem rJ7_fill_d0a16_120 {G : GG} {p0 : Nat} {p1 : Int} {S : SS} {rr : SS} (hp0 : sh p0 = (21, 120)) (h : fJ7_fill_d0a16_120 p0 p1 S = some rr) : RD G mJ7_fill_d0a16 1 [vr p0, vl p1] S none rr := by
  unfold fJ7_fill_d0a16_120 at h
  refine Runs.of pl_J7 (Nat.le_of_ble_eq_true rfl) ?_
  show At G mJ7_fill_d0a16 1 0 [(0, vr p0), (1, vl p1)] [] (mm S) 0 0 (EQ none rr)
  refine At.iconst dJ7_fill_d0a16_0 (by decide) <| At.istoren (ls' := [(3, vi 0), (0, vr p0), (1, vl p1)]) dJ7_fill_d0a16_1 (by decide) rfl <| At.aloadn dJ7_fill_d0a16_2 rfl <| At.alenJ hp0 (le149 hp0) (by decide) (z := 120) rfl dJ7_fill_d0a16_3 <| At.istore (ls' := [(4, vi 120), (3, vi 0), (0, vr p0), (1, vl p1)]) dJ7_fill_d0a16_4 (by decide) rfl <| ?_
  obtain ⟨q1, ho2, h⟩ := bnd_e h
  refine At.sub [2, 3, 1, 0] rfl (lJ7_fill_d0a16_120_L6 hp0 FU _ _ q1 ho2 ?_)
  obtain rfl := Option.some.inj h
  exact At.vret rfl (Nat.zero_le _) (Nat.zero_le _) ⟨rfl, rfl⟩ dJ7_fill_d0a16_22
def fX7_oneMore_L36 (l1 : Int) (l2 : Nat) (l3 : Int) (l4 : Int) : Nat → Int → SS → Option (SS)
  | 0, _, _ => none
  | n + 1, l5, S =>
    if (S 2 6) ≤ l5 then (
      some S
    ) else (
      Option.bind (fX5_after l1 l5 l4 l2 S) fun q1 =>
      Option.bind (fX11_isSpot q1.1) fun q2 =>
      Option.bind (
        if q2 = true then (
          rdA q1.2 53 120 q1.1 fun v4 =>
          rdA q1.2 52 120 l4 fun v6 =>
          wrA q1.2 53 120 q1.1 (w64 (v4 + v6)) fun S8 =>
          some S8
        ) else (
          if l3 = 0 then (
            some q1.2
          ) else (
            rdA q1.2 53 120 l4 fun v10 =>
            rdA q1.2 52 120 l4 fun v12 =>
            wrA q1.2 53 120 l4 (w64 (v10 + v12)) fun S14 =>
            some S14
          )
        )
        : Option (SS)) fun q3 =>
      lt (w32 (l5 + 1)) fun x18 =>
      fX7_oneMore_L36 l1 l2 l3 l4 n x18 q3
    )
def fX7_oneMore_L11 (l1 : Int) (l2 : Nat) (l3 : Int) : Nat → Int → SS → Option (SS)
  | 0, _, _ => none
  | n + 1, l4, S =>
    if 120 ≤ l4 then (
      some S
    ) else (
      rdA S 52 120 l4 fun v1 =>
      Option.bind (
        if (lc v1 0) = 0 then (
          some S
        ) else (
          Option.bind (fX7_oneMore_L36 l1 l2 l3 l4 FU 0 S) fun q4 =>
          some q4
        )
        : Option (SS)) fun q3 =>
      lt (w32 (l4 + 1)) fun x7 =>
      fX7_oneMore_L11 l1 l2 l3 n x7 q3
    )
def fX7_oneMore (p1 : Int) (p2 : Nat) (p3 : Int) (S : SS) : Option SS :=
  Option.bind (fJ7_fill_d0a16_120 53 0 S) fun q1 =>
  Option.bind (fX7_oneMore_L11 p1 p2 p3 FU 0 q1) fun q2 =>
  acp q2 53 120 0 52 120 0 120 fun S4 =>
  some S4
set_option maxRecDepth 100000 in
set_option maxHeartbeats 4000000 in
theorem lX7_oneMore_L36 {G : GG} {Φ : Option VV → MM → Prop} {l1 : Int} {l2 : Nat} {l3 : Int} {l4 : Int} (hl2 : sh l2 = (6, 4)) : ∀ (n : Nat) (l5 : Int) (S : SS) (q : SS), fX7_oneMore_L36 l1 l2 l3 l4 n l5 S = some q → At G mX7_oneMore 5 121 [(0, vr 51), (1, vi l1), (2, vr l2), (3, vi l3), (4, vi l4)] [] (mm q) 0 0 Φ → At G mX7_oneMore 5 36 [(0, vr 51), (1, vi l1), (2, vr l2), (3, vi l3), (4, vi l4), (5, vi l5)] [] (mm S) 0 0 Φ := by
  intro n
  induction n with
  | zero =>
    intro _ _ _ h
    cases h
  | succ n ih =>
    intro l5 S q h K121
    unfold fX7_oneMore_L36 at h
    rcases ite_e h with ⟨c19, h⟩ | ⟨c19, h⟩
    · refine At.iload dX7_oneMore_36 rfl <| At.aloadn dX7_oneMore_38 rfl <| At.getR fl_X7_18 sh_51 (le149 sh_51) rf_51_0 dX7_oneMore_39 <| At.getR fl_X7_48 sh_30 (le149 sh_30) rf_30_0 dX7_oneMore_42 <| At.getI fl_X7_52 sh_2 (le149 sh_2) dX7_oneMore_45 <| At.icmp_ge_t (tgt := 121) dX7_oneMore_48 (by decide) c19 <| ?_
      obtain rfl := Option.some.inj h
      exact At.sub [0, 1, 2, 3, 4] rfl K121
    · refine At.iload dX7_oneMore_36 rfl <| At.aloadn dX7_oneMore_38 rfl <| At.getR fl_X7_18 sh_51 (le149 sh_51) rf_51_0 dX7_oneMore_39 <| At.getR fl_X7_48 sh_30 (le149 sh_30) rf_30_0 dX7_oneMore_42 <| At.getI fl_X7_52 sh_2 (le149 sh_2) dX7_oneMore_45 <| At.icmp_ge_f (tgt := 121) dX7_oneMore_48 (by decide) c19 <| ?_
      refine At.aloadn dX7_oneMore_51 rfl <| At.getR fl_X7_18 sh_51 (le149 sh_51) rf_51_0 dX7_oneMore_52 <| At.iloadn dX7_oneMore_55 rfl <| At.iload dX7_oneMore_56 rfl <| At.iload dX7_oneMore_58 rfl <| At.aloadn dX7_oneMore_60 rfl <| ?_
      obtain ⟨q1, hq1, h⟩ := bnd_e h
      refine At.cV1 (av := [vi l1, vi l5, vi l4, vr l2]) (rest := []) mv_X5_after lk_X7_61 dX7_oneMore_61 rfl rfl sh_30 (Nat.le_of_ble_eq_true rfl) (by decide) ⟨rfl, rfl⟩ (rX5_after hl2 hq1) <| At.istore (ls' := [(6, vi q1.1), (0, vr 51), (1, vi l1), (2, vr l2), (3, vi l3), (4, vi l4), (5, vi l5)]) dX7_oneMore_64 (by decide) rfl <| At.iload dX7_oneMore_66 rfl <| ?_
      obtain ⟨q2, hq2, h⟩ := bnd_e h
      obtain ⟨q3, hj115, h⟩ := bnd_e h
      have K115 : At G mX7_oneMore 5 115 [(0, vr 51), (1, vi l1), (2, vr l2), (3, vi l3), (4, vi l4), (5, vi l5)] [] (mm q3) 0 0 Φ := by
        obtain ⟨x18, hx18, h⟩ := lt_e h
        refine At.iinc (ls' := [(5, vi x18), (0, vr 51), (1, vi l1), (2, vr l2), (3, vi l3), (4, vi l4)]) dX7_oneMore_115 rfl (by decide) (by rw [hx18]; rfl) <| At.goto (tgt := 36) dX7_oneMore_118 (by decide) <| ?_
        exact At.sub [1, 2, 3, 4, 5, 0] rfl (ih _ _ _ h K121)
      clear h; have h := hj115; clear hj115
      rcases ite_e h with ⟨c17, h⟩ | ⟨c17, h⟩
      · refine At.cS1 (av := [vi q1.1]) (rest := []) ms_X11_isSpot lk_X7_44 dX7_oneMore_68 rfl rfl (Nat.le_of_ble_eq_true rfl) (by decide) ⟨rfl, rfl⟩ (rX11_isSpot hq2) <| At.bifeq_f (tgt := 94) dX7_oneMore_71 (by decide) c17 <| ?_
        refine At.aloadn dX7_oneMore_74 rfl <| At.getR fl_X7_15 sh_51 (le149 sh_51) rf_51_2 dX7_oneMore_75 <| At.iload dX7_oneMore_78 rfl <| At.dup2 rfl rfl dX7_oneMore_80 <| ?_
        obtain ⟨v4, hv4, g5, h⟩ := rdA_e h
        refine At.lald sh_53 (le149 sh_53) g5.1 g5.2 dX7_oneMore_81 <| At.nml hv4 <| At.aloadn dX7_oneMore_82 rfl <| At.getR fl_X7_9 sh_51 (le149 sh_51) rf_51_1 dX7_oneMore_83 <| At.iload dX7_oneMore_86 rfl <| ?_
        obtain ⟨v6, hv6, g7, h⟩ := rdA_e h
        refine At.lald sh_52 (le149 sh_52) g7.1 g7.2 dX7_oneMore_88 <| At.nml hv6 <| At.ladd dX7_oneMore_89 <| ?_
        obtain ⟨S8, hS8, g9, h⟩ := wrA_e h
        refine At.last sh_53 (le149 sh_53) g9.1 g9.2 dX7_oneMore_90 <| At.nmS hS8 <| At.goto (tgt := 115) dX7_oneMore_91 (by decide) <| ?_
        obtain rfl := Option.some.inj h
        exact At.sub [1, 2, 3, 4, 5, 6] rfl K115
      · refine At.cS1 (av := [vi q1.1]) (rest := []) ms_X11_isSpot lk_X7_44 dX7_oneMore_68 rfl rfl (Nat.le_of_ble_eq_true rfl) (by decide) ⟨rfl, rfl⟩ (rX11_isSpot hq2) <| At.bifeq_t (tgt := 94) dX7_oneMore_71 (by decide) c17 <| ?_
        rcases ite_e h with ⟨c16, h⟩ | ⟨c16, h⟩
        · refine At.iloadn dX7_oneMore_94 rfl <| At.if_eq_t (tgt := 115) dX7_oneMore_95 (by decide) c16 <| ?_
          obtain rfl := Option.some.inj h
          exact At.sub [1, 2, 3, 4, 5, 6] rfl K115
        · refine At.iloadn dX7_oneMore_94 rfl <| At.if_eq_f (tgt := 115) dX7_oneMore_95 (by decide) c16 <| ?_
          refine At.aloadn dX7_oneMore_98 rfl <| At.getR fl_X7_15 sh_51 (le149 sh_51) rf_51_2 dX7_oneMore_99 <| At.iload dX7_oneMore_102 rfl <| At.dup2 rfl rfl dX7_oneMore_104 <| ?_
          obtain ⟨v10, hv10, g11, h⟩ := rdA_e h
          refine At.lald sh_53 (le149 sh_53) g11.1 g11.2 dX7_oneMore_105 <| At.nml hv10 <| At.aloadn dX7_oneMore_106 rfl <| At.getR fl_X7_9 sh_51 (le149 sh_51) rf_51_1 dX7_oneMore_107 <| At.iload dX7_oneMore_110 rfl <| ?_
          obtain ⟨v12, hv12, g13, h⟩ := rdA_e h
          refine At.lald sh_52 (le149 sh_52) g13.1 g13.2 dX7_oneMore_112 <| At.nml hv12 <| At.ladd dX7_oneMore_113 <| ?_
          obtain ⟨S14, hS14, g15, h⟩ := wrA_e h
          refine At.last sh_53 (le149 sh_53) g15.1 g15.2 dX7_oneMore_114 <| At.nmS hS14 <| ?_
          obtain rfl := Option.some.inj h
          exact At.sub [1, 2, 3, 4, 5, 6] rfl K115
set_option maxRecDepth 100000 in
set_option maxHeartbeats 4000000 in
theorem lX7_oneMore_L11 {G : GG} {Φ : Option VV → MM → Prop} {l1 : Int} {l2 : Nat} {l3 : Int} (hl2 : sh l2 = (6, 4)) : ∀ (n : Nat) (l4 : Int) (S : SS) (q : SS), fX7_oneMore_L11 l1 l2 l3 n l4 S = some q → At G mX7_oneMore 5 127 [(0, vr 51)] [] (mm q) 0 0 Φ → At G mX7_oneMore 5 11 [(0, vr 51), (1, vi l1), (2, vr l2), (3, vi l3), (4, vi l4)] [] (mm S) 0 0 Φ := by
  intro n
  induction n with
  | zero =>
    intro _ _ _ h
    cases h
  | succ n ih =>
    intro l4 S q h K127
    unfold fX7_oneMore_L11 at h
    rcases ite_e h with ⟨c8, h⟩ | ⟨c8, h⟩
    · refine At.iload dX7_oneMore_11 rfl <| At.bipush dX7_oneMore_13 (by decide) <| At.icmp_ge_t (tgt := 127) dX7_oneMore_15 (by decide) c8 <| ?_
      obtain rfl := Option.some.inj h
      exact At.sub [0] rfl K127
    · refine At.iload dX7_oneMore_11 rfl <| At.bipush dX7_oneMore_13 (by decide) <| At.icmp_ge_f (tgt := 127) dX7_oneMore_15 (by decide) c8 <| ?_
      refine At.aloadn dX7_oneMore_18 rfl <| At.getR fl_X7_9 sh_51 (le149 sh_51) rf_51_1 dX7_oneMore_19 <| At.iload dX7_oneMore_22 rfl <| ?_
      obtain ⟨v1, hv1, g2, h⟩ := rdA_e h
      obtain ⟨q3, hj121, h⟩ := bnd_e h
      have K121 : At G mX7_oneMore 5 121 [(0, vr 51), (1, vi l1), (2, vr l2), (3, vi l3), (4, vi l4)] [] (mm q3) 0 0 Φ := by
        obtain ⟨x7, hx7, h⟩ := lt_e h
        refine At.iinc (ls' := [(4, vi x7), (0, vr 51), (1, vi l1), (2, vr l2), (3, vi l3)]) dX7_oneMore_121 rfl (by decide) (by rw [hx7]; rfl) <| At.goto (tgt := 11) dX7_oneMore_124 (by decide) <| ?_
        exact At.sub [1, 2, 3, 4, 0] rfl (ih _ _ _ h K127)
      clear h; have h := hj121; clear hj121
      rcases ite_e h with ⟨c6, h⟩ | ⟨c6, h⟩
      · refine At.lald sh_52 (le149 sh_52) g2.1 g2.2 dX7_oneMore_24 <| At.nml hv1 <| At.lconst0 dX7_oneMore_25 <| At.lcmp dX7_oneMore_26 <| At.if_ne_f (tgt := 33) dX7_oneMore_27 (by decide) c6 <| ?_
        refine At.goto (tgt := 121) dX7_oneMore_30 (by decide) <| ?_
        obtain rfl := Option.some.inj h
        exact At.sub [0, 1, 2, 3, 4] rfl K121
      · refine At.lald sh_52 (le149 sh_52) g2.1 g2.2 dX7_oneMore_24 <| At.nml hv1 <| At.lconst0 dX7_oneMore_25 <| At.lcmp dX7_oneMore_26 <| At.if_ne_t (tgt := 33) dX7_oneMore_27 (by decide) c6 <| ?_
        refine At.iconst dX7_oneMore_33 (by decide) <| At.istore (ls' := [(5, vi 0), (0, vr 51), (1, vi l1), (2, vr l2), (3, vi l3), (4, vi l4)]) dX7_oneMore_34 (by decide) rfl <| ?_
        obtain ⟨q4, ho5, h⟩ := bnd_e h
        refine At.sub [1, 2, 3, 4, 5, 0] rfl (lX7_oneMore_L36 hl2 FU _ _ q4 ho5 ?_)
        obtain rfl := Option.some.inj h
        exact At.sub [0, 1, 2, 3, 4] rfl K121
set_option maxRecDepth 100000 in
set_option maxHeartbeats 4000000 in
theorem rX7_oneMore {G : GG} {p1 : Int} {p2 : Nat} {p3 : Int} {S : SS} {rr : SS} (hp2 : sh p2 = (6, 4)) (h : fX7_oneMore p1 p2 p3 S = some rr) : RD G mX7_oneMore 5 [vr 51, vi p1, vr p2, vi p3] S none rr := by
  unfold fX7_oneMore at h
  refine Runs.of pl_X7 (Nat.le_of_ble_eq_true rfl) ?_
  show At G mX7_oneMore 5 0 [(0, vr 51), (1, vi p1), (2, vr p2), (3, vi p3)] [] (mm S) 0 0 (EQ none rr)
  refine At.aloadn dX7_oneMore_0 rfl <| At.getR fl_X7_15 sh_51 (le149 sh_51) rf_51_2 dX7_oneMore_1 <| At.lconst0 dX7_oneMore_4 <| ?_
  obtain ⟨q1, hq1, h⟩ := bnd_e h
  refine At.cS0 (av := [vr 53, vl 0]) (rest := []) ms_J7_fill_d0a16 lk_X7_34 dX7_oneMore_5 rfl rfl (Nat.le_of_ble_eq_true rfl) (by decide) ⟨rfl, rfl⟩ (rJ7_fill_d0a16_120 sh_53 hq1) <| At.iconst dX7_oneMore_8 (by decide) <| At.istore (ls' := [(4, vi 0), (0, vr 51), (1, vi p1), (2, vr p2), (3, vi p3)]) dX7_oneMore_9 (by decide) rfl <| ?_
  obtain ⟨q2, ho3, h⟩ := bnd_e h
  refine At.sub [1, 2, 3, 4, 0] rfl (lX7_oneMore_L11 hp2 FU _ _ q2 ho3 ?_)
  refine At.aloadn dX7_oneMore_127 rfl <| At.getR fl_X7_15 sh_51 (le149 sh_51) rf_51_2 dX7_oneMore_128 <| At.iconst dX7_oneMore_131 (by decide) <| At.aloadn dX7_oneMore_132 rfl <| At.getR fl_X7_9 sh_51 (le149 sh_51) rf_51_1 dX7_oneMore_133 <| At.iconst dX7_oneMore_136 (by decide) <| At.bipush dX7_oneMore_137 (by decide) <| ?_
  obtain ⟨S4, hS4, g5, h⟩ := acp_e h
  refine At.acpL ln_X7_65 sh_53 sh_52 g5 (Nat.le_of_ble_eq_true rfl) (by decide) dX7_oneMore_139 <| At.nmS hS4 <| ?_
  obtain rfl := Option.some.inj h
  exact At.vret rfl (Nat.zero_le _) (Nat.zero_le _) ⟨rfl, rfl⟩ dX7_oneMore_142
def fX7_countWays_L61 (l1 : Int) (l3 : Int) (l4 : Nat) (l5 : Int) : Nat → Int → SS → Option (SS)
  | 0, _, _ => none
  | n + 1, l6, S =>
    if l3 ≤ l6 then (
      some S
    ) else (
      Option.bind (fX7_oneMore l1 l4 l5 S) fun q1 =>
      lt (up q1 51 3 (w64 ((q1 51 3) * (q1 2 6)))) fun S2 =>
      lt (w32 (l6 + 1)) fun x3 =>
      fX7_countWays_L61 l1 l3 l4 l5 n x3 S2
    )
def fX7_countWays (p1 : Int) (p2 : Int) (p3 : Int) (p4 : Nat) (p5 : Int) (S : SS) : Option SS :=
  Option.bind (fX5_settle (S p4 3) S) fun q1 =>
  Option.bind (fJ7_fill_d0a16_120 52 0 q1) fun q2 =>
  lt (up q2 51 3 1) fun S3 =>
  Option.bind (fX11_isSpot p2) fun q4 =>
  Option.bind (
    if q4 = true then (
      wrA S3 52 120 p2 1 fun S6 =>
      some S6
    ) else (
      some S3
    )
    : Option (SS)) fun q5 =>
  if p5 = 0 then (
    Option.bind (fX7_countWays_L61 p1 p3 p4 p5 FU 0 q5) fun q9 =>
    some q9
  ) else (
    if (q5 2 6) = 0 then (
      some q5
    ) else (
      Option.bind (fX7_countWays_L61 p1 p3 p4 p5 FU 0 q5) fun q11 =>
      some q11
    )
  )
set_option maxRecDepth 100000 in
set_option maxHeartbeats 4000000 in
theorem lX7_countWays_L61 {G : GG} {Φ : Option VV → MM → Prop} {l1 : Int} {l3 : Int} {l4 : Nat} {l5 : Int} (hl4 : sh l4 = (6, 4)) : ∀ (n : Nat) (l6 : Int) (S : SS) (q : SS), fX7_countWays_L61 l1 l3 l4 l5 n l6 S = some q → At G mX7_countWays 6 102 [] [] (mm q) 0 0 Φ → At G mX7_countWays 6 61 [(0, vr 51), (1, vi l1), (3, vi l3), (4, vr l4), (5, vi l5), (6, vi l6)] [] (mm S) 0 0 Φ := by
  intro n
  induction n with
  | zero =>
    intro _ _ _ h
    cases h
  | succ n ih =>
    intro l6 S q h K102
    unfold fX7_countWays_L61 at h
    rcases ite_e h with ⟨c4, h⟩ | ⟨c4, h⟩
    · refine At.iload dX7_countWays_61 rfl <| At.iloadn dX7_countWays_63 rfl <| At.icmp_ge_t (tgt := 102) dX7_countWays_64 (by decide) c4 <| ?_
      obtain rfl := Option.some.inj h
      exact At.sub [] rfl K102
    · refine At.iload dX7_countWays_61 rfl <| At.iloadn dX7_countWays_63 rfl <| At.icmp_ge_f (tgt := 102) dX7_countWays_64 (by decide) c4 <| ?_
      refine At.aloadn dX7_countWays_67 rfl <| At.iloadn dX7_countWays_68 rfl <| At.aload dX7_countWays_69 rfl <| At.iload dX7_countWays_71 rfl <| ?_
      obtain ⟨q1, hq1, h⟩ := bnd_e h
      refine At.cV0 (av := [vi l1, vr l4, vi l5]) (rest := []) mv_X7_oneMore lk_X7_57 dX7_countWays_73 rfl rfl sh_51 (Nat.le_of_ble_eq_true rfl) (by decide) ⟨rfl, rfl⟩ (rX7_oneMore hl4 hq1) <| At.aloadn dX7_countWays_76 rfl <| At.dup rfl dX7_countWays_77 <| At.getL fl_X7_40 sh_51 (le149 sh_51) dX7_countWays_78 <| At.aloadn dX7_countWays_81 rfl <| At.getR fl_X7_18 sh_51 (le149 sh_51) rf_51_0 dX7_countWays_82 <| At.getR fl_X7_48 sh_30 (le149 sh_30) rf_30_0 dX7_countWays_85 <| At.getI fl_X7_52 sh_2 (le149 sh_2) dX7_countWays_88 <| At.i2l dX7_countWays_91 <| At.lmul dX7_countWays_92 <| ?_
      obtain ⟨S2, hS2, h⟩ := lt_e h
      refine At.putL fw_X7_40 sh_51 (le149 sh_51) dX7_countWays_93 <| At.nmS hS2 <| ?_
      obtain ⟨x3, hx3, h⟩ := lt_e h
      refine At.iinc (ls' := [(6, vi x3), (0, vr 51), (1, vi l1), (3, vi l3), (4, vr l4), (5, vi l5)]) dX7_countWays_96 rfl (by decide) (by rw [hx3]; rfl) <| At.goto (tgt := 61) dX7_countWays_99 (by decide) <| ?_
      exact At.sub [1, 2, 3, 4, 5, 0] rfl (ih _ _ _ h K102)
set_option maxRecDepth 100000 in
set_option maxHeartbeats 4000000 in
theorem rX7_countWays {G : GG} {p1 : Int} {p2 : Int} {p3 : Int} {p4 : Nat} {p5 : Int} {S : SS} {rr : SS} (hp4 : sh p4 = (6, 4)) (h : fX7_countWays p1 p2 p3 p4 p5 S = some rr) : RD G mX7_countWays 6 [vr 51, vi p1, vi p2, vi p3, vr p4, vi p5] S none rr := by
  unfold fX7_countWays at h
  refine Runs.of pl_X7 (Nat.le_of_ble_eq_true rfl) ?_
  show At G mX7_countWays 6 0 [(0, vr 51), (1, vi p1), (2, vi p2), (3, vi p3), (4, vr p4), (5, vi p5)] [] (mm S) 0 0 (EQ none rr)
  refine At.aloadn dX7_countWays_0 rfl <| At.getR fl_X7_18 sh_51 (le149 sh_51) rf_51_0 dX7_countWays_1 <| At.aload dX7_countWays_4 rfl <| At.getI fl_X7_22 hp4 (le149 hp4) dX7_countWays_6 <| ?_
  obtain ⟨q1, hq1, h⟩ := bnd_e h
  refine At.cV0 (av := [vi (S p4 3)]) (rest := []) mv_X5_settle lk_X7_28 dX7_countWays_9 rfl rfl sh_30 (Nat.le_of_ble_eq_true rfl) (by decide) ⟨rfl, rfl⟩ (rX5_settle hq1) <| At.aloadn dX7_countWays_12 rfl <| At.getR fl_X7_9 sh_51 (le149 sh_51) rf_51_1 dX7_countWays_13 <| At.lconst0 dX7_countWays_16 <| ?_
  obtain ⟨q2, hq2, h⟩ := bnd_e h
  refine At.cS0 (av := [vr 52, vl 0]) (rest := []) ms_J7_fill_d0a16 lk_X7_34 dX7_countWays_17 rfl rfl (Nat.le_of_ble_eq_true rfl) (by decide) ⟨rfl, rfl⟩ (rJ7_fill_d0a16_120 sh_52 hq2) <| At.aloadn dX7_countWays_20 rfl <| At.lconst1 dX7_countWays_21 <| ?_
  obtain ⟨S3, hS3, h⟩ := lt_e h
  refine At.putL fw_X7_40 sh_51 (le149 sh_51) dX7_countWays_22 <| At.nmS hS3 <| At.iloadn dX7_countWays_25 rfl <| ?_
  obtain ⟨q4, hq4, h⟩ := bnd_e h
  obtain ⟨q5, hj39, h⟩ := bnd_e h
  have K39 : At G mX7_countWays 6 39 [(0, vr 51), (1, vi p1), (3, vi p3), (4, vr p4), (5, vi p5)] [] (mm q5) 0 0 (EQ none rr) := by
    rcases ite_e h with ⟨c14, h⟩ | ⟨c14, h⟩
    · refine At.iload dX7_countWays_39 rfl <| At.if_eq_t (tgt := 58) dX7_countWays_41 (by decide) c14 <| ?_
      refine At.iconst dX7_countWays_58 (by decide) <| At.istore (ls' := [(6, vi 0), (0, vr 51), (1, vi p1), (3, vi p3), (4, vr p4), (5, vi p5)]) dX7_countWays_59 (by decide) rfl <| ?_
      obtain ⟨q9, ho10, h⟩ := bnd_e h
      refine At.sub [1, 2, 3, 4, 5, 0] rfl (lX7_countWays_L61 hp4 FU _ _ q9 ho10 ?_)
      obtain rfl := Option.some.inj h
      exact At.vret rfl (Nat.zero_le _) (Nat.zero_le _) ⟨rfl, rfl⟩ dX7_countWays_102
    · refine At.iload dX7_countWays_39 rfl <| At.if_eq_f (tgt := 58) dX7_countWays_41 (by decide) c14 <| ?_
      rcases ite_e h with ⟨c13, h⟩ | ⟨c13, h⟩
      · refine At.aloadn dX7_countWays_44 rfl <| At.getR fl_X7_18 sh_51 (le149 sh_51) rf_51_0 dX7_countWays_45 <| At.getR fl_X7_48 sh_30 (le149 sh_30) rf_30_0 dX7_countWays_48 <| At.getI fl_X7_52 sh_2 (le149 sh_2) dX7_countWays_51 <| At.if_ne_f (tgt := 58) dX7_countWays_54 (by decide) c13 <| ?_
        obtain rfl := Option.some.inj h
        exact At.vret rfl (Nat.zero_le _) (Nat.zero_le _) ⟨rfl, rfl⟩ dX7_countWays_57
      · refine At.aloadn dX7_countWays_44 rfl <| At.getR fl_X7_18 sh_51 (le149 sh_51) rf_51_0 dX7_countWays_45 <| At.getR fl_X7_48 sh_30 (le149 sh_30) rf_30_0 dX7_countWays_48 <| At.getI fl_X7_52 sh_2 (le149 sh_2) dX7_countWays_51 <| At.if_ne_t (tgt := 58) dX7_countWays_54 (by decide) c13 <| ?_
        refine At.iconst dX7_countWays_58 (by decide) <| At.istore (ls' := [(6, vi 0), (0, vr 51), (1, vi p1), (3, vi p3), (4, vr p4), (5, vi p5)]) dX7_countWays_59 (by decide) rfl <| ?_
        obtain ⟨q11, ho12, h⟩ := bnd_e h
        refine At.sub [1, 2, 3, 4, 5, 0] rfl (lX7_countWays_L61 hp4 FU _ _ q11 ho12 ?_)
        obtain rfl := Option.some.inj h
        exact At.vret rfl (Nat.zero_le _) (Nat.zero_le _) ⟨rfl, rfl⟩ dX7_countWays_102
  clear h; have h := hj39; clear hj39
  rcases ite_e h with ⟨c8, h⟩ | ⟨c8, h⟩
  · refine At.cS1 (av := [vi p2]) (rest := []) ms_X11_isSpot lk_X7_44 dX7_countWays_26 rfl rfl (Nat.le_of_ble_eq_true rfl) (by decide) ⟨rfl, rfl⟩ (rX11_isSpot hq4) <| At.bifeq_f (tgt := 39) dX7_countWays_29 (by decide) c8 <| ?_
    refine At.aloadn dX7_countWays_32 rfl <| At.getR fl_X7_9 sh_51 (le149 sh_51) rf_51_1 dX7_countWays_33 <| At.iloadn dX7_countWays_36 rfl <| At.lconst1 dX7_countWays_37 <| ?_
    obtain ⟨S6, hS6, g7, h⟩ := wrA_e h
    refine At.last sh_52 (le149 sh_52) g7.1 g7.2 dX7_countWays_38 <| At.nmS hS6 <| ?_
    obtain rfl := Option.some.inj h
    exact At.sub [0, 1, 3, 4, 5] rfl K39
  · refine At.cS1 (av := [vi p2]) (rest := []) ms_X11_isSpot lk_X7_44 dX7_countWays_26 rfl rfl (Nat.le_of_ble_eq_true rfl) (by decide) ⟨rfl, rfl⟩ (rX11_isSpot hq4) <| At.bifeq_t (tgt := 39) dX7_countWays_29 (by decide) c8 <| ?_
    obtain rfl := Option.some.inj h
    exact At.sub [0, 1, 3, 4, 5] rfl K39
def fX7_at_L5 (l1 : Int) (l2 : Int) (S : SS) : Nat → Int → Int → Option (Int)
  | 0, _, _ => none
  | n + 1, l3, l5 =>
    if 120 ≤ l5 then (
      some l3
    ) else (
      Option.bind (
        if (w32 (Int.tdiv l5 20)) = l1 then (
          if l2 = ((-1)) then (
            rdA S 52 120 l5 fun v2 =>
            lt (w64 (l3 + v2)) fun x4 =>
            some x4
          ) else (
            if (Int.tmod l5 20) = l2 then (
              rdA S 52 120 l5 fun v5 =>
              lt (w64 (l3 + v5)) fun x7 =>
              some x7
            ) else (
              some l3
            )
          )
        ) else (
          some l3
        )
        : Option (Int)) fun q1 =>
      lt (w32 (l5 + 1)) fun x11 =>
      fX7_at_L5 l1 l2 S n q1 x11
    )
def fX7_at (p1 : Int) (p2 : Int) (S : SS) : Option Int :=
  Option.bind (fX7_at_L5 p1 p2 S FU 0 0) fun q1 =>
  some q1
set_option maxRecDepth 100000 in
set_option maxHeartbeats 4000000 in
theorem lX7_at_L5 {G : GG} {Φ : Option VV → MM → Prop} {l1 : Int} {l2 : Int} {S : SS} : ∀ (n : Nat) (l3 : Int) (l5 : Int) (q : Int), fX7_at_L5 l1 l2 S n l3 l5 = some q → At G mX7_at 1 51 [(3, vl q)] [] (mm S) 0 0 Φ → At G mX7_at 1 5 [(0, vr 51), (1, vi l1), (2, vi l2), (3, vl l3), (5, vi l5)] [] (mm S) 0 0 Φ := by
  intro n
  induction n with
  | zero =>
    intro _ _ _ h
    cases h
  | succ n ih =>
    intro l3 l5 q h K51
    unfold fX7_at_L5 at h
    rcases ite_e h with ⟨c12, h⟩ | ⟨c12, h⟩
    · refine At.iload dX7_at_5 rfl <| At.bipush dX7_at_7 (by decide) <| At.icmp_ge_t (tgt := 51) dX7_at_9 (by decide) c12 <| ?_
      obtain rfl := Option.some.inj h
      exact At.sub [3] rfl K51
    · refine At.iload dX7_at_5 rfl <| At.bipush dX7_at_7 (by decide) <| At.icmp_ge_f (tgt := 51) dX7_at_9 (by decide) c12 <| ?_
      obtain ⟨q1, hj45, h⟩ := bnd_e h
      have K45 : At G mX7_at 1 45 [(0, vr 51), (1, vi l1), (2, vi l2), (3, vl q1), (5, vi l5)] [] (mm S) 0 0 Φ := by
        obtain ⟨x11, hx11, h⟩ := lt_e h
        refine At.iinc (ls' := [(5, vi x11), (0, vr 51), (1, vi l1), (2, vi l2), (3, vl q1)]) dX7_at_45 rfl (by decide) (by rw [hx11]; rfl) <| At.goto (tgt := 5) dX7_at_48 (by decide) <| ?_
        exact At.sub [1, 2, 3, 4, 0] rfl (ih _ _ _ h K51)
      clear h; have h := hj45; clear hj45
      rcases ite_e h with ⟨c10, h⟩ | ⟨c10, h⟩
      · refine At.iload dX7_at_12 rfl <| At.bipush dX7_at_14 (by decide) <| At.idiv dX7_at_16 (by decide) <| At.iloadn dX7_at_17 rfl <| At.icmp_ne_f (tgt := 45) dX7_at_18 (by decide) c10 <| ?_
        rcases ite_e h with ⟨c9, h⟩ | ⟨c9, h⟩
        · refine At.iloadn dX7_at_21 rfl <| At.iconst dX7_at_22 (by decide) <| At.icmp_eq_t (tgt := 35) dX7_at_23 (by decide) c9 <| ?_
          refine At.lloadn dX7_at_35 rfl <| At.aloadn dX7_at_36 rfl <| At.getR fl_X7_9 sh_51 (le149 sh_51) rf_51_1 dX7_at_37 <| At.iload dX7_at_40 rfl <| ?_
          obtain ⟨v2, hv2, g3, h⟩ := rdA_e h
          refine At.lald sh_52 (le149 sh_52) g3.1 g3.2 dX7_at_42 <| At.nml hv2 <| At.ladd dX7_at_43 <| ?_
          obtain ⟨x4, hx4, h⟩ := lt_e h
          refine At.nml hx4 <| At.lstoren (ls' := [(3, vl x4), (0, vr 51), (1, vi l1), (2, vi l2), (5, vi l5)]) dX7_at_44 (by decide) rfl <| ?_
          obtain rfl := Option.some.inj h
          exact At.sub [1, 2, 3, 0, 4] rfl K45
        · refine At.iloadn dX7_at_21 rfl <| At.iconst dX7_at_22 (by decide) <| At.icmp_eq_f (tgt := 35) dX7_at_23 (by decide) c9 <| ?_
          rcases ite_e h with ⟨c8, h⟩ | ⟨c8, h⟩
          · refine At.iload dX7_at_26 rfl <| At.bipush dX7_at_28 (by decide) <| At.irem dX7_at_30 (by decide) <| At.iloadn dX7_at_31 rfl <| At.icmp_ne_f (tgt := 45) dX7_at_32 (by decide) c8 <| ?_
            refine At.lloadn dX7_at_35 rfl <| At.aloadn dX7_at_36 rfl <| At.getR fl_X7_9 sh_51 (le149 sh_51) rf_51_1 dX7_at_37 <| At.iload dX7_at_40 rfl <| ?_
            obtain ⟨v5, hv5, g6, h⟩ := rdA_e h
            refine At.lald sh_52 (le149 sh_52) g6.1 g6.2 dX7_at_42 <| At.nml hv5 <| At.ladd dX7_at_43 <| ?_
            obtain ⟨x7, hx7, h⟩ := lt_e h
            refine At.nml hx7 <| At.lstoren (ls' := [(3, vl x7), (0, vr 51), (1, vi l1), (2, vi l2), (5, vi l5)]) dX7_at_44 (by decide) rfl <| ?_
            obtain rfl := Option.some.inj h
            exact At.sub [1, 2, 3, 0, 4] rfl K45
          · refine At.iload dX7_at_26 rfl <| At.bipush dX7_at_28 (by decide) <| At.irem dX7_at_30 (by decide) <| At.iloadn dX7_at_31 rfl <| At.icmp_ne_t (tgt := 45) dX7_at_32 (by decide) c8 <| ?_
            obtain rfl := Option.some.inj h
            exact At.sub [0, 1, 2, 3, 4] rfl K45
      · refine At.iload dX7_at_12 rfl <| At.bipush dX7_at_14 (by decide) <| At.idiv dX7_at_16 (by decide) <| At.iloadn dX7_at_17 rfl <| At.icmp_ne_t (tgt := 45) dX7_at_18 (by decide) c10 <| ?_
        obtain rfl := Option.some.inj h
        exact At.sub [0, 1, 2, 3, 4] rfl K45
set_option maxRecDepth 100000 in
set_option maxHeartbeats 4000000 in
theorem rX7_at {G : GG} {p1 : Int} {p2 : Int} {S : SS} {rr : Int} (h : fX7_at p1 p2 S = some rr) : RD G mX7_at 1 [vr 51, vi p1, vi p2] S (some (vl rr)) S := by
  unfold fX7_at at h
  refine Runs.of pl_X7 (Nat.le_of_ble_eq_true rfl) ?_
  show At G mX7_at 1 0 [(0, vr 51), (1, vi p1), (2, vi p2)] [] (mm S) 0 0 (EQ (some (vl rr)) S)
  refine At.lconst0 dX7_at_0 <| At.lstoren (ls' := [(3, vl 0), (0, vr 51), (1, vi p1), (2, vi p2)]) dX7_at_1 (by decide) rfl <| At.iconst dX7_at_2 (by decide) <| At.istore (ls' := [(5, vi 0), (3, vl 0), (0, vr 51), (1, vi p1), (2, vi p2)]) dX7_at_3 (by decide) rfl <| ?_
  obtain ⟨q1, ho2, h⟩ := bnd_e h
  refine At.sub [2, 3, 4, 1, 0] rfl (lX7_at_L5 FU _ _ q1 ho2 ?_)
  refine At.lloadn dX7_at_51 rfl <| ?_
  obtain rfl := Option.some.inj h
  exact At.lret rfl (Nat.zero_le _) (Nat.zero_le _) ⟨rfl, rfl⟩ dX7_at_52
def fX11_rows (p1 : Int) (p2 : Int) (p3 : Int) (p4 : Int) (S : SS) : Option (Int × SS) :=
  Option.bind (fX11_refusesComing p1 p2 p3 S) fun q1 =>
  if q1 = 0 then (
    if p4 < 0 then (
      some ((-3), S)
    ) else (
      if p4 ≤ 12 then (
        Option.bind (fX6_spotOf 7 p1 S) fun q2 =>
        Option.bind (fX7_countWays p1 q2 p4 7 0 S) fun q3 =>
        Option.bind (fX7_at p2 p3 q3) fun q4 =>
        some (q4, q3)
      ) else (
        some ((-3), S)
      )
    )
  ) else (
    some (q1, S)
  )
set_option maxRecDepth 100000 in
set_option maxHeartbeats 4000000 in
theorem rX11_rows {G : GG} {p1 : Int} {p2 : Int} {p3 : Int} {p4 : Int} {S : SS} {rr : (Int × SS)} (h : fX11_rows p1 p2 p3 p4 S = some rr) : RD G mX11_rows 7 [vr 1, vi p1, vi p2, vi p3, vi p4] S (some (vl rr.1)) rr.2 := by
  unfold fX11_rows at h
  refine Runs.of pl_X11 (Nat.le_of_ble_eq_true rfl) ?_
  show At G mX11_rows 7 0 [(0, vr 1), (1, vi p1), (2, vi p2), (3, vi p3), (4, vi p4)] [] (mm S) 0 0 (EQ (some (vl rr.1)) rr.2)
  refine At.aloadn dX11_rows_0 rfl <| At.iloadn dX11_rows_1 rfl <| At.iloadn dX11_rows_2 rfl <| At.iloadn dX11_rows_3 rfl <| ?_
  obtain ⟨q1, hq1, h⟩ := bnd_e h
  rcases ite_e h with ⟨c7, h⟩ | ⟨c7, h⟩
  · refine At.cV1 (av := [vi p1, vi p2, vi p3]) (rest := []) mv_X11_refusesComing lk_X11_229 dX11_rows_4 rfl rfl sh_1 (Nat.le_of_ble_eq_true rfl) (by decide) ⟨rfl, rfl⟩ (rX11_refusesComing hq1) <| At.istore (ls' := [(5, vi q1), (0, vr 1), (1, vi p1), (2, vi p2), (3, vi p3), (4, vi p4)]) dX11_rows_7 (by decide) rfl <| At.iload dX11_rows_9 rfl <| At.if_eq_t (tgt := 18) dX11_rows_11 (by decide) c7 <| ?_
    rcases ite_e h with ⟨c6, h⟩ | ⟨c6, h⟩
    · refine At.iload dX11_rows_18 rfl <| At.if_lt_t (tgt := 30) dX11_rows_20 (by decide) c6 <| ?_
      refine At.ldc2 dX11_rows_30 kl_X11_243 (by decide) <| ?_
      obtain rfl := Option.some.inj h
      exact At.lret rfl (Nat.zero_le _) (Nat.zero_le _) ⟨rfl, rfl⟩ dX11_rows_33
    · refine At.iload dX11_rows_18 rfl <| At.if_lt_f (tgt := 30) dX11_rows_20 (by decide) c6 <| ?_
      rcases ite_e h with ⟨c5, h⟩ | ⟨c5, h⟩
      · refine At.iload dX11_rows_23 rfl <| At.bipush dX11_rows_25 (by decide) <| At.icmp_le_t (tgt := 34) dX11_rows_27 (by decide) c5 <| ?_
        refine At.aloadn dX11_rows_34 rfl <| At.getR fl_X11_72 sh_1 (le149 sh_1) rf_1_9 dX11_rows_35 <| At.iloadn dX11_rows_38 rfl <| At.aloadn dX11_rows_39 rfl <| At.getR fl_X11_20 sh_1 (le149 sh_1) rf_1_1 dX11_rows_40 <| At.iloadn dX11_rows_43 rfl <| ?_
        obtain ⟨q2, hq2, h⟩ := bnd_e h
        refine At.cV1 (av := [vi p1]) (rest := [vi p1, vr 51]) mv_X6_spotOf lk_X11_163 dX11_rows_44 rfl rfl sh_7 (Nat.le_of_ble_eq_true rfl) (by decide) ⟨rfl, rfl⟩ (rX6_spotOf sh_7 hq2) <| At.iload dX11_rows_47 rfl <| At.aloadn dX11_rows_49 rfl <| At.getR fl_X11_20 sh_1 (le149 sh_1) rf_1_1 dX11_rows_50 <| At.iconst dX11_rows_53 (by decide) <| ?_
        obtain ⟨q3, hq3, h⟩ := bnd_e h
        refine At.cV0 (av := [vi p1, vi q2, vi p4, vr 7, vi 0]) (rest := []) mv_X7_countWays lk_X11_245 dX11_rows_54 rfl rfl sh_51 (Nat.le_of_ble_eq_true rfl) (by decide) ⟨rfl, rfl⟩ (rX7_countWays sh_7 hq3) <| At.aloadn dX11_rows_57 rfl <| At.getR fl_X11_72 sh_1 (le149 sh_1) rf_1_9 dX11_rows_58 <| At.iloadn dX11_rows_61 rfl <| At.iloadn dX11_rows_62 rfl <| ?_
        obtain ⟨q4, hq4, h⟩ := bnd_e h
        refine At.cV1 (av := [vi p2, vi p3]) (rest := []) mv_X7_at lk_X11_249 dX11_rows_63 rfl rfl sh_51 (Nat.le_of_ble_eq_true rfl) (by decide) ⟨rfl, rfl⟩ (rX7_at hq4) <| ?_
        obtain rfl := Option.some.inj h
        exact At.lret rfl (Nat.zero_le _) (Nat.zero_le _) ⟨rfl, rfl⟩ dX11_rows_66
      · refine At.iload dX11_rows_23 rfl <| At.bipush dX11_rows_25 (by decide) <| At.icmp_le_f (tgt := 34) dX11_rows_27 (by decide) c5 <| ?_
        refine At.ldc2 dX11_rows_30 kl_X11_243 (by decide) <| ?_
        obtain rfl := Option.some.inj h
        exact At.lret rfl (Nat.zero_le _) (Nat.zero_le _) ⟨rfl, rfl⟩ dX11_rows_33
  · refine At.cV1 (av := [vi p1, vi p2, vi p3]) (rest := []) mv_X11_refusesComing lk_X11_229 dX11_rows_4 rfl rfl sh_1 (Nat.le_of_ble_eq_true rfl) (by decide) ⟨rfl, rfl⟩ (rX11_refusesComing hq1) <| At.istore (ls' := [(5, vi q1), (0, vr 1), (1, vi p1), (2, vi p2), (3, vi p3), (4, vi p4)]) dX11_rows_7 (by decide) rfl <| At.iload dX11_rows_9 rfl <| At.if_eq_f (tgt := 18) dX11_rows_11 (by decide) c7 <| ?_
    refine At.iload dX11_rows_14 rfl <| At.i2l dX11_rows_16 <| ?_
    obtain rfl := Option.some.inj h
    exact At.lret rfl (Nat.zero_le _) (Nat.zero_le _) ⟨rfl, rfl⟩ dX11_rows_17
def fX11_when_L50 (l2 : Int) (S : SS) : Nat → Int → Int → Option (Int)
  | 0, _, _ => none
  | n + 1, l3, l4 =>
    if 20 ≤ l4 then (
      some l3
    ) else (
      Option.bind (fX10_goingsTo 35 (w32 ((w32 (l2 * 20)) + l4)) S) fun q1 =>
      Option.bind (
        if q1 = ((-1)) then (
          some l3
        ) else (
          lt (jor l3 (jshl 1 l4)) fun x3 =>
          some x3
        )
        : Option (Int)) fun q2 =>
      lt (w32 (l4 + 1)) fun x5 =>
      fX11_when_L50 l2 S n q2 x5
    )
def fX11_when (p1 : Int) (p2 : Int) (S : SS) : Option (Int × SS) :=
  Option.bind (fX8_hasGoer 2 p1 S) fun q1 =>
  if q1 = true then (
    Option.bind (fX8_hasCorner 2 p2 S) fun q2 =>
    if q2 = true then (
      Option.bind (fX6_spotOf 7 p1 S) fun q3 =>
      Option.bind (fX10_spread 35 p1 q3 7 S) fun q4 =>
      Option.bind (fX11_when_L50 p2 q4 FU 0 0) fun q5 =>
      some (q5, q4)
    ) else (
      some ((-2), S)
    )
  ) else (
    some ((-2), S)
  )
set_option maxRecDepth 100000 in
set_option maxHeartbeats 4000000 in
theorem lX11_when_L50 {G : GG} {Φ : Option VV → MM → Prop} {l2 : Int} {S : SS} : ∀ (n : Nat) (l3 : Int) (l4 : Int) (q : Int), fX11_when_L50 l2 S n l3 l4 = some q → At G mX11_when 6 88 [(3, vi q)] [] (mm S) 0 0 Φ → At G mX11_when 6 50 [(0, vr 1), (2, vi l2), (3, vi l3), (4, vi l4)] [] (mm S) 0 0 Φ := by
  intro n
  induction n with
  | zero =>
    intro _ _ _ h
    cases h
  | succ n ih =>
    intro l3 l4 q h K88
    unfold fX11_when_L50 at h
    rcases ite_e h with ⟨c6, h⟩ | ⟨c6, h⟩
    · refine At.iload dX11_when_50 rfl <| At.bipush dX11_when_52 (by decide) <| At.icmp_ge_t (tgt := 88) dX11_when_54 (by decide) c6 <| ?_
      obtain rfl := Option.some.inj h
      exact At.sub [2] rfl K88
    · refine At.iload dX11_when_50 rfl <| At.bipush dX11_when_52 (by decide) <| At.icmp_ge_f (tgt := 88) dX11_when_54 (by decide) c6 <| ?_
      refine At.aloadn dX11_when_57 rfl <| At.getR fl_X11_62 sh_1 (le149 sh_1) rf_1_7 dX11_when_58 <| At.iloadn dX11_when_61 rfl <| At.bipush dX11_when_62 (by decide) <| At.imul dX11_when_64 <| At.iload dX11_when_65 rfl <| At.iadd dX11_when_67 <| ?_
      obtain ⟨q1, hq1, h⟩ := bnd_e h
      obtain ⟨q2, hj82, h⟩ := bnd_e h
      have K82 : At G mX11_when 6 82 [(0, vr 1), (2, vi l2), (3, vi q2), (4, vi l4)] [] (mm S) 0 0 Φ := by
        obtain ⟨x5, hx5, h⟩ := lt_e h
        refine At.iinc (ls' := [(4, vi x5), (0, vr 1), (2, vi l2), (3, vi q2)]) dX11_when_82 rfl (by decide) (by rw [hx5]; rfl) <| At.goto (tgt := 50) dX11_when_85 (by decide) <| ?_
        exact At.sub [1, 2, 3, 0] rfl (ih _ _ _ h K88)
      clear h; have h := hj82; clear hj82
      rcases ite_e h with ⟨c4, h⟩ | ⟨c4, h⟩
      · refine At.cV1 (av := [vi (w32 ((w32 (l2 * 20)) + l4))]) (rest := []) mv_X10_goingsTo lk_X11_236 dX11_when_68 rfl rfl sh_35 (Nat.le_of_ble_eq_true rfl) (by decide) ⟨rfl, rfl⟩ (rX10_goingsTo sh_35 hq1) <| At.iconst dX11_when_71 (by decide) <| At.icmp_eq_t (tgt := 82) dX11_when_72 (by decide) c4 <| ?_
        obtain rfl := Option.some.inj h
        exact At.sub [0, 1, 2, 3] rfl K82
      · refine At.cV1 (av := [vi (w32 ((w32 (l2 * 20)) + l4))]) (rest := []) mv_X10_goingsTo lk_X11_236 dX11_when_68 rfl rfl sh_35 (Nat.le_of_ble_eq_true rfl) (by decide) ⟨rfl, rfl⟩ (rX10_goingsTo sh_35 hq1) <| At.iconst dX11_when_71 (by decide) <| At.icmp_eq_f (tgt := 82) dX11_when_72 (by decide) c4 <| ?_
        refine At.iloadn dX11_when_75 rfl <| At.iconst dX11_when_76 (by decide) <| At.iload dX11_when_77 rfl <| At.ishl dX11_when_79 <| At.ior dX11_when_80 <| ?_
        obtain ⟨x3, hx3, h⟩ := lt_e h
        refine At.nm hx3 <| At.istoren (ls' := [(3, vi x3), (0, vr 1), (2, vi l2), (4, vi l4)]) dX11_when_81 (by decide) rfl <| ?_
        obtain rfl := Option.some.inj h
        exact At.sub [1, 2, 0, 3] rfl K82
set_option maxRecDepth 100000 in
set_option maxHeartbeats 4000000 in
theorem rX11_when {G : GG} {p1 : Int} {p2 : Int} {S : SS} {rr : (Int × SS)} (h : fX11_when p1 p2 S = some rr) : RD G mX11_when 6 [vr 1, vi p1, vi p2] S (some (vi rr.1)) rr.2 := by
  unfold fX11_when at h
  refine Runs.of pl_X11 (Nat.le_of_ble_eq_true rfl) ?_
  show At G mX11_when 6 0 [(0, vr 1), (1, vi p1), (2, vi p2)] [] (mm S) 0 0 (EQ (some (vi rr.1)) rr.2)
  refine At.aloadn dX11_when_0 rfl <| At.getR fl_X11_12 sh_1 (le149 sh_1) rf_1_0 dX11_when_1 <| At.iloadn dX11_when_4 rfl <| ?_
  obtain ⟨q1, hq1, h⟩ := bnd_e h
  rcases ite_e h with ⟨c8, h⟩ | ⟨c8, h⟩
  · refine At.cV1 (av := [vi p1]) (rest := []) mv_X8_hasGoer lk_X11_148 dX11_when_5 rfl rfl sh_2 (Nat.le_of_ble_eq_true rfl) (by decide) ⟨rfl, rfl⟩ (rX8_hasGoer sh_2 hq1) <| At.bifeq_f (tgt := 22) dX11_when_8 (by decide) c8 <| ?_
    refine At.aloadn dX11_when_11 rfl <| At.getR fl_X11_12 sh_1 (le149 sh_1) rf_1_0 dX11_when_12 <| At.iloadn dX11_when_15 rfl <| ?_
    obtain ⟨q2, hq2, h⟩ := bnd_e h
    rcases ite_e h with ⟨c7, h⟩ | ⟨c7, h⟩
    · refine At.cV1 (av := [vi p2]) (rest := []) mv_X8_hasCorner lk_X11_253 dX11_when_16 rfl rfl sh_2 (Nat.le_of_ble_eq_true rfl) (by decide) ⟨rfl, rfl⟩ (rX8_hasCorner sh_2 hq2) <| At.bifne_t (tgt := 25) dX11_when_19 (by decide) c7 <| ?_
      refine At.aloadn dX11_when_25 rfl <| At.getR fl_X11_62 sh_1 (le149 sh_1) rf_1_7 dX11_when_26 <| At.iloadn dX11_when_29 rfl <| At.aloadn dX11_when_30 rfl <| At.getR fl_X11_20 sh_1 (le149 sh_1) rf_1_1 dX11_when_31 <| At.iloadn dX11_when_34 rfl <| ?_
      obtain ⟨q3, hq3, h⟩ := bnd_e h
      refine At.cV1 (av := [vi p1]) (rest := [vi p1, vr 35]) mv_X6_spotOf lk_X11_163 dX11_when_35 rfl rfl sh_7 (Nat.le_of_ble_eq_true rfl) (by decide) ⟨rfl, rfl⟩ (rX6_spotOf sh_7 hq3) <| At.aloadn dX11_when_38 rfl <| At.getR fl_X11_20 sh_1 (le149 sh_1) rf_1_1 dX11_when_39 <| ?_
      obtain ⟨q4, hq4, h⟩ := bnd_e h
      refine At.cV0 (av := [vi p1, vi q3, vr 7]) (rest := []) mv_X10_spread lk_X11_256 dX11_when_42 rfl rfl sh_35 (Nat.le_of_ble_eq_true rfl) (by decide) ⟨rfl, rfl⟩ (rX10_spread sh_35 sh_7 hq4) <| At.iconst dX11_when_45 (by decide) <| At.istoren (ls' := [(3, vi 0), (0, vr 1), (1, vi p1), (2, vi p2)]) dX11_when_46 (by decide) rfl <| At.iconst dX11_when_47 (by decide) <| At.istore (ls' := [(4, vi 0), (3, vi 0), (0, vr 1), (1, vi p1), (2, vi p2)]) dX11_when_48 (by decide) rfl <| ?_
      obtain ⟨q5, ho6, h⟩ := bnd_e h
      refine At.sub [2, 4, 1, 0] rfl (lX11_when_L50 FU _ _ q5 ho6 ?_)
      refine At.iloadn dX11_when_88 rfl <| ?_
      obtain rfl := Option.some.inj h
      exact At.iret rfl (Nat.zero_le _) (Nat.zero_le _) ⟨rfl, rfl⟩ dX11_when_89
    · refine At.cV1 (av := [vi p2]) (rest := []) mv_X8_hasCorner lk_X11_253 dX11_when_16 rfl rfl sh_2 (Nat.le_of_ble_eq_true rfl) (by decide) ⟨rfl, rfl⟩ (rX8_hasCorner sh_2 hq2) <| At.bifne_f (tgt := 25) dX11_when_19 (by decide) c7 <| ?_
      refine At.bipush dX11_when_22 (by decide) <| ?_
      obtain rfl := Option.some.inj h
      exact At.iret rfl (Nat.zero_le _) (Nat.zero_le _) ⟨rfl, rfl⟩ dX11_when_24
  · refine At.cV1 (av := [vi p1]) (rest := []) mv_X8_hasGoer lk_X11_148 dX11_when_5 rfl rfl sh_2 (Nat.le_of_ble_eq_true rfl) (by decide) ⟨rfl, rfl⟩ (rX8_hasGoer sh_2 hq1) <| At.bifeq_t (tgt := 22) dX11_when_8 (by decide) c8 <| ?_
    refine At.bipush dX11_when_22 (by decide) <| ?_
    obtain rfl := Option.some.inj h
    exact At.iret rfl (Nat.zero_le _) (Nat.zero_le _) ⟨rfl, rfl⟩ dX11_when_24
def fX10_spotAt (t : Nat) (p1 : Int) (S : SS) : Option Int :=
  if p1 < 0 then (
    some ((-1))
  ) else (
    if (S t 8) ≤ p1 then (
      some ((-1))
    ) else (
      if 120 ≤ p1 then (
        some ((-1))
      ) else (
        rdA S (t + 1) 120 p1 fun v1 =>
        some v1
      )
    )
  )
set_option maxRecDepth 100000 in
set_option maxHeartbeats 4000000 in
theorem rX10_spotAt {G : GG} {t : Nat} {p1 : Int} {S : SS} {rr : Int} (ht : sh t = (10, 10)) (h : fX10_spotAt t p1 S = some rr) : RD G mX10_spotAt 1 [vr t, vi p1] S (some (vi rr)) S := by
  unfold fX10_spotAt at h
  refine Runs.of pl_X10 (Nat.le_of_ble_eq_true rfl) ?_
  show At G mX10_spotAt 1 0 [(0, vr t), (1, vi p1)] [] (mm S) 0 0 (EQ (some (vi rr)) S)
  rcases ite_e h with ⟨c5, h⟩ | ⟨c5, h⟩
  · refine At.iloadn dX10_spotAt_0 rfl <| At.if_lt_t (tgt := 27) dX10_spotAt_1 (by decide) c5 <| ?_
    refine At.iconst dX10_spotAt_27 (by decide) <| ?_
    obtain rfl := Option.some.inj h
    exact At.iret rfl (Nat.zero_le _) (Nat.zero_le _) ⟨rfl, rfl⟩ dX10_spotAt_28
  · refine At.iloadn dX10_spotAt_0 rfl <| At.if_lt_f (tgt := 27) dX10_spotAt_1 (by decide) c5 <| ?_
    rcases ite_e h with ⟨c4, h⟩ | ⟨c4, h⟩
    · refine At.iloadn dX10_spotAt_4 rfl <| At.aloadn dX10_spotAt_5 rfl <| At.getI fl_X10_47 ht (le149 ht) dX10_spotAt_6 <| At.icmp_ge_t (tgt := 27) dX10_spotAt_9 (by decide) c4 <| ?_
      refine At.iconst dX10_spotAt_27 (by decide) <| ?_
      obtain rfl := Option.some.inj h
      exact At.iret rfl (Nat.zero_le _) (Nat.zero_le _) ⟨rfl, rfl⟩ dX10_spotAt_28
    · refine At.iloadn dX10_spotAt_4 rfl <| At.aloadn dX10_spotAt_5 rfl <| At.getI fl_X10_47 ht (le149 ht) dX10_spotAt_6 <| At.icmp_ge_f (tgt := 27) dX10_spotAt_9 (by decide) c4 <| ?_
      rcases ite_e h with ⟨c3, h⟩ | ⟨c3, h⟩
      · refine At.iloadn dX10_spotAt_12 rfl <| At.bipush dX10_spotAt_13 (by decide) <| At.icmp_ge_t (tgt := 27) dX10_spotAt_15 (by decide) c3 <| ?_
        refine At.iconst dX10_spotAt_27 (by decide) <| ?_
        obtain rfl := Option.some.inj h
        exact At.iret rfl (Nat.zero_le _) (Nat.zero_le _) ⟨rfl, rfl⟩ dX10_spotAt_28
      · refine At.iloadn dX10_spotAt_12 rfl <| At.bipush dX10_spotAt_13 (by decide) <| At.icmp_ge_f (tgt := 27) dX10_spotAt_15 (by decide) c3 <| ?_
        refine At.aloadn dX10_spotAt_18 rfl <| At.getR fl_X10_9 ht (le149 ht) (rfO_10_1 ht) dX10_spotAt_19 <| At.iloadn dX10_spotAt_22 rfl <| ?_
        obtain ⟨v1, hv1, g2, h⟩ := rdA_e h
        refine At.iald (shO_10_1 ht) (le149 (shO_10_1 ht)) g2.1 g2.2 dX10_spotAt_23 <| At.nm hv1 <| At.goto (tgt := 28) dX10_spotAt_24 (by decide) <| ?_
        obtain rfl := Option.some.inj h
        exact At.iret rfl (Nat.zero_le _) (Nat.zero_le _) ⟨rfl, rfl⟩ dX10_spotAt_28
def fX11_bound_L55 (l2 : Int) (S : SS) : Nat → Int → Int → Option (Int)
  | 0, _, _ => none
  | n + 1, l3, l4 =>
    if (S 35 8) ≤ l4 then (
      some l3
    ) else (
      Option.bind (fX10_spotAt 35 l4 S) fun q1 =>
      lt (Int.tmod q1 20) fun x2 =>
      Option.bind (
        if l2 = 0 then (
          lt (if x2 < l3 then x2 else l3) fun x4 =>
          some x4
        ) else (
          lt (if l3 < x2 then x2 else l3) fun x5 =>
          some x5
        )
        : Option (Int)) fun q3 =>
      lt (w32 (l4 + 1)) fun x7 =>
      fX11_bound_L55 l2 S n q3 x7
    )
def fX11_bound (p1 : Int) (p2 : Int) (S : SS) : Option (Int × SS) :=
  Option.bind (fX8_hasGoer 2 p1 S) fun q1 =>
  if q1 = true then (
    if p2 < 0 then (
      some ((-2), S)
    ) else (
      if p2 ≤ 1 then (
        Option.bind (fX6_spotOf 7 p1 S) fun q2 =>
        Option.bind (fX10_spread 35 p1 q2 7 S) fun q3 =>
        Option.bind (fX6_yearOf 7 p1 q3) fun q4 =>
        Option.bind (fX11_bound_L55 p2 q3 FU q4 0) fun q5 =>
        some (q5, q3)
      ) else (
        some ((-2), S)
      )
    )
  ) else (
    some ((-2), S)
  )
set_option maxRecDepth 100000 in
set_option maxHeartbeats 4000000 in
theorem lX11_bound_L55 {G : GG} {Φ : Option VV → MM → Prop} {l2 : Int} {S : SS} : ∀ (n : Nat) (l3 : Int) (l4 : Int) (q : Int), fX11_bound_L55 l2 S n l3 l4 = some q → At G mX11_bound 6 107 [(3, vi q)] [] (mm S) 0 0 Φ → At G mX11_bound 6 55 [(0, vr 1), (2, vi l2), (3, vi l3), (4, vi l4)] [] (mm S) 0 0 Φ := by
  intro n
  induction n with
  | zero =>
    intro _ _ _ h
    cases h
  | succ n ih =>
    intro l3 l4 q h K107
    unfold fX11_bound_L55 at h
    rcases ite_e h with ⟨c8, h⟩ | ⟨c8, h⟩
    · refine At.iload dX11_bound_55 rfl <| At.aloadn dX11_bound_57 rfl <| At.getR fl_X11_62 sh_1 (le149 sh_1) rf_1_7 dX11_bound_58 <| At.getI fl_X11_260 sh_35 (le149 sh_35) dX11_bound_61 <| At.icmp_ge_t (tgt := 107) dX11_bound_64 (by decide) c8 <| ?_
      obtain rfl := Option.some.inj h
      exact At.sub [2] rfl K107
    · refine At.iload dX11_bound_55 rfl <| At.aloadn dX11_bound_57 rfl <| At.getR fl_X11_62 sh_1 (le149 sh_1) rf_1_7 dX11_bound_58 <| At.getI fl_X11_260 sh_35 (le149 sh_35) dX11_bound_61 <| At.icmp_ge_f (tgt := 107) dX11_bound_64 (by decide) c8 <| ?_
      refine At.aloadn dX11_bound_67 rfl <| At.getR fl_X11_62 sh_1 (le149 sh_1) rf_1_7 dX11_bound_68 <| At.iload dX11_bound_71 rfl <| ?_
      obtain ⟨q1, hq1, h⟩ := bnd_e h
      refine At.cV1 (av := [vi l4]) (rest := []) mv_X10_spotAt lk_X11_263 dX11_bound_73 rfl rfl sh_35 (Nat.le_of_ble_eq_true rfl) (by decide) ⟨rfl, rfl⟩ (rX10_spotAt sh_35 hq1) <| At.bipush dX11_bound_76 (by decide) <| At.irem dX11_bound_78 (by decide) <| ?_
      obtain ⟨x2, hx2, h⟩ := lt_e h
      obtain ⟨q3, hj100, h⟩ := bnd_e h
      have K100 : At G mX11_bound 6 100 [(0, vr 1), (2, vi l2), (4, vi l4)] [vi q3] (mm S) 0 0 Φ := by
        refine At.istoren (ls' := [(3, vi q3), (0, vr 1), (2, vi l2), (4, vi l4)]) dX11_bound_100 (by decide) rfl <| ?_
        obtain ⟨x7, hx7, h⟩ := lt_e h
        refine At.iinc (ls' := [(4, vi x7), (3, vi q3), (0, vr 1), (2, vi l2)]) dX11_bound_101 rfl (by decide) (by rw [hx7]; rfl) <| At.goto (tgt := 55) dX11_bound_104 (by decide) <| ?_
        exact At.sub [2, 3, 1, 0] rfl (ih _ _ _ h K107)
      clear h; have h := hj100; clear hj100
      rcases ite_e h with ⟨c6, h⟩ | ⟨c6, h⟩
      · refine At.nm hx2 <| At.istore (ls' := [(5, vi x2), (0, vr 1), (2, vi l2), (3, vi l3), (4, vi l4)]) dX11_bound_79 (by decide) rfl <| At.iloadn dX11_bound_81 rfl <| At.if_ne_f (tgt := 94) dX11_bound_82 (by decide) c6 <| ?_
        refine At.iloadn dX11_bound_85 rfl <| At.iload dX11_bound_86 rfl <| ?_
        obtain ⟨x4, hx4, h⟩ := lt_e h
        refine At.mmin ln_X11_266 (Nat.le_of_ble_eq_true rfl) (by decide) dX11_bound_88 <| At.nm hx4 <| At.goto (tgt := 100) dX11_bound_91 (by decide) <| ?_
        obtain rfl := Option.some.inj h
        exact At.sub [1, 2, 4] rfl K100
      · refine At.nm hx2 <| At.istore (ls' := [(5, vi x2), (0, vr 1), (2, vi l2), (3, vi l3), (4, vi l4)]) dX11_bound_79 (by decide) rfl <| At.iloadn dX11_bound_81 rfl <| At.if_ne_t (tgt := 94) dX11_bound_82 (by decide) c6 <| ?_
        refine At.iloadn dX11_bound_94 rfl <| At.iload dX11_bound_95 rfl <| ?_
        obtain ⟨x5, hx5, h⟩ := lt_e h
        refine At.mmax ln_X11_271 (Nat.le_of_ble_eq_true rfl) (by decide) dX11_bound_97 <| At.nm hx5 <| ?_
        obtain rfl := Option.some.inj h
        exact At.sub [1, 2, 4] rfl K100
set_option maxRecDepth 100000 in
set_option maxHeartbeats 4000000 in
theorem rX11_bound {G : GG} {p1 : Int} {p2 : Int} {S : SS} {rr : (Int × SS)} (h : fX11_bound p1 p2 S = some rr) : RD G mX11_bound 6 [vr 1, vi p1, vi p2] S (some (vi rr.1)) rr.2 := by
  unfold fX11_bound at h
  refine Runs.of pl_X11 (Nat.le_of_ble_eq_true rfl) ?_
  show At G mX11_bound 6 0 [(0, vr 1), (1, vi p1), (2, vi p2)] [] (mm S) 0 0 (EQ (some (vi rr.1)) rr.2)
  refine At.aloadn dX11_bound_0 rfl <| At.getR fl_X11_12 sh_1 (le149 sh_1) rf_1_0 dX11_bound_1 <| At.iloadn dX11_bound_4 rfl <| ?_
  obtain ⟨q1, hq1, h⟩ := bnd_e h
  rcases ite_e h with ⟨c9, h⟩ | ⟨c9, h⟩
  · refine At.cV1 (av := [vi p1]) (rest := []) mv_X8_hasGoer lk_X11_148 dX11_bound_5 rfl rfl sh_2 (Nat.le_of_ble_eq_true rfl) (by decide) ⟨rfl, rfl⟩ (rX8_hasGoer sh_2 hq1) <| At.bifeq_f (tgt := 20) dX11_bound_8 (by decide) c9 <| ?_
    rcases ite_e h with ⟨c8, h⟩ | ⟨c8, h⟩
    · refine At.iloadn dX11_bound_11 rfl <| At.if_lt_t (tgt := 20) dX11_bound_12 (by decide) c8 <| ?_
      refine At.bipush dX11_bound_20 (by decide) <| ?_
      obtain rfl := Option.some.inj h
      exact At.iret rfl (Nat.zero_le _) (Nat.zero_le _) ⟨rfl, rfl⟩ dX11_bound_22
    · refine At.iloadn dX11_bound_11 rfl <| At.if_lt_f (tgt := 20) dX11_bound_12 (by decide) c8 <| ?_
      rcases ite_e h with ⟨c7, h⟩ | ⟨c7, h⟩
      · refine At.iloadn dX11_bound_15 rfl <| At.iconst dX11_bound_16 (by decide) <| At.icmp_le_t (tgt := 23) dX11_bound_17 (by decide) c7 <| ?_
        refine At.aloadn dX11_bound_23 rfl <| At.getR fl_X11_62 sh_1 (le149 sh_1) rf_1_7 dX11_bound_24 <| At.iloadn dX11_bound_27 rfl <| At.aloadn dX11_bound_28 rfl <| At.getR fl_X11_20 sh_1 (le149 sh_1) rf_1_1 dX11_bound_29 <| At.iloadn dX11_bound_32 rfl <| ?_
        obtain ⟨q2, hq2, h⟩ := bnd_e h
        refine At.cV1 (av := [vi p1]) (rest := [vi p1, vr 35]) mv_X6_spotOf lk_X11_163 dX11_bound_33 rfl rfl sh_7 (Nat.le_of_ble_eq_true rfl) (by decide) ⟨rfl, rfl⟩ (rX6_spotOf sh_7 hq2) <| At.aloadn dX11_bound_36 rfl <| At.getR fl_X11_20 sh_1 (le149 sh_1) rf_1_1 dX11_bound_37 <| ?_
        obtain ⟨q3, hq3, h⟩ := bnd_e h
        refine At.cV0 (av := [vi p1, vi q2, vr 7]) (rest := []) mv_X10_spread lk_X11_256 dX11_bound_40 rfl rfl sh_35 (Nat.le_of_ble_eq_true rfl) (by decide) ⟨rfl, rfl⟩ (rX10_spread sh_35 sh_7 hq3) <| At.aloadn dX11_bound_43 rfl <| At.getR fl_X11_20 sh_1 (le149 sh_1) rf_1_1 dX11_bound_44 <| At.iloadn dX11_bound_47 rfl <| ?_
        obtain ⟨q4, hq4, h⟩ := bnd_e h
        refine At.cV1 (av := [vi p1]) (rest := []) mv_X6_yearOf lk_X11_154 dX11_bound_48 rfl rfl sh_7 (Nat.le_of_ble_eq_true rfl) (by decide) ⟨rfl, rfl⟩ (rX6_yearOf sh_7 hq4) <| At.istoren (ls' := [(3, vi q4), (0, vr 1), (1, vi p1), (2, vi p2)]) dX11_bound_51 (by decide) rfl <| At.iconst dX11_bound_52 (by decide) <| At.istore (ls' := [(4, vi 0), (3, vi q4), (0, vr 1), (1, vi p1), (2, vi p2)]) dX11_bound_53 (by decide) rfl <| ?_
        obtain ⟨q5, ho6, h⟩ := bnd_e h
        refine At.sub [2, 4, 1, 0] rfl (lX11_bound_L55 FU _ _ q5 ho6 ?_)
        refine At.iloadn dX11_bound_107 rfl <| ?_
        obtain rfl := Option.some.inj h
        exact At.iret rfl (Nat.zero_le _) (Nat.zero_le _) ⟨rfl, rfl⟩ dX11_bound_108
      · refine At.iloadn dX11_bound_15 rfl <| At.iconst dX11_bound_16 (by decide) <| At.icmp_le_f (tgt := 23) dX11_bound_17 (by decide) c7 <| ?_
        refine At.bipush dX11_bound_20 (by decide) <| ?_
        obtain rfl := Option.some.inj h
        exact At.iret rfl (Nat.zero_le _) (Nat.zero_le _) ⟨rfl, rfl⟩ dX11_bound_22
  · refine At.cV1 (av := [vi p1]) (rest := []) mv_X8_hasGoer lk_X11_148 dX11_bound_5 rfl rfl sh_2 (Nat.le_of_ble_eq_true rfl) (by decide) ⟨rfl, rfl⟩ (rX8_hasGoer sh_2 hq1) <| At.bifeq_t (tgt := 20) dX11_bound_8 (by decide) c9 <| ?_
    refine At.bipush dX11_bound_20 (by decide) <| ?_
    obtain rfl := Option.some.inj h
    exact At.iret rfl (Nat.zero_le _) (Nat.zero_le _) ⟨rfl, rfl⟩ dX11_bound_22
def fX11_reach_L38 (S : SS) : Nat → Int → Int → Option (Int)
  | 0, _, _ => none
  | n + 1, l2, l3 =>
    if (S 35 8) ≤ l3 then (
      some l2
    ) else (
      Option.bind (fX10_spotAt 35 l3 S) fun q1 =>
      lt (jor l2 (jshl 1 (w32 (Int.tdiv q1 20)))) fun x2 =>
      lt (w32 (l3 + 1)) fun x3 =>
      fX11_reach_L38 S n x2 x3
    )
def fX11_reach (p1 : Int) (S : SS) : Option (Int × SS) :=
  Option.bind (fX8_hasGoer 2 p1 S) fun q1 =>
  if q1 = true then (
    Option.bind (fX6_spotOf 7 p1 S) fun q2 =>
    Option.bind (fX10_spread 35 p1 q2 7 S) fun q3 =>
    Option.bind (fX11_reach_L38 q3 FU 0 0) fun q4 =>
    some (q4, q3)
  ) else (
    some ((-2), S)
  )
set_option maxRecDepth 100000 in
set_option maxHeartbeats 4000000 in
theorem lX11_reach_L38 {G : GG} {Φ : Option VV → MM → Prop} {S : SS} : ∀ (n : Nat) (l2 : Int) (l3 : Int) (q : Int), fX11_reach_L38 S n l2 l3 = some q → At G mX11_reach 6 71 [(2, vi q)] [] (mm S) 0 0 Φ → At G mX11_reach 6 38 [(0, vr 1), (2, vi l2), (3, vi l3)] [] (mm S) 0 0 Φ := by
  intro n
  induction n with
  | zero =>
    intro _ _ _ h
    cases h
  | succ n ih =>
    intro l2 l3 q h K71
    unfold fX11_reach_L38 at h
    rcases ite_e h with ⟨c4, h⟩ | ⟨c4, h⟩
    · refine At.iloadn dX11_reach_38 rfl <| At.aloadn dX11_reach_39 rfl <| At.getR fl_X11_62 sh_1 (le149 sh_1) rf_1_7 dX11_reach_40 <| At.getI fl_X11_260 sh_35 (le149 sh_35) dX11_reach_43 <| At.icmp_ge_t (tgt := 71) dX11_reach_46 (by decide) c4 <| ?_
      obtain rfl := Option.some.inj h
      exact At.sub [1] rfl K71
    · refine At.iloadn dX11_reach_38 rfl <| At.aloadn dX11_reach_39 rfl <| At.getR fl_X11_62 sh_1 (le149 sh_1) rf_1_7 dX11_reach_40 <| At.getI fl_X11_260 sh_35 (le149 sh_35) dX11_reach_43 <| At.icmp_ge_f (tgt := 71) dX11_reach_46 (by decide) c4 <| ?_
      refine At.iloadn dX11_reach_49 rfl <| At.iconst dX11_reach_50 (by decide) <| At.aloadn dX11_reach_51 rfl <| At.getR fl_X11_62 sh_1 (le149 sh_1) rf_1_7 dX11_reach_52 <| At.iloadn dX11_reach_55 rfl <| ?_
      obtain ⟨q1, hq1, h⟩ := bnd_e h
      refine At.cV1 (av := [vi l3]) (rest := [vi 1, vi l2]) mv_X10_spotAt lk_X11_263 dX11_reach_56 rfl rfl sh_35 (Nat.le_of_ble_eq_true rfl) (by decide) ⟨rfl, rfl⟩ (rX10_spotAt sh_35 hq1) <| At.bipush dX11_reach_59 (by decide) <| At.idiv dX11_reach_61 (by decide) <| At.ishl dX11_reach_62 <| At.ior dX11_reach_63 <| ?_
      obtain ⟨x2, hx2, h⟩ := lt_e h
      refine At.nm hx2 <| At.istoren (ls' := [(2, vi x2), (0, vr 1), (3, vi l3)]) dX11_reach_64 (by decide) rfl <| ?_
      obtain ⟨x3, hx3, h⟩ := lt_e h
      refine At.iinc (ls' := [(3, vi x3), (2, vi x2), (0, vr 1)]) dX11_reach_65 rfl (by decide) (by rw [hx3]; rfl) <| At.goto (tgt := 38) dX11_reach_68 (by decide) <| ?_
      exact At.sub [2, 1, 0] rfl (ih _ _ _ h K71)
set_option maxRecDepth 100000 in
set_option maxHeartbeats 4000000 in
theorem rX11_reach {G : GG} {p1 : Int} {S : SS} {rr : (Int × SS)} (h : fX11_reach p1 S = some rr) : RD G mX11_reach 6 [vr 1, vi p1] S (some (vi rr.1)) rr.2 := by
  unfold fX11_reach at h
  refine Runs.of pl_X11 (Nat.le_of_ble_eq_true rfl) ?_
  show At G mX11_reach 6 0 [(0, vr 1), (1, vi p1)] [] (mm S) 0 0 (EQ (some (vi rr.1)) rr.2)
  refine At.aloadn dX11_reach_0 rfl <| At.getR fl_X11_12 sh_1 (le149 sh_1) rf_1_0 dX11_reach_1 <| At.iloadn dX11_reach_4 rfl <| ?_
  obtain ⟨q1, hq1, h⟩ := bnd_e h
  rcases ite_e h with ⟨c6, h⟩ | ⟨c6, h⟩
  · refine At.cV1 (av := [vi p1]) (rest := []) mv_X8_hasGoer lk_X11_148 dX11_reach_5 rfl rfl sh_2 (Nat.le_of_ble_eq_true rfl) (by decide) ⟨rfl, rfl⟩ (rX8_hasGoer sh_2 hq1) <| At.bifne_t (tgt := 14) dX11_reach_8 (by decide) c6 <| ?_
    refine At.aloadn dX11_reach_14 rfl <| At.getR fl_X11_62 sh_1 (le149 sh_1) rf_1_7 dX11_reach_15 <| At.iloadn dX11_reach_18 rfl <| At.aloadn dX11_reach_19 rfl <| At.getR fl_X11_20 sh_1 (le149 sh_1) rf_1_1 dX11_reach_20 <| At.iloadn dX11_reach_23 rfl <| ?_
    obtain ⟨q2, hq2, h⟩ := bnd_e h
    refine At.cV1 (av := [vi p1]) (rest := [vi p1, vr 35]) mv_X6_spotOf lk_X11_163 dX11_reach_24 rfl rfl sh_7 (Nat.le_of_ble_eq_true rfl) (by decide) ⟨rfl, rfl⟩ (rX6_spotOf sh_7 hq2) <| At.aloadn dX11_reach_27 rfl <| At.getR fl_X11_20 sh_1 (le149 sh_1) rf_1_1 dX11_reach_28 <| ?_
    obtain ⟨q3, hq3, h⟩ := bnd_e h
    refine At.cV0 (av := [vi p1, vi q2, vr 7]) (rest := []) mv_X10_spread lk_X11_256 dX11_reach_31 rfl rfl sh_35 (Nat.le_of_ble_eq_true rfl) (by decide) ⟨rfl, rfl⟩ (rX10_spread sh_35 sh_7 hq3) <| At.iconst dX11_reach_34 (by decide) <| At.istoren (ls' := [(2, vi 0), (0, vr 1), (1, vi p1)]) dX11_reach_35 (by decide) rfl <| At.iconst dX11_reach_36 (by decide) <| At.istoren (ls' := [(3, vi 0), (2, vi 0), (0, vr 1), (1, vi p1)]) dX11_reach_37 (by decide) rfl <| ?_
    obtain ⟨q4, ho5, h⟩ := bnd_e h
    refine At.sub [2, 1, 0] rfl (lX11_reach_L38 FU _ _ q4 ho5 ?_)
    refine At.iloadn dX11_reach_71 rfl <| ?_
    obtain rfl := Option.some.inj h
    exact At.iret rfl (Nat.zero_le _) (Nat.zero_le _) ⟨rfl, rfl⟩ dX11_reach_72
  · refine At.cV1 (av := [vi p1]) (rest := []) mv_X8_hasGoer lk_X11_148 dX11_reach_5 rfl rfl sh_2 (Nat.le_of_ble_eq_true rfl) (by decide) ⟨rfl, rfl⟩ (rX8_hasGoer sh_2 hq1) <| At.bifne_f (tgt := 14) dX11_reach_8 (by decide) c6 <| ?_
    refine At.bipush dX11_reach_11 (by decide) <| ?_
    obtain rfl := Option.some.inj h
    exact At.iret rfl (Nat.zero_le _) (Nat.zero_le _) ⟨rfl, rfl⟩ dX11_reach_13
def fX11_areTwo (p1 : Int) (p2 : Int) (S : SS) : Option Bool :=
  Option.bind (fX8_hasGoer 2 p1 S) fun q1 =>
  if q1 = true then (
    Option.bind (fX8_hasGoer 2 p2 S) fun q2 =>
    if q2 = true then (
      if p1 = p2 then (
        some false
      ) else (
        some true
      )
    ) else (
      some false
    )
  ) else (
    some false
  )
set_option maxRecDepth 100000 in
set_option maxHeartbeats 4000000 in
theorem rX11_areTwo {G : GG} {p1 : Int} {p2 : Int} {S : SS} {rr : Bool} (h : fX11_areTwo p1 p2 S = some rr) : RD G mX11_areTwo 2 [vr 1, vi p1, vi p2] S (some (vi (bI rr))) S := by
  unfold fX11_areTwo at h
  refine Runs.of pl_X11 (Nat.le_of_ble_eq_true rfl) ?_
  show At G mX11_areTwo 2 0 [(0, vr 1), (1, vi p1), (2, vi p2)] [] (mm S) 0 0 (EQ (some (vi (bI rr))) S)
  refine At.aloadn dX11_areTwo_0 rfl <| At.getR fl_X11_12 sh_1 (le149 sh_1) rf_1_0 dX11_areTwo_1 <| At.iloadn dX11_areTwo_4 rfl <| ?_
  obtain ⟨q1, hq1, h⟩ := bnd_e h
  rcases ite_e h with ⟨c5, h⟩ | ⟨c5, h⟩
  · refine At.cV1 (av := [vi p1]) (rest := []) mv_X8_hasGoer lk_X11_148 dX11_areTwo_5 rfl rfl sh_2 (Nat.le_of_ble_eq_true rfl) (by decide) ⟨rfl, rfl⟩ (rX8_hasGoer sh_2 hq1) <| At.bifeq_f (tgt := 31) dX11_areTwo_8 (by decide) c5 <| ?_
    refine At.aloadn dX11_areTwo_11 rfl <| At.getR fl_X11_12 sh_1 (le149 sh_1) rf_1_0 dX11_areTwo_12 <| At.iloadn dX11_areTwo_15 rfl <| ?_
    obtain ⟨q2, hq2, h⟩ := bnd_e h
    rcases ite_e h with ⟨c4, h⟩ | ⟨c4, h⟩
    · refine At.cV1 (av := [vi p2]) (rest := []) mv_X8_hasGoer lk_X11_148 dX11_areTwo_16 rfl rfl sh_2 (Nat.le_of_ble_eq_true rfl) (by decide) ⟨rfl, rfl⟩ (rX8_hasGoer sh_2 hq2) <| At.bifeq_f (tgt := 31) dX11_areTwo_19 (by decide) c4 <| ?_
      rcases ite_e h with ⟨c3, h⟩ | ⟨c3, h⟩
      · refine At.iloadn dX11_areTwo_22 rfl <| At.iloadn dX11_areTwo_23 rfl <| At.icmp_eq_t (tgt := 31) dX11_areTwo_24 (by decide) c3 <| ?_
        refine At.iconst dX11_areTwo_31 (by decide) <| ?_
        obtain rfl := Option.some.inj h
        exact At.zret (b := false) rfl (Nat.zero_le _) (Nat.zero_le _) ⟨rfl, rfl⟩ dX11_areTwo_32
      · refine At.iloadn dX11_areTwo_22 rfl <| At.iloadn dX11_areTwo_23 rfl <| At.icmp_eq_f (tgt := 31) dX11_areTwo_24 (by decide) c3 <| ?_
        refine At.iconst dX11_areTwo_27 (by decide) <| At.goto (tgt := 32) dX11_areTwo_28 (by decide) <| ?_
        obtain rfl := Option.some.inj h
        exact At.zret (b := true) rfl (Nat.zero_le _) (Nat.zero_le _) ⟨rfl, rfl⟩ dX11_areTwo_32
    · refine At.cV1 (av := [vi p2]) (rest := []) mv_X8_hasGoer lk_X11_148 dX11_areTwo_16 rfl rfl sh_2 (Nat.le_of_ble_eq_true rfl) (by decide) ⟨rfl, rfl⟩ (rX8_hasGoer sh_2 hq2) <| At.bifeq_t (tgt := 31) dX11_areTwo_19 (by decide) c4 <| ?_
      refine At.iconst dX11_areTwo_31 (by decide) <| ?_
      obtain rfl := Option.some.inj h
      exact At.zret (b := false) rfl (Nat.zero_le _) (Nat.zero_le _) ⟨rfl, rfl⟩ dX11_areTwo_32
  · refine At.cV1 (av := [vi p1]) (rest := []) mv_X8_hasGoer lk_X11_148 dX11_areTwo_5 rfl rfl sh_2 (Nat.le_of_ble_eq_true rfl) (by decide) ⟨rfl, rfl⟩ (rX8_hasGoer sh_2 hq1) <| At.bifeq_t (tgt := 31) dX11_areTwo_8 (by decide) c5 <| ?_
    refine At.iconst dX11_areTwo_31 (by decide) <| ?_
    obtain rfl := Option.some.inj h
    exact At.zret (b := false) rfl (Nat.zero_le _) (Nat.zero_le _) ⟨rfl, rfl⟩ dX11_areTwo_32
def fX11_goingsTogether (p1 : Int) (S : SS) : Option Int :=
  Option.bind (fX10_goingsTo 35 p1 S) fun q1 =>
  Option.bind (fX10_goingsTo 43 p1 S) fun q2 =>
  if q1 = ((-1)) then (
    some ((-1))
  ) else (
    if q2 = ((-1)) then (
      some ((-1))
    ) else (
      some (w32 (q1 + q2))
    )
  )
set_option maxRecDepth 100000 in
set_option maxHeartbeats 4000000 in
theorem rX11_goingsTogether {G : GG} {p1 : Int} {S : SS} {rr : Int} (h : fX11_goingsTogether p1 S = some rr) : RD G mX11_goingsTogether 3 [vr 1, vi p1] S (some (vi rr)) S := by
  unfold fX11_goingsTogether at h
  refine Runs.of pl_X11 (Nat.le_of_ble_eq_true rfl) ?_
  show At G mX11_goingsTogether 3 0 [(0, vr 1), (1, vi p1)] [] (mm S) 0 0 (EQ (some (vi rr)) S)
  refine At.aloadn dX11_goingsTogether_0 rfl <| At.getR fl_X11_62 sh_1 (le149 sh_1) rf_1_7 dX11_goingsTogether_1 <| At.iloadn dX11_goingsTogether_4 rfl <| ?_
  obtain ⟨q1, hq1, h⟩ := bnd_e h
  refine At.cV1 (av := [vi p1]) (rest := []) mv_X10_goingsTo lk_X11_236 dX11_goingsTogether_5 rfl rfl sh_35 (Nat.le_of_ble_eq_true rfl) (by decide) ⟨rfl, rfl⟩ (rX10_goingsTo sh_35 hq1) <| At.istoren (ls' := [(2, vi q1), (0, vr 1), (1, vi p1)]) dX11_goingsTogether_8 (by decide) rfl <| At.aloadn dX11_goingsTogether_9 rfl <| At.getR fl_X11_66 sh_1 (le149 sh_1) rf_1_8 dX11_goingsTogether_10 <| At.iloadn dX11_goingsTogether_13 rfl <| ?_
  obtain ⟨q2, hq2, h⟩ := bnd_e h
  rcases ite_e h with ⟨c4, h⟩ | ⟨c4, h⟩
  · refine At.cV1 (av := [vi p1]) (rest := []) mv_X10_goingsTo lk_X11_236 dX11_goingsTogether_14 rfl rfl sh_43 (Nat.le_of_ble_eq_true rfl) (by decide) ⟨rfl, rfl⟩ (rX10_goingsTo sh_43 hq2) <| At.istoren (ls' := [(3, vi q2), (2, vi q1), (0, vr 1), (1, vi p1)]) dX11_goingsTogether_17 (by decide) rfl <| At.iloadn dX11_goingsTogether_18 rfl <| At.iconst dX11_goingsTogether_19 (by decide) <| At.icmp_eq_t (tgt := 28) dX11_goingsTogether_20 (by decide) c4 <| ?_
    refine At.iconst dX11_goingsTogether_28 (by decide) <| At.goto (tgt := 35) dX11_goingsTogether_29 (by decide) <| ?_
    obtain rfl := Option.some.inj h
    exact At.iret rfl (Nat.zero_le _) (Nat.zero_le _) ⟨rfl, rfl⟩ dX11_goingsTogether_35
  · refine At.cV1 (av := [vi p1]) (rest := []) mv_X10_goingsTo lk_X11_236 dX11_goingsTogether_14 rfl rfl sh_43 (Nat.le_of_ble_eq_true rfl) (by decide) ⟨rfl, rfl⟩ (rX10_goingsTo sh_43 hq2) <| At.istoren (ls' := [(3, vi q2), (2, vi q1), (0, vr 1), (1, vi p1)]) dX11_goingsTogether_17 (by decide) rfl <| At.iloadn dX11_goingsTogether_18 rfl <| At.iconst dX11_goingsTogether_19 (by decide) <| At.icmp_eq_f (tgt := 28) dX11_goingsTogether_20 (by decide) c4 <| ?_
    rcases ite_e h with ⟨c3, h⟩ | ⟨c3, h⟩
    · refine At.iloadn dX11_goingsTogether_23 rfl <| At.iconst dX11_goingsTogether_24 (by decide) <| At.icmp_ne_f (tgt := 32) dX11_goingsTogether_25 (by decide) c3 <| ?_
      refine At.iconst dX11_goingsTogether_28 (by decide) <| At.goto (tgt := 35) dX11_goingsTogether_29 (by decide) <| ?_
      obtain rfl := Option.some.inj h
      exact At.iret rfl (Nat.zero_le _) (Nat.zero_le _) ⟨rfl, rfl⟩ dX11_goingsTogether_35
    · refine At.iloadn dX11_goingsTogether_23 rfl <| At.iconst dX11_goingsTogether_24 (by decide) <| At.icmp_ne_t (tgt := 32) dX11_goingsTogether_25 (by decide) c3 <| ?_
      refine At.iloadn dX11_goingsTogether_32 rfl <| At.iloadn dX11_goingsTogether_33 rfl <| At.iadd dX11_goingsTogether_34 <| ?_
      obtain rfl := Option.some.inj h
      exact At.iret rfl (Nat.zero_le _) (Nat.zero_le _) ⟨rfl, rfl⟩ dX11_goingsTogether_35
def fX11_meetingSpot_L45 (S : SS) : Nat → Int → Int → Option (Int)
  | 0, _, _ => none
  | n + 1, l3, l4 =>
    if 120 ≤ l4 then (
      some l3
    ) else (
      Option.bind (fX11_goingsTogether l4 S) fun q1 =>
      Option.bind (
        if q1 = ((-1)) then (
          some l3
        ) else (
          if l3 = ((-1)) then (
            some l4
          ) else (
            Option.bind (fX11_goingsTogether l3 S) fun q3 =>
            if q3 ≤ q1 then (
              some l3
            ) else (
              some l4
            )
          )
        )
        : Option (Int)) fun q2 =>
      lt (w32 (l4 + 1)) fun x7 =>
      fX11_meetingSpot_L45 S n q2 x7
    )
def fX11_meetingSpot (p1 : Int) (p2 : Int) (S : SS) : Option (Int × SS) :=
  Option.bind (fX6_spotOf 7 p1 S) fun q1 =>
  Option.bind (fX10_spread 35 p1 q1 7 S) fun q2 =>
  Option.bind (fX6_spotOf 7 p2 q2) fun q3 =>
  Option.bind (fX10_spread 43 p2 q3 7 q2) fun q4 =>
  lt ((-1)) fun x5 =>
  Option.bind (fX11_meetingSpot_L45 q4 FU x5 0) fun q6 =>
  some (q6, q4)
set_option maxRecDepth 100000 in
set_option maxHeartbeats 4000000 in
theorem lX11_meetingSpot_L45 {G : GG} {Φ : Option VV → MM → Prop} {S : SS} : ∀ (n : Nat) (l3 : Int) (l4 : Int) (q : Int), fX11_meetingSpot_L45 S n l3 l4 = some q → At G mX11_meetingSpot 6 90 [(3, vi q)] [] (mm S) 0 0 Φ → At G mX11_meetingSpot 6 45 [(0, vr 1), (3, vi l3), (4, vi l4)] [] (mm S) 0 0 Φ := by
  intro n
  induction n with
  | zero =>
    intro _ _ _ h
    cases h
  | succ n ih =>
    intro l3 l4 q h K90
    unfold fX11_meetingSpot_L45 at h
    rcases ite_e h with ⟨c8, h⟩ | ⟨c8, h⟩
    · refine At.iload dX11_meetingSpot_45 rfl <| At.bipush dX11_meetingSpot_47 (by decide) <| At.icmp_ge_t (tgt := 90) dX11_meetingSpot_49 (by decide) c8 <| ?_
      obtain rfl := Option.some.inj h
      exact At.sub [1] rfl K90
    · refine At.iload dX11_meetingSpot_45 rfl <| At.bipush dX11_meetingSpot_47 (by decide) <| At.icmp_ge_f (tgt := 90) dX11_meetingSpot_49 (by decide) c8 <| ?_
      refine At.aloadn dX11_meetingSpot_52 rfl <| At.iload dX11_meetingSpot_53 rfl <| ?_
      obtain ⟨q1, hq1, h⟩ := bnd_e h
      obtain ⟨q2, hj84, h⟩ := bnd_e h
      have K84 : At G mX11_meetingSpot 6 84 [(0, vr 1), (3, vi q2), (4, vi l4)] [] (mm S) 0 0 Φ := by
        obtain ⟨x7, hx7, h⟩ := lt_e h
        refine At.iinc (ls' := [(4, vi x7), (0, vr 1), (3, vi q2)]) dX11_meetingSpot_84 rfl (by decide) (by rw [hx7]; rfl) <| At.goto (tgt := 45) dX11_meetingSpot_87 (by decide) <| ?_
        exact At.sub [1, 2, 0] rfl (ih _ _ _ h K90)
      clear h; have h := hj84; clear hj84
      rcases ite_e h with ⟨c6, h⟩ | ⟨c6, h⟩
      · refine At.cV1 (av := [vi l4]) (rest := []) mv_X11_goingsTogether lk_X11_281 dX11_meetingSpot_55 rfl rfl sh_1 (Nat.le_of_ble_eq_true rfl) (by decide) ⟨rfl, rfl⟩ (rX11_goingsTogether hq1) <| At.istore (ls' := [(5, vi q1), (0, vr 1), (3, vi l3), (4, vi l4)]) dX11_meetingSpot_58 (by decide) rfl <| At.iload dX11_meetingSpot_60 rfl <| At.iconst dX11_meetingSpot_62 (by decide) <| At.icmp_eq_t (tgt := 84) dX11_meetingSpot_63 (by decide) c6 <| ?_
        obtain rfl := Option.some.inj h
        exact At.sub [1, 2, 3] rfl K84
      · refine At.cV1 (av := [vi l4]) (rest := []) mv_X11_goingsTogether lk_X11_281 dX11_meetingSpot_55 rfl rfl sh_1 (Nat.le_of_ble_eq_true rfl) (by decide) ⟨rfl, rfl⟩ (rX11_goingsTogether hq1) <| At.istore (ls' := [(5, vi q1), (0, vr 1), (3, vi l3), (4, vi l4)]) dX11_meetingSpot_58 (by decide) rfl <| At.iload dX11_meetingSpot_60 rfl <| At.iconst dX11_meetingSpot_62 (by decide) <| At.icmp_eq_f (tgt := 84) dX11_meetingSpot_63 (by decide) c6 <| ?_
        rcases ite_e h with ⟨c5, h⟩ | ⟨c5, h⟩
        · refine At.iloadn dX11_meetingSpot_66 rfl <| At.iconst dX11_meetingSpot_67 (by decide) <| At.icmp_eq_t (tgt := 81) dX11_meetingSpot_68 (by decide) c5 <| ?_
          refine At.iload dX11_meetingSpot_81 rfl <| At.istoren (ls' := [(3, vi l4), (5, vi q1), (0, vr 1), (4, vi l4)]) dX11_meetingSpot_83 (by decide) rfl <| ?_
          obtain rfl := Option.some.inj h
          exact At.sub [2, 0, 3] rfl K84
        · refine At.iloadn dX11_meetingSpot_66 rfl <| At.iconst dX11_meetingSpot_67 (by decide) <| At.icmp_eq_f (tgt := 81) dX11_meetingSpot_68 (by decide) c5 <| ?_
          refine At.iload dX11_meetingSpot_71 rfl <| At.aloadn dX11_meetingSpot_73 rfl <| At.iloadn dX11_meetingSpot_74 rfl <| ?_
          obtain ⟨q3, hq3, h⟩ := bnd_e h
          rcases ite_e h with ⟨c4, h⟩ | ⟨c4, h⟩
          · refine At.cV1 (av := [vi l3]) (rest := [vi q1]) mv_X11_goingsTogether lk_X11_281 dX11_meetingSpot_75 rfl rfl sh_1 (Nat.le_of_ble_eq_true rfl) (by decide) ⟨rfl, rfl⟩ (rX11_goingsTogether hq3) <| At.icmp_ge_t (tgt := 84) dX11_meetingSpot_78 (by decide) c4 <| ?_
            obtain rfl := Option.some.inj h
            exact At.sub [1, 2, 3] rfl K84
          · refine At.cV1 (av := [vi l3]) (rest := [vi q1]) mv_X11_goingsTogether lk_X11_281 dX11_meetingSpot_75 rfl rfl sh_1 (Nat.le_of_ble_eq_true rfl) (by decide) ⟨rfl, rfl⟩ (rX11_goingsTogether hq3) <| At.icmp_ge_f (tgt := 84) dX11_meetingSpot_78 (by decide) c4 <| ?_
            refine At.iload dX11_meetingSpot_81 rfl <| At.istoren (ls' := [(3, vi l4), (5, vi q1), (0, vr 1), (4, vi l4)]) dX11_meetingSpot_83 (by decide) rfl <| ?_
            obtain rfl := Option.some.inj h
            exact At.sub [2, 0, 3] rfl K84
set_option maxRecDepth 100000 in
set_option maxHeartbeats 4000000 in
theorem rX11_meetingSpot {G : GG} {p1 : Int} {p2 : Int} {S : SS} {rr : (Int × SS)} (h : fX11_meetingSpot p1 p2 S = some rr) : RD G mX11_meetingSpot 6 [vr 1, vi p1, vi p2] S (some (vi rr.1)) rr.2 := by
  unfold fX11_meetingSpot at h
  refine Runs.of pl_X11 (Nat.le_of_ble_eq_true rfl) ?_
  show At G mX11_meetingSpot 6 0 [(0, vr 1), (1, vi p1), (2, vi p2)] [] (mm S) 0 0 (EQ (some (vi rr.1)) rr.2)
  refine At.aloadn dX11_meetingSpot_0 rfl <| At.getR fl_X11_62 sh_1 (le149 sh_1) rf_1_7 dX11_meetingSpot_1 <| At.iloadn dX11_meetingSpot_4 rfl <| At.aloadn dX11_meetingSpot_5 rfl <| At.getR fl_X11_20 sh_1 (le149 sh_1) rf_1_1 dX11_meetingSpot_6 <| At.iloadn dX11_meetingSpot_9 rfl <| ?_
  obtain ⟨q1, hq1, h⟩ := bnd_e h
  refine At.cV1 (av := [vi p1]) (rest := [vi p1, vr 35]) mv_X6_spotOf lk_X11_163 dX11_meetingSpot_10 rfl rfl sh_7 (Nat.le_of_ble_eq_true rfl) (by decide) ⟨rfl, rfl⟩ (rX6_spotOf sh_7 hq1) <| At.aloadn dX11_meetingSpot_13 rfl <| At.getR fl_X11_20 sh_1 (le149 sh_1) rf_1_1 dX11_meetingSpot_14 <| ?_
  obtain ⟨q2, hq2, h⟩ := bnd_e h
  refine At.cV0 (av := [vi p1, vi q1, vr 7]) (rest := []) mv_X10_spread lk_X11_256 dX11_meetingSpot_17 rfl rfl sh_35 (Nat.le_of_ble_eq_true rfl) (by decide) ⟨rfl, rfl⟩ (rX10_spread sh_35 sh_7 hq2) <| At.aloadn dX11_meetingSpot_20 rfl <| At.getR fl_X11_66 sh_1 (le149 sh_1) rf_1_8 dX11_meetingSpot_21 <| At.iloadn dX11_meetingSpot_24 rfl <| At.aloadn dX11_meetingSpot_25 rfl <| At.getR fl_X11_20 sh_1 (le149 sh_1) rf_1_1 dX11_meetingSpot_26 <| At.iloadn dX11_meetingSpot_29 rfl <| ?_
  obtain ⟨q3, hq3, h⟩ := bnd_e h
  refine At.cV1 (av := [vi p2]) (rest := [vi p2, vr 43]) mv_X6_spotOf lk_X11_163 dX11_meetingSpot_30 rfl rfl sh_7 (Nat.le_of_ble_eq_true rfl) (by decide) ⟨rfl, rfl⟩ (rX6_spotOf sh_7 hq3) <| At.aloadn dX11_meetingSpot_33 rfl <| At.getR fl_X11_20 sh_1 (le149 sh_1) rf_1_1 dX11_meetingSpot_34 <| ?_
  obtain ⟨q4, hq4, h⟩ := bnd_e h
  refine At.cV0 (av := [vi p2, vi q3, vr 7]) (rest := []) mv_X10_spread lk_X11_256 dX11_meetingSpot_37 rfl rfl sh_43 (Nat.le_of_ble_eq_true rfl) (by decide) ⟨rfl, rfl⟩ (rX10_spread sh_43 sh_7 hq4) <| At.iconst dX11_meetingSpot_40 (by decide) <| ?_
  obtain ⟨x5, hx5, h⟩ := lt_e h
  refine At.nm hx5 <| At.istoren (ls' := [(3, vi x5), (0, vr 1), (1, vi p1), (2, vi p2)]) dX11_meetingSpot_41 (by decide) rfl <| At.iconst dX11_meetingSpot_42 (by decide) <| At.istore (ls' := [(4, vi 0), (3, vi x5), (0, vr 1), (1, vi p1), (2, vi p2)]) dX11_meetingSpot_43 (by decide) rfl <| ?_
  obtain ⟨q6, ho7, h⟩ := bnd_e h
  refine At.sub [2, 1, 0] rfl (lX11_meetingSpot_L45 FU _ _ q6 ho7 ?_)
  refine At.iloadn dX11_meetingSpot_90 rfl <| ?_
  obtain rfl := Option.some.inj h
  exact At.iret rfl (Nat.zero_le _) (Nat.zero_le _) ⟨rfl, rfl⟩ dX11_meetingSpot_91
def fX11_meet (p1 : Int) (p2 : Int) (S : SS) : Option (Int × SS) :=
  Option.bind (fX11_areTwo p1 p2 S) fun q1 =>
  if q1 = true then (
    Option.bind (fX11_meetingSpot p1 p2 S) fun q2 =>
    Option.bind (fX11_goingsTogether q2.1 q2.2) fun q3 =>
    some (q3, q2.2)
  ) else (
    some ((-2), S)
  )
set_option maxRecDepth 100000 in
set_option maxHeartbeats 4000000 in
theorem rX11_meet {G : GG} {p1 : Int} {p2 : Int} {S : SS} {rr : (Int × SS)} (h : fX11_meet p1 p2 S = some rr) : RD G mX11_meet 7 [vr 1, vi p1, vi p2] S (some (vi rr.1)) rr.2 := by
  unfold fX11_meet at h
  refine Runs.of pl_X11 (Nat.le_of_ble_eq_true rfl) ?_
  show At G mX11_meet 7 0 [(0, vr 1), (1, vi p1), (2, vi p2)] [] (mm S) 0 0 (EQ (some (vi rr.1)) rr.2)
  refine At.aloadn dX11_meet_0 rfl <| At.iloadn dX11_meet_1 rfl <| At.iloadn dX11_meet_2 rfl <| ?_
  obtain ⟨q1, hq1, h⟩ := bnd_e h
  rcases ite_e h with ⟨c4, h⟩ | ⟨c4, h⟩
  · refine At.cV1 (av := [vi p1, vi p2]) (rest := []) mv_X11_areTwo lk_X11_274 dX11_meet_3 rfl rfl sh_1 (Nat.le_of_ble_eq_true rfl) (by decide) ⟨rfl, rfl⟩ (rX11_areTwo hq1) <| At.bifne_t (tgt := 12) dX11_meet_6 (by decide) c4 <| ?_
    refine At.aloadn dX11_meet_12 rfl <| At.aloadn dX11_meet_13 rfl <| At.iloadn dX11_meet_14 rfl <| At.iloadn dX11_meet_15 rfl <| ?_
    obtain ⟨q2, hq2, h⟩ := bnd_e h
    refine At.cV1 (av := [vi p1, vi p2]) (rest := [vr 1]) mv_X11_meetingSpot lk_X11_278 dX11_meet_16 rfl rfl sh_1 (Nat.le_of_ble_eq_true rfl) (by decide) ⟨rfl, rfl⟩ (rX11_meetingSpot hq2) <| ?_
    obtain ⟨q3, hq3, h⟩ := bnd_e h
    refine At.cV1 (av := [vi q2.1]) (rest := []) mv_X11_goingsTogether lk_X11_281 dX11_meet_19 rfl rfl sh_1 (Nat.le_of_ble_eq_true rfl) (by decide) ⟨rfl, rfl⟩ (rX11_goingsTogether hq3) <| ?_
    obtain rfl := Option.some.inj h
    exact At.iret rfl (Nat.zero_le _) (Nat.zero_le _) ⟨rfl, rfl⟩ dX11_meet_22
  · refine At.cV1 (av := [vi p1, vi p2]) (rest := []) mv_X11_areTwo lk_X11_274 dX11_meet_3 rfl rfl sh_1 (Nat.le_of_ble_eq_true rfl) (by decide) ⟨rfl, rfl⟩ (rX11_areTwo hq1) <| At.bifne_f (tgt := 12) dX11_meet_6 (by decide) c4 <| ?_
    refine At.bipush dX11_meet_9 (by decide) <| ?_
    obtain rfl := Option.some.inj h
    exact At.iret rfl (Nat.zero_le _) (Nat.zero_le _) ⟨rfl, rfl⟩ dX11_meet_11
def fX11_meetAt (p1 : Int) (p2 : Int) (p3 : Int) (S : SS) : Option (Int × SS) :=
  Option.bind (fX11_areTwo p1 p2 S) fun q1 =>
  if q1 = true then (
    if p3 < 0 then (
      some ((-2), S)
    ) else (
      if p3 ≤ 1 then (
        Option.bind (fX11_meetingSpot p1 p2 S) fun q2 =>
        if q2.1 = ((-1)) then (
          some ((-1), q2.2)
        ) else (
          if p3 = 0 then (
            some (w32 (Int.tdiv q2.1 20), q2.2)
          ) else (
            some (Int.tmod q2.1 20, q2.2)
          )
        )
      ) else (
        some ((-2), S)
      )
    )
  ) else (
    some ((-2), S)
  )
set_option maxRecDepth 100000 in
set_option maxHeartbeats 4000000 in
theorem rX11_meetAt {G : GG} {p1 : Int} {p2 : Int} {p3 : Int} {S : SS} {rr : (Int × SS)} (h : fX11_meetAt p1 p2 p3 S = some rr) : RD G mX11_meetAt 7 [vr 1, vi p1, vi p2, vi p3] S (some (vi rr.1)) rr.2 := by
  unfold fX11_meetAt at h
  refine Runs.of pl_X11 (Nat.le_of_ble_eq_true rfl) ?_
  show At G mX11_meetAt 7 0 [(0, vr 1), (1, vi p1), (2, vi p2), (3, vi p3)] [] (mm S) 0 0 (EQ (some (vi rr.1)) rr.2)
  refine At.aloadn dX11_meetAt_0 rfl <| At.iloadn dX11_meetAt_1 rfl <| At.iloadn dX11_meetAt_2 rfl <| ?_
  obtain ⟨q1, hq1, h⟩ := bnd_e h
  rcases ite_e h with ⟨c7, h⟩ | ⟨c7, h⟩
  · refine At.cV1 (av := [vi p1, vi p2]) (rest := []) mv_X11_areTwo lk_X11_274 dX11_meetAt_3 rfl rfl sh_1 (Nat.le_of_ble_eq_true rfl) (by decide) ⟨rfl, rfl⟩ (rX11_areTwo hq1) <| At.bifeq_f (tgt := 18) dX11_meetAt_6 (by decide) c7 <| ?_
    rcases ite_e h with ⟨c6, h⟩ | ⟨c6, h⟩
    · refine At.iloadn dX11_meetAt_9 rfl <| At.if_lt_t (tgt := 18) dX11_meetAt_10 (by decide) c6 <| ?_
      refine At.bipush dX11_meetAt_18 (by decide) <| ?_
      obtain rfl := Option.some.inj h
      exact At.iret rfl (Nat.zero_le _) (Nat.zero_le _) ⟨rfl, rfl⟩ dX11_meetAt_20
    · refine At.iloadn dX11_meetAt_9 rfl <| At.if_lt_f (tgt := 18) dX11_meetAt_10 (by decide) c6 <| ?_
      rcases ite_e h with ⟨c5, h⟩ | ⟨c5, h⟩
      · refine At.iloadn dX11_meetAt_13 rfl <| At.iconst dX11_meetAt_14 (by decide) <| At.icmp_le_t (tgt := 21) dX11_meetAt_15 (by decide) c5 <| ?_
        refine At.aloadn dX11_meetAt_21 rfl <| At.iloadn dX11_meetAt_22 rfl <| At.iloadn dX11_meetAt_23 rfl <| ?_
        obtain ⟨q2, hq2, h⟩ := bnd_e h
        rcases ite_e h with ⟨c4, h⟩ | ⟨c4, h⟩
        · refine At.cV1 (av := [vi p1, vi p2]) (rest := []) mv_X11_meetingSpot lk_X11_278 dX11_meetAt_24 rfl rfl sh_1 (Nat.le_of_ble_eq_true rfl) (by decide) ⟨rfl, rfl⟩ (rX11_meetingSpot hq2) <| At.istore (ls' := [(4, vi q2.1), (0, vr 1), (1, vi p1), (2, vi p2), (3, vi p3)]) dX11_meetAt_27 (by decide) rfl <| At.iload dX11_meetAt_29 rfl <| At.iconst dX11_meetAt_31 (by decide) <| At.icmp_ne_f (tgt := 37) dX11_meetAt_32 (by decide) c4 <| ?_
          refine At.iconst dX11_meetAt_35 (by decide) <| ?_
          obtain rfl := Option.some.inj h
          exact At.iret rfl (Nat.zero_le _) (Nat.zero_le _) ⟨rfl, rfl⟩ dX11_meetAt_36
        · refine At.cV1 (av := [vi p1, vi p2]) (rest := []) mv_X11_meetingSpot lk_X11_278 dX11_meetAt_24 rfl rfl sh_1 (Nat.le_of_ble_eq_true rfl) (by decide) ⟨rfl, rfl⟩ (rX11_meetingSpot hq2) <| At.istore (ls' := [(4, vi q2.1), (0, vr 1), (1, vi p1), (2, vi p2), (3, vi p3)]) dX11_meetAt_27 (by decide) rfl <| At.iload dX11_meetAt_29 rfl <| At.iconst dX11_meetAt_31 (by decide) <| At.icmp_ne_t (tgt := 37) dX11_meetAt_32 (by decide) c4 <| ?_
          rcases ite_e h with ⟨c3, h⟩ | ⟨c3, h⟩
          · refine At.iloadn dX11_meetAt_37 rfl <| At.if_ne_f (tgt := 49) dX11_meetAt_38 (by decide) c3 <| ?_
            refine At.iload dX11_meetAt_41 rfl <| At.bipush dX11_meetAt_43 (by decide) <| At.idiv dX11_meetAt_45 (by decide) <| At.goto (tgt := 54) dX11_meetAt_46 (by decide) <| ?_
            obtain rfl := Option.some.inj h
            exact At.iret rfl (Nat.zero_le _) (Nat.zero_le _) ⟨rfl, rfl⟩ dX11_meetAt_54
          · refine At.iloadn dX11_meetAt_37 rfl <| At.if_ne_t (tgt := 49) dX11_meetAt_38 (by decide) c3 <| ?_
            refine At.iload dX11_meetAt_49 rfl <| At.bipush dX11_meetAt_51 (by decide) <| At.irem dX11_meetAt_53 (by decide) <| ?_
            obtain rfl := Option.some.inj h
            exact At.iret rfl (Nat.zero_le _) (Nat.zero_le _) ⟨rfl, rfl⟩ dX11_meetAt_54
      · refine At.iloadn dX11_meetAt_13 rfl <| At.iconst dX11_meetAt_14 (by decide) <| At.icmp_le_f (tgt := 21) dX11_meetAt_15 (by decide) c5 <| ?_
        refine At.bipush dX11_meetAt_18 (by decide) <| ?_
        obtain rfl := Option.some.inj h
        exact At.iret rfl (Nat.zero_le _) (Nat.zero_le _) ⟨rfl, rfl⟩ dX11_meetAt_20
  · refine At.cV1 (av := [vi p1, vi p2]) (rest := []) mv_X11_areTwo lk_X11_274 dX11_meetAt_3 rfl rfl sh_1 (Nat.le_of_ble_eq_true rfl) (by decide) ⟨rfl, rfl⟩ (rX11_areTwo hq1) <| At.bifeq_t (tgt := 18) dX11_meetAt_6 (by decide) c7 <| ?_
    refine At.bipush dX11_meetAt_18 (by decide) <| ?_
    obtain rfl := Option.some.inj h
    exact At.iret rfl (Nat.zero_le _) (Nat.zero_le _) ⟨rfl, rfl⟩ dX11_meetAt_20
def fX11_ring_L38 (l1 : Int) : Nat → Int → Int → SS → Option (Int × SS)
  | 0, _, _, _ => none
  | n + 1, l2, l3, S =>
    if (S 35 8) ≤ l3 then (
      some (l2, S)
    ) else (
      Option.bind (fX10_spotAt 35 l3 S) fun q1 =>
      Option.bind (fX10_spread 43 l1 q1 7 S) fun q2 =>
      lt (q2 43 9) fun x3 =>
      Option.bind (
        if x3 = ((-1)) then (
          some l2
        ) else (
          if l2 = ((-1)) then (
            some x3
          ) else (
            if l2 ≤ x3 then (
              some l2
            ) else (
              some x3
            )
          )
        )
        : Option (Int)) fun q4 =>
      lt (w32 (l3 + 1)) fun x8 =>
      fX11_ring_L38 l1 n q4 x8 q2
    )
def fX11_ring (p1 : Int) (S : SS) : Option (Int × SS) :=
  Option.bind (fX8_hasGoer 2 p1 S) fun q1 =>
  if q1 = true then (
    Option.bind (fX6_spotOf 7 p1 S) fun q2 =>
    Option.bind (fX10_spread 35 p1 q2 7 S) fun q3 =>
    lt ((-1)) fun x4 =>
    Option.bind (fX11_ring_L38 p1 FU x4 0 q3) fun q5 =>
    some (q5.1, q5.2)
  ) else (
    some ((-2), S)
  )
set_option maxRecDepth 100000 in
set_option maxHeartbeats 4000000 in
theorem lX11_ring_L38 {G : GG} {Φ : Option VV → MM → Prop} {l1 : Int} : ∀ (n : Nat) (l2 : Int) (l3 : Int) (S : SS) (q : Int × SS), fX11_ring_L38 l1 n l2 l3 S = some q → At G mX11_ring 6 104 [(2, vi q.1)] [] (mm q.2) 0 0 Φ → At G mX11_ring 6 38 [(0, vr 1), (1, vi l1), (2, vi l2), (3, vi l3)] [] (mm S) 0 0 Φ := by
  intro n
  induction n with
  | zero =>
    intro _ _ _ _ h
    cases h
  | succ n ih =>
    intro l2 l3 S q h K104
    unfold fX11_ring_L38 at h
    rcases ite_e h with ⟨c9, h⟩ | ⟨c9, h⟩
    · refine At.iloadn dX11_ring_38 rfl <| At.aloadn dX11_ring_39 rfl <| At.getR fl_X11_62 sh_1 (le149 sh_1) rf_1_7 dX11_ring_40 <| At.getI fl_X11_260 sh_35 (le149 sh_35) dX11_ring_43 <| At.icmp_ge_t (tgt := 104) dX11_ring_46 (by decide) c9 <| ?_
      obtain rfl := Option.some.inj h
      exact At.sub [2] rfl K104
    · refine At.iloadn dX11_ring_38 rfl <| At.aloadn dX11_ring_39 rfl <| At.getR fl_X11_62 sh_1 (le149 sh_1) rf_1_7 dX11_ring_40 <| At.getI fl_X11_260 sh_35 (le149 sh_35) dX11_ring_43 <| At.icmp_ge_f (tgt := 104) dX11_ring_46 (by decide) c9 <| ?_
      refine At.aloadn dX11_ring_49 rfl <| At.getR fl_X11_66 sh_1 (le149 sh_1) rf_1_8 dX11_ring_50 <| At.iloadn dX11_ring_53 rfl <| At.aloadn dX11_ring_54 rfl <| At.getR fl_X11_62 sh_1 (le149 sh_1) rf_1_7 dX11_ring_55 <| At.iloadn dX11_ring_58 rfl <| ?_
      obtain ⟨q1, hq1, h⟩ := bnd_e h
      refine At.cV1 (av := [vi l3]) (rest := [vi l1, vr 43]) mv_X10_spotAt lk_X11_263 dX11_ring_59 rfl rfl sh_35 (Nat.le_of_ble_eq_true rfl) (by decide) ⟨rfl, rfl⟩ (rX10_spotAt sh_35 hq1) <| At.aloadn dX11_ring_62 rfl <| At.getR fl_X11_20 sh_1 (le149 sh_1) rf_1_1 dX11_ring_63 <| ?_
      obtain ⟨q2, hq2, h⟩ := bnd_e h
      refine At.cV0 (av := [vi l1, vi q1, vr 7]) (rest := []) mv_X10_spread lk_X11_256 dX11_ring_66 rfl rfl sh_43 (Nat.le_of_ble_eq_true rfl) (by decide) ⟨rfl, rfl⟩ (rX10_spread sh_43 sh_7 hq2) <| At.aloadn dX11_ring_69 rfl <| At.getR fl_X11_66 sh_1 (le149 sh_1) rf_1_8 dX11_ring_70 <| At.getI fl_X11_284 sh_43 (le149 sh_43) dX11_ring_73 <| ?_
      obtain ⟨x3, hx3, h⟩ := lt_e h
      obtain ⟨q4, hj98, h⟩ := bnd_e h
      have K98 : At G mX11_ring 6 98 [(0, vr 1), (1, vi l1), (2, vi q4), (3, vi l3)] [] (mm q2) 0 0 Φ := by
        obtain ⟨x8, hx8, h⟩ := lt_e h
        refine At.iinc (ls' := [(3, vi x8), (0, vr 1), (1, vi l1), (2, vi q4)]) dX11_ring_98 rfl (by decide) (by rw [hx8]; rfl) <| At.goto (tgt := 38) dX11_ring_101 (by decide) <| ?_
        exact At.sub [1, 2, 3, 0] rfl (ih _ _ _ _ h K104)
      clear h; have h := hj98; clear hj98
      rcases ite_e h with ⟨c7, h⟩ | ⟨c7, h⟩
      · refine At.nm hx3 <| At.istore (ls' := [(4, vi x3), (0, vr 1), (1, vi l1), (2, vi l2), (3, vi l3)]) dX11_ring_76 (by decide) rfl <| At.iload dX11_ring_78 rfl <| At.iconst dX11_ring_80 (by decide) <| At.icmp_eq_t (tgt := 98) dX11_ring_81 (by decide) c7 <| ?_
        obtain rfl := Option.some.inj h
        exact At.sub [1, 2, 3, 4] rfl K98
      · refine At.nm hx3 <| At.istore (ls' := [(4, vi x3), (0, vr 1), (1, vi l1), (2, vi l2), (3, vi l3)]) dX11_ring_76 (by decide) rfl <| At.iload dX11_ring_78 rfl <| At.iconst dX11_ring_80 (by decide) <| At.icmp_eq_f (tgt := 98) dX11_ring_81 (by decide) c7 <| ?_
        rcases ite_e h with ⟨c6, h⟩ | ⟨c6, h⟩
        · refine At.iloadn dX11_ring_84 rfl <| At.iconst dX11_ring_85 (by decide) <| At.icmp_eq_t (tgt := 95) dX11_ring_86 (by decide) c6 <| ?_
          refine At.iload dX11_ring_95 rfl <| At.istoren (ls' := [(2, vi x3), (4, vi x3), (0, vr 1), (1, vi l1), (3, vi l3)]) dX11_ring_97 (by decide) rfl <| ?_
          obtain rfl := Option.some.inj h
          exact At.sub [2, 3, 0, 4] rfl K98
        · refine At.iloadn dX11_ring_84 rfl <| At.iconst dX11_ring_85 (by decide) <| At.icmp_eq_f (tgt := 95) dX11_ring_86 (by decide) c6 <| ?_
          rcases ite_e h with ⟨c5, h⟩ | ⟨c5, h⟩
          · refine At.iload dX11_ring_89 rfl <| At.iloadn dX11_ring_91 rfl <| At.icmp_ge_t (tgt := 98) dX11_ring_92 (by decide) c5 <| ?_
            obtain rfl := Option.some.inj h
            exact At.sub [1, 2, 3, 4] rfl K98
          · refine At.iload dX11_ring_89 rfl <| At.iloadn dX11_ring_91 rfl <| At.icmp_ge_f (tgt := 98) dX11_ring_92 (by decide) c5 <| ?_
            refine At.iload dX11_ring_95 rfl <| At.istoren (ls' := [(2, vi x3), (4, vi x3), (0, vr 1), (1, vi l1), (3, vi l3)]) dX11_ring_97 (by decide) rfl <| ?_
            obtain rfl := Option.some.inj h
            exact At.sub [2, 3, 0, 4] rfl K98
set_option maxRecDepth 100000 in
set_option maxHeartbeats 4000000 in
theorem rX11_ring {G : GG} {p1 : Int} {S : SS} {rr : (Int × SS)} (h : fX11_ring p1 S = some rr) : RD G mX11_ring 6 [vr 1, vi p1] S (some (vi rr.1)) rr.2 := by
  unfold fX11_ring at h
  refine Runs.of pl_X11 (Nat.le_of_ble_eq_true rfl) ?_
  show At G mX11_ring 6 0 [(0, vr 1), (1, vi p1)] [] (mm S) 0 0 (EQ (some (vi rr.1)) rr.2)
  refine At.aloadn dX11_ring_0 rfl <| At.getR fl_X11_12 sh_1 (le149 sh_1) rf_1_0 dX11_ring_1 <| At.iloadn dX11_ring_4 rfl <| ?_
  obtain ⟨q1, hq1, h⟩ := bnd_e h
  rcases ite_e h with ⟨c7, h⟩ | ⟨c7, h⟩
  · refine At.cV1 (av := [vi p1]) (rest := []) mv_X8_hasGoer lk_X11_148 dX11_ring_5 rfl rfl sh_2 (Nat.le_of_ble_eq_true rfl) (by decide) ⟨rfl, rfl⟩ (rX8_hasGoer sh_2 hq1) <| At.bifne_t (tgt := 14) dX11_ring_8 (by decide) c7 <| ?_
    refine At.aloadn dX11_ring_14 rfl <| At.getR fl_X11_62 sh_1 (le149 sh_1) rf_1_7 dX11_ring_15 <| At.iloadn dX11_ring_18 rfl <| At.aloadn dX11_ring_19 rfl <| At.getR fl_X11_20 sh_1 (le149 sh_1) rf_1_1 dX11_ring_20 <| At.iloadn dX11_ring_23 rfl <| ?_
    obtain ⟨q2, hq2, h⟩ := bnd_e h
    refine At.cV1 (av := [vi p1]) (rest := [vi p1, vr 35]) mv_X6_spotOf lk_X11_163 dX11_ring_24 rfl rfl sh_7 (Nat.le_of_ble_eq_true rfl) (by decide) ⟨rfl, rfl⟩ (rX6_spotOf sh_7 hq2) <| At.aloadn dX11_ring_27 rfl <| At.getR fl_X11_20 sh_1 (le149 sh_1) rf_1_1 dX11_ring_28 <| ?_
    obtain ⟨q3, hq3, h⟩ := bnd_e h
    refine At.cV0 (av := [vi p1, vi q2, vr 7]) (rest := []) mv_X10_spread lk_X11_256 dX11_ring_31 rfl rfl sh_35 (Nat.le_of_ble_eq_true rfl) (by decide) ⟨rfl, rfl⟩ (rX10_spread sh_35 sh_7 hq3) <| At.iconst dX11_ring_34 (by decide) <| ?_
    obtain ⟨x4, hx4, h⟩ := lt_e h
    refine At.nm hx4 <| At.istoren (ls' := [(2, vi x4), (0, vr 1), (1, vi p1)]) dX11_ring_35 (by decide) rfl <| At.iconst dX11_ring_36 (by decide) <| At.istoren (ls' := [(3, vi 0), (2, vi x4), (0, vr 1), (1, vi p1)]) dX11_ring_37 (by decide) rfl <| ?_
    obtain ⟨q5, ho6, h⟩ := bnd_e h
    refine At.sub [2, 3, 1, 0] rfl (lX11_ring_L38 FU _ _ _ q5 ho6 ?_)
    refine At.iloadn dX11_ring_104 rfl <| ?_
    obtain rfl := Option.some.inj h
    exact At.iret rfl (Nat.zero_le _) (Nat.zero_le _) ⟨rfl, rfl⟩ dX11_ring_105
  · refine At.cV1 (av := [vi p1]) (rest := []) mv_X8_hasGoer lk_X11_148 dX11_ring_5 rfl rfl sh_2 (Nat.le_of_ble_eq_true rfl) (by decide) ⟨rfl, rfl⟩ (rX8_hasGoer sh_2 hq1) <| At.bifne_f (tgt := 14) dX11_ring_8 (by decide) c7 <| ?_
    refine At.bipush dX11_ring_11 (by decide) <| ?_
    obtain rfl := Option.some.inj h
    exact At.iret rfl (Nat.zero_le _) (Nat.zero_le _) ⟨rfl, rfl⟩ dX11_ring_13
def fX8_allStreets (t : Nat) (S : SS) : Option Int :=
  some (w32 ((jshl 1 (S t 6)) - 1))
set_option maxRecDepth 100000 in
set_option maxHeartbeats 4000000 in
theorem rX8_allStreets {G : GG} {t : Nat} {S : SS} {rr : Int} (ht : sh t = (8, 14)) (h : fX8_allStreets t S = some rr) : RD G mX8_allStreets 1 [vr t] S (some (vi rr)) S := by
  unfold fX8_allStreets at h
  refine Runs.of pl_X8 (Nat.le_of_ble_eq_true rfl) ?_
  show At G mX8_allStreets 1 0 [(0, vr t)] [] (mm S) 0 0 (EQ (some (vi rr)) S)
  refine At.iconst dX8_allStreets_0 (by decide) <| At.aloadn dX8_allStreets_1 rfl <| At.getI fl_X8_35 ht (le149 ht) dX8_allStreets_2 <| At.ishl dX8_allStreets_5 <| At.iconst dX8_allStreets_6 (by decide) <| At.isub dX8_allStreets_7 <| ?_
  obtain rfl := Option.some.inj h
  exact At.iret rfl (Nat.zero_le _) (Nat.zero_le _) ⟨rfl, rfl⟩ dX8_allStreets_8
def fX6_shutStreets_L4 (l0 : Nat) (l1 : Int) (S : SS) : Nat → Int → Int → Option (Int)
  | 0, _, _ => none
  | n + 1, l2, l3 =>
    if l1 ≤ l3 then (
      some l2
    ) else (
      if 8 ≤ l3 then (
        some l2
      ) else (
        rdA S (l0 + 1) 8 l3 fun v1 =>
        Option.bind (
          if v1 = 3 then (
            lt (jor l2 (jshl 1 l3)) fun x4 =>
            some x4
          ) else (
            some l2
          )
          : Option (Int)) fun q3 =>
        lt (w32 (l3 + 1)) fun x6 =>
        fX6_shutStreets_L4 l0 l1 S n q3 x6
      )
    )
def fX6_shutStreets (t : Nat) (p1 : Int) (S : SS) : Option Int :=
  Option.bind (fX6_shutStreets_L4 t p1 S FU 0 0) fun q1 =>
  some q1
set_option maxRecDepth 100000 in
set_option maxHeartbeats 4000000 in
theorem lX6_shutStreets_L4 {G : GG} {Φ : Option VV → MM → Prop} {l0 : Nat} {l1 : Int} {S : SS} (hl0 : sh l0 = (6, 4)) : ∀ (n : Nat) (l2 : Int) (l3 : Int) (q : Int), fX6_shutStreets_L4 l0 l1 S n l2 l3 = some q → At G mX6_shutStreets 1 40 [(2, vi q)] [] (mm S) 0 0 Φ → At G mX6_shutStreets 1 4 [(0, vr l0), (1, vi l1), (2, vi l2), (3, vi l3)] [] (mm S) 0 0 Φ := by
  intro n
  induction n with
  | zero =>
    intro _ _ _ h
    cases h
  | succ n ih =>
    intro l2 l3 q h K40
    unfold fX6_shutStreets_L4 at h
    rcases ite_e h with ⟨c8, h⟩ | ⟨c8, h⟩
    · refine At.iloadn dX6_shutStreets_4 rfl <| At.iloadn dX6_shutStreets_5 rfl <| At.icmp_ge_t (tgt := 40) dX6_shutStreets_6 (by decide) c8 <| ?_
      obtain rfl := Option.some.inj h
      exact At.sub [2] rfl K40
    · refine At.iloadn dX6_shutStreets_4 rfl <| At.iloadn dX6_shutStreets_5 rfl <| At.icmp_ge_f (tgt := 40) dX6_shutStreets_6 (by decide) c8 <| ?_
      rcases ite_e h with ⟨c7, h⟩ | ⟨c7, h⟩
      · refine At.iloadn dX6_shutStreets_9 rfl <| At.aloadn dX6_shutStreets_10 rfl <| At.getR fl_X6_9 hl0 (le149 hl0) (rfO_6_0 hl0) dX6_shutStreets_11 <| At.alenI (shO_6_0 hl0) (le149 (shO_6_0 hl0)) (by decide) (z := 8) rfl dX6_shutStreets_14 <| At.icmp_ge_t (tgt := 40) dX6_shutStreets_15 (by decide) c7 <| ?_
        obtain rfl := Option.some.inj h
        exact At.sub [2] rfl K40
      · refine At.iloadn dX6_shutStreets_9 rfl <| At.aloadn dX6_shutStreets_10 rfl <| At.getR fl_X6_9 hl0 (le149 hl0) (rfO_6_0 hl0) dX6_shutStreets_11 <| At.alenI (shO_6_0 hl0) (le149 (shO_6_0 hl0)) (by decide) (z := 8) rfl dX6_shutStreets_14 <| At.icmp_ge_f (tgt := 40) dX6_shutStreets_15 (by decide) c7 <| ?_
        refine At.aloadn dX6_shutStreets_18 rfl <| At.getR fl_X6_9 hl0 (le149 hl0) (rfO_6_0 hl0) dX6_shutStreets_19 <| At.iloadn dX6_shutStreets_22 rfl <| ?_
        obtain ⟨v1, hv1, g2, h⟩ := rdA_e h
        obtain ⟨q3, hj34, h⟩ := bnd_e h
        have K34 : At G mX6_shutStreets 1 34 [(0, vr l0), (1, vi l1), (2, vi q3), (3, vi l3)] [] (mm S) 0 0 Φ := by
          obtain ⟨x6, hx6, h⟩ := lt_e h
          refine At.iinc (ls' := [(3, vi x6), (0, vr l0), (1, vi l1), (2, vi q3)]) dX6_shutStreets_34 rfl (by decide) (by rw [hx6]; rfl) <| At.goto (tgt := 4) dX6_shutStreets_37 (by decide) <| ?_
          exact At.sub [1, 2, 3, 0] rfl (ih _ _ _ h K40)
        clear h; have h := hj34; clear hj34
        rcases ite_e h with ⟨c5, h⟩ | ⟨c5, h⟩
        · refine At.iald (shO_6_0 hl0) (le149 (shO_6_0 hl0)) g2.1 g2.2 dX6_shutStreets_23 <| At.nm hv1 <| At.iconst dX6_shutStreets_24 (by decide) <| At.icmp_ne_f (tgt := 34) dX6_shutStreets_25 (by decide) c5 <| ?_
          refine At.iloadn dX6_shutStreets_28 rfl <| At.iconst dX6_shutStreets_29 (by decide) <| At.iloadn dX6_shutStreets_30 rfl <| At.ishl dX6_shutStreets_31 <| At.ior dX6_shutStreets_32 <| ?_
          obtain ⟨x4, hx4, h⟩ := lt_e h
          refine At.nm hx4 <| At.istoren (ls' := [(2, vi x4), (0, vr l0), (1, vi l1), (3, vi l3)]) dX6_shutStreets_33 (by decide) rfl <| ?_
          obtain rfl := Option.some.inj h
          exact At.sub [1, 2, 0, 3] rfl K34
        · refine At.iald (shO_6_0 hl0) (le149 (shO_6_0 hl0)) g2.1 g2.2 dX6_shutStreets_23 <| At.nm hv1 <| At.iconst dX6_shutStreets_24 (by decide) <| At.icmp_ne_t (tgt := 34) dX6_shutStreets_25 (by decide) c5 <| ?_
          obtain rfl := Option.some.inj h
          exact At.sub [0, 1, 2, 3] rfl K34
set_option maxRecDepth 100000 in
set_option maxHeartbeats 4000000 in
theorem rX6_shutStreets {G : GG} {t : Nat} {p1 : Int} {S : SS} {rr : Int} (ht : sh t = (6, 4)) (h : fX6_shutStreets t p1 S = some rr) : RD G mX6_shutStreets 1 [vr t, vi p1] S (some (vi rr)) S := by
  unfold fX6_shutStreets at h
  refine Runs.of pl_X6 (Nat.le_of_ble_eq_true rfl) ?_
  show At G mX6_shutStreets 1 0 [(0, vr t), (1, vi p1)] [] (mm S) 0 0 (EQ (some (vi rr)) S)
  refine At.iconst dX6_shutStreets_0 (by decide) <| At.istoren (ls' := [(2, vi 0), (0, vr t), (1, vi p1)]) dX6_shutStreets_1 (by decide) rfl <| At.iconst dX6_shutStreets_2 (by decide) <| At.istoren (ls' := [(3, vi 0), (2, vi 0), (0, vr t), (1, vi p1)]) dX6_shutStreets_3 (by decide) rfl <| ?_
  obtain ⟨q1, ho2, h⟩ := bnd_e h
  refine At.sub [2, 3, 1, 0] rfl (lX6_shutStreets_L4 ht FU _ _ q1 ho2 ?_)
  refine At.iloadn dX6_shutStreets_40 rfl <| ?_
  obtain rfl := Option.some.inj h
  exact At.iret rfl (Nat.zero_le _) (Nat.zero_le _) ⟨rfl, rfl⟩ dX6_shutStreets_41
def fX6_signAll_L2 (l0 : Nat) (l1 : Int) (l2 : Int) : Nat → Int → SS → Option (SS)
  | 0, _, _ => none
  | n + 1, l3, S =>
    if l2 ≤ l3 then (
      some S
    ) else (
      if 8 ≤ l3 then (
        some S
      ) else (
        rdA S (l0 + 1) 8 l3 fun v1 =>
        Option.bind (
          if v1 = 3 then (
            some S
          ) else (
            wrA S (l0 + 1) 8 l3 (jand (jshr l1 l3) 1) fun S4 =>
            some S4
          )
          : Option (SS)) fun q3 =>
        lt (w32 (l3 + 1)) fun x7 =>
        fX6_signAll_L2 l0 l1 l2 n x7 q3
      )
    )
def fX6_signAll (t : Nat) (p1 : Int) (p2 : Int) (S : SS) : Option SS :=
  Option.bind (fX6_signAll_L2 t p1 p2 FU 0 S) fun q1 =>
  some q1
set_option maxRecDepth 100000 in
set_option maxHeartbeats 4000000 in
theorem lX6_signAll_L2 {G : GG} {Φ : Option VV → MM → Prop} {l0 : Nat} {l1 : Int} {l2 : Int} (hl0 : sh l0 = (6, 4)) : ∀ (n : Nat) (l3 : Int) (S : SS) (q : SS), fX6_signAll_L2 l0 l1 l2 n l3 S = some q → At G mX6_signAll 1 43 [] [] (mm q) 0 0 Φ → At G mX6_signAll 1 2 [(0, vr l0), (1, vi l1), (2, vi l2), (3, vi l3)] [] (mm S) 0 0 Φ := by
  intro n
  induction n with
  | zero =>
    intro _ _ _ h
    cases h
  | succ n ih =>
    intro l3 S q h K43
    unfold fX6_signAll_L2 at h
    rcases ite_e h with ⟨c9, h⟩ | ⟨c9, h⟩
    · refine At.iloadn dX6_signAll_2 rfl <| At.iloadn dX6_signAll_3 rfl <| At.icmp_ge_t (tgt := 43) dX6_signAll_4 (by decide) c9 <| ?_
      obtain rfl := Option.some.inj h
      exact At.sub [] rfl K43
    · refine At.iloadn dX6_signAll_2 rfl <| At.iloadn dX6_signAll_3 rfl <| At.icmp_ge_f (tgt := 43) dX6_signAll_4 (by decide) c9 <| ?_
      rcases ite_e h with ⟨c8, h⟩ | ⟨c8, h⟩
      · refine At.iloadn dX6_signAll_7 rfl <| At.aloadn dX6_signAll_8 rfl <| At.getR fl_X6_9 hl0 (le149 hl0) (rfO_6_0 hl0) dX6_signAll_9 <| At.alenI (shO_6_0 hl0) (le149 (shO_6_0 hl0)) (by decide) (z := 8) rfl dX6_signAll_12 <| At.icmp_ge_t (tgt := 43) dX6_signAll_13 (by decide) c8 <| ?_
        obtain rfl := Option.some.inj h
        exact At.sub [] rfl K43
      · refine At.iloadn dX6_signAll_7 rfl <| At.aloadn dX6_signAll_8 rfl <| At.getR fl_X6_9 hl0 (le149 hl0) (rfO_6_0 hl0) dX6_signAll_9 <| At.alenI (shO_6_0 hl0) (le149 (shO_6_0 hl0)) (by decide) (z := 8) rfl dX6_signAll_12 <| At.icmp_ge_f (tgt := 43) dX6_signAll_13 (by decide) c8 <| ?_
        refine At.aloadn dX6_signAll_16 rfl <| At.getR fl_X6_9 hl0 (le149 hl0) (rfO_6_0 hl0) dX6_signAll_17 <| At.iloadn dX6_signAll_20 rfl <| ?_
        obtain ⟨v1, hv1, g2, h⟩ := rdA_e h
        obtain ⟨q3, hj37, h⟩ := bnd_e h
        have K37 : At G mX6_signAll 1 37 [(0, vr l0), (1, vi l1), (2, vi l2), (3, vi l3)] [] (mm q3) 0 0 Φ := by
          obtain ⟨x7, hx7, h⟩ := lt_e h
          refine At.iinc (ls' := [(3, vi x7), (0, vr l0), (1, vi l1), (2, vi l2)]) dX6_signAll_37 rfl (by decide) (by rw [hx7]; rfl) <| At.goto (tgt := 2) dX6_signAll_40 (by decide) <| ?_
          exact At.sub [1, 2, 3, 0] rfl (ih _ _ _ h K43)
        clear h; have h := hj37; clear hj37
        rcases ite_e h with ⟨c6, h⟩ | ⟨c6, h⟩
        · refine At.iald (shO_6_0 hl0) (le149 (shO_6_0 hl0)) g2.1 g2.2 dX6_signAll_21 <| At.nm hv1 <| At.iconst dX6_signAll_22 (by decide) <| At.icmp_eq_t (tgt := 37) dX6_signAll_23 (by decide) c6 <| ?_
          obtain rfl := Option.some.inj h
          exact At.sub [0, 1, 2, 3] rfl K37
        · refine At.iald (shO_6_0 hl0) (le149 (shO_6_0 hl0)) g2.1 g2.2 dX6_signAll_21 <| At.nm hv1 <| At.iconst dX6_signAll_22 (by decide) <| At.icmp_eq_f (tgt := 37) dX6_signAll_23 (by decide) c6 <| ?_
          refine At.aloadn dX6_signAll_26 rfl <| At.getR fl_X6_9 hl0 (le149 hl0) (rfO_6_0 hl0) dX6_signAll_27 <| At.iloadn dX6_signAll_30 rfl <| At.iloadn dX6_signAll_31 rfl <| At.iloadn dX6_signAll_32 rfl <| At.ishr dX6_signAll_33 <| At.iconst dX6_signAll_34 (by decide) <| At.iand dX6_signAll_35 <| ?_
          obtain ⟨S4, hS4, g5, h⟩ := wrA_e h
          refine At.iast (shO_6_0 hl0) (le149 (shO_6_0 hl0)) g5.1 g5.2 dX6_signAll_36 <| At.nmS hS4 <| ?_
          obtain rfl := Option.some.inj h
          exact At.sub [0, 1, 2, 3] rfl K37
set_option maxRecDepth 100000 in
set_option maxHeartbeats 4000000 in
theorem rX6_signAll {G : GG} {t : Nat} {p1 : Int} {p2 : Int} {S : SS} {rr : SS} (ht : sh t = (6, 4)) (h : fX6_signAll t p1 p2 S = some rr) : RD G mX6_signAll 1 [vr t, vi p1, vi p2] S none rr := by
  unfold fX6_signAll at h
  refine Runs.of pl_X6 (Nat.le_of_ble_eq_true rfl) ?_
  show At G mX6_signAll 1 0 [(0, vr t), (1, vi p1), (2, vi p2)] [] (mm S) 0 0 (EQ none rr)
  refine At.iconst dX6_signAll_0 (by decide) <| At.istoren (ls' := [(3, vi 0), (0, vr t), (1, vi p1), (2, vi p2)]) dX6_signAll_1 (by decide) rfl <| ?_
  obtain ⟨q1, ho2, h⟩ := bnd_e h
  refine At.sub [1, 2, 3, 0] rfl (lX6_signAll_L2 ht FU _ _ q1 ho2 ?_)
  obtain rfl := Option.some.inj h
  exact At.vret rfl (Nat.zero_le _) (Nat.zero_le _) ⟨rfl, rfl⟩ dX6_signAll_43
