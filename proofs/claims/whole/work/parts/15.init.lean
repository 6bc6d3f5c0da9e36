theorem fk_X6_9 : Cond.fieldLink RX6 9 (TX6 0).1 (TX6 0).2.1 (TX6 0).2.2.1 ∈ lw_good := gd_mem (u5_in _ (List.mem_of_getElem? (i := 3) rfl)) rfl
theorem fk_X6_15 : Cond.fieldLink RX6 15 (TX6 1).1 (TX6 1).2.1 (TX6 1).2.2.1 ∈ lw_good := gd_mem (u5_in _ (List.mem_of_getElem? (i := 4) rfl)) rfl
theorem fk_X6_18 : Cond.fieldLink RX6 18 (TX6 2).1 (TX6 2).2.1 (TX6 2).2.2.1 ∈ lw_good := gd_mem (u5_in _ (List.mem_of_getElem? (i := 5) rfl)) rfl
set_option maxRecDepth 100000 in
set_option maxHeartbeats 4000000 in
theorem iX6_init {G : GG} {r : Nat} {R : Nat → Nat → Nat} {S : SS} (hr : sh r = (6, 4)) (hz : ZB R S r) : Runs G mX6_init 1 [vr r] (r, R, S) (fun v M => v = none ∧ M = ((r + 3), (up (up (up R r 0 (r + 1)) r 1 (r + 2)) r 2 (r + 3)), S)) := by
  have h149 := le149 hr
  have hpos := sh_pos hr (by decide)
  refine Runs.of pl_X6 (Nat.le_of_ble_eq_true rfl) ?_
  show At G mX6_init 1 0 [(0, vr r)] [] (r, R, S) 0 0 _
  refine At.aloadn dX6_init_0 rfl <| At.objI dX6_init_1 wo_X6_3 (by omega) (Nat.le_of_ble_eq_true rfl) (by decide) <| At.aloadn dX6_init_4 rfl <| At.bipush dX6_init_5 (by decide) <| ?_
  refine At.newI (N := 8) dX6_init_7 rfl (by decide) (shO_6_0 hr) hz (by omega) ⟨Nat.le_of_ble_eq_true rfl, Nat.le_of_ble_eq_true rfl⟩ <| ?_
  have z1 := hz.mo
  refine At.putR dX6_init_9 cl_6 (by decide) fk_X6_9 rfl rfl rfl hr (by omega) (by decide) (fun t ht => by rw [tyX6_ok 0 (by decide)] at ht; cases ht; first | exact Or.inl ⟨_, rfl⟩ | exact Or.inr ⟨_, rfl⟩) <| ?_
  have z2 := z1.pr (j := 0) (q := (r + 1)) (show r ≤ _ by omega)
  refine At.aloadn dX6_init_12 rfl <| At.iconst dX6_init_13 (by decide) <| ?_
  refine At.newI (N := 3) dX6_init_14 rfl (by decide) (shO_6_1 hr) z2 (by omega) ⟨Nat.le_of_ble_eq_true rfl, Nat.le_of_ble_eq_true rfl⟩ <| ?_
  have z3 := z2.mo
  refine At.putR dX6_init_16 cl_6 (by decide) fk_X6_15 rfl rfl rfl hr (by omega) (by decide) (fun t ht => by rw [tyX6_ok 1 (by decide)] at ht; cases ht; first | exact Or.inl ⟨_, rfl⟩ | exact Or.inr ⟨_, rfl⟩) <| ?_
  have z4 := z3.pr (j := 1) (q := (r + 2)) (show r ≤ _ by omega)
  refine At.aloadn dX6_init_19 rfl <| At.iconst dX6_init_20 (by decide) <| ?_
  refine At.newI (N := 3) dX6_init_21 rfl (by decide) (shO_6_2 hr) z4 (by omega) ⟨Nat.le_of_ble_eq_true rfl, Nat.le_of_ble_eq_true rfl⟩ <| ?_
  have z5 := z4.mo
  refine At.putR dX6_init_23 cl_6 (by decide) fk_X6_18 rfl rfl rfl hr (by omega) (by decide) (fun t ht => by rw [tyX6_ok 2 (by decide)] at ht; cases ht; first | exact Or.inl ⟨_, rfl⟩ | exact Or.inr ⟨_, rfl⟩) <| ?_
  have z6 := z5.pr (j := 2) (q := (r + 3)) (show r ≤ _ by omega)
  exact At.vret rfl (Nat.le_of_ble_eq_true rfl) (Nat.le_of_ble_eq_true rfl) ⟨rfl, rfl⟩ dX6_init_26
theorem fk_X8_9 : Cond.fieldLink RX8 9 (TX8 0).1 (TX8 0).2.1 (TX8 0).2.2.1 ∈ lw_good := gd_mem (u8_in _ (List.mem_of_getElem? (i := 0) rfl)) rfl
theorem fk_X8_15 : Cond.fieldLink RX8 15 (TX8 1).1 (TX8 1).2.1 (TX8 1).2.2.1 ∈ lw_good := gd_mem (u8_in _ (List.mem_of_getElem? (i := 3) rfl)) rfl
theorem fk_X8_18 : Cond.fieldLink RX8 18 (TX8 2).1 (TX8 2).2.1 (TX8 2).2.2.1 ∈ lw_good := gd_mem (u8_in _ (List.mem_of_getElem? (i := 6) rfl)) rfl
theorem fk_X8_21 : Cond.fieldLink RX8 21 (TX8 3).1 (TX8 3).2.1 (TX8 3).2.2.1 ∈ lw_good := gd_mem (u9_in _ (List.mem_of_getElem? (i := 1) rfl)) rfl
theorem fk_X8_27 : Cond.fieldLink RX8 27 (TX8 4).1 (TX8 4).2.1 (TX8 4).2.2.1 ∈ lw_good := gd_mem (u9_in _ (List.mem_of_getElem? (i := 4) rfl)) rfl
set_option maxRecDepth 100000 in
set_option maxHeartbeats 4000000 in
theorem iX8_init {G : GG} {r : Nat} {R : Nat → Nat → Nat} {S : SS} (hr : sh r = (8, 14)) (hz : ZB R S r) : Runs G mX8_init 2 [vr r] (r, R, S) (fun v M => v = none ∧ M = ((r + 8), (up (up (up (up (up (up (up (up R r 0 (r + 1)) r 1 (r + 2)) r 2 (r + 3)) r 3 (r + 4)) (r + 5) 0 (r + 6)) (r + 5) 1 (r + 7)) (r + 5) 2 (r + 8)) r 4 (r + 5)), (up S r 5 1))) := by
  have h149 := le149 hr
  have hpos := sh_pos hr (by decide)
  refine Runs.of pl_X8 (Nat.le_of_ble_eq_true rfl) ?_
  show At G mX8_init 2 0 [(0, vr r)] [] (r, R, S) 0 0 _
  refine At.aloadn dX8_init_0 rfl <| At.objI dX8_init_1 wo_X8_3 (by omega) (Nat.le_of_ble_eq_true rfl) (by decide) <| At.aloadn dX8_init_4 rfl <| At.bipush dX8_init_5 (by decide) <| ?_
  refine At.newI (N := 8) dX8_init_7 rfl (by decide) (shO_8_0 hr) hz (by omega) ⟨Nat.le_of_ble_eq_true rfl, Nat.le_of_ble_eq_true rfl⟩ <| ?_
  have z1 := hz.mo
  refine At.putR dX8_init_9 cl_8 (by decide) fk_X8_9 rfl rfl rfl hr (by omega) (by decide) (fun t ht => by rw [tyX8_ok 0 (by decide)] at ht; cases ht; first | exact Or.inl ⟨_, rfl⟩ | exact Or.inr ⟨_, rfl⟩) <| ?_
  have z2 := z1.pr (j := 0) (q := (r + 1)) (show r ≤ _ by omega)
  refine At.aloadn dX8_init_12 rfl <| At.bipush dX8_init_13 (by decide) <| ?_
  refine At.newI (N := 8) dX8_init_15 rfl (by decide) (shO_8_1 hr) z2 (by omega) ⟨Nat.le_of_ble_eq_true rfl, Nat.le_of_ble_eq_true rfl⟩ <| ?_
  have z3 := z2.mo
  refine At.putR dX8_init_17 cl_8 (by decide) fk_X8_15 rfl rfl rfl hr (by omega) (by decide) (fun t ht => by rw [tyX8_ok 1 (by decide)] at ht; cases ht; first | exact Or.inl ⟨_, rfl⟩ | exact Or.inr ⟨_, rfl⟩) <| ?_
  have z4 := z3.pr (j := 1) (q := (r + 2)) (show r ≤ _ by omega)
  refine At.aloadn dX8_init_20 rfl <| At.bipush dX8_init_21 (by decide) <| ?_
  refine At.newI (N := 8) dX8_init_23 rfl (by decide) (shO_8_2 hr) z4 (by omega) ⟨Nat.le_of_ble_eq_true rfl, Nat.le_of_ble_eq_true rfl⟩ <| ?_
  have z5 := z4.mo
  refine At.putR dX8_init_25 cl_8 (by decide) fk_X8_18 rfl rfl rfl hr (by omega) (by decide) (fun t ht => by rw [tyX8_ok 2 (by decide)] at ht; cases ht; first | exact Or.inl ⟨_, rfl⟩ | exact Or.inr ⟨_, rfl⟩) <| ?_
  have z6 := z5.pr (j := 2) (q := (r + 3)) (show r ≤ _ by omega)
  refine At.aloadn dX8_init_28 rfl <| At.sipush dX8_init_29 (by decide) <| ?_
  refine At.newI (N := 900) dX8_init_32 rfl (by decide) (shO_8_3 hr) z6 (by omega) ⟨Nat.le_of_ble_eq_true rfl, Nat.le_of_ble_eq_true rfl⟩ <| ?_
  have z7 := z6.mo
  refine At.putR dX8_init_34 cl_8 (by decide) fk_X8_21 rfl rfl rfl hr (by omega) (by decide) (fun t ht => by rw [tyX8_ok 3 (by decide)] at ht; cases ht; first | exact Or.inl ⟨_, rfl⟩ | exact Or.inr ⟨_, rfl⟩) <| ?_
  have z8 := z7.pr (j := 3) (q := (r + 4)) (show r ≤ _ by omega)
  refine At.aloadn dX8_init_37 rfl <| ?_
  refine At.newO dX8_init_38 cl_6 tyX6_ok df_6 wc_X8_24 wi_6 wn_6 (shO_8_4 hr) z8 (by omega) ⟨Nat.le_of_ble_eq_true rfl, Nat.le_of_ble_eq_true rfl⟩ <| ?_
  have z9 := z8.mo
  refine At.dup rfl dX8_init_41 <| ?_
  refine At.callI (av := []) (rest := [vr (r + 5), vr r]) mi_X6_init lk_X8_26 dX8_init_42 rfl rfl (by omega) (Nat.le_of_ble_eq_true rfl) (by decide) ⟨Nat.le_of_ble_eq_true rfl, Nat.le_of_ble_eq_true rfl⟩ (iX6_init (shO_8_4 hr) z9) ?_
  rintro _ _ ⟨rfl, rfl⟩
  have z10 := ((((z9.mono (show _ ≤ (r + 8) by omega)).pr (j := 0) (q := (r + 6)) (show (r + 5) ≤ _ by omega)).pr (j := 1) (q := (r + 7)) (show (r + 5) ≤ _ by omega)).pr (j := 2) (q := (r + 8)) (show (r + 5) ≤ _ by omega))
  refine At.putR dX8_init_45 cl_8 (by decide) fk_X8_27 rfl rfl rfl hr (by omega) (by decide) (fun t ht => by rw [tyX8_ok 4 (by decide)] at ht; cases ht; first | exact Or.inl ⟨_, rfl⟩ | exact Or.inr ⟨_, rfl⟩) <| ?_
  have z11 := z10.pr (j := 4) (q := (r + 5)) (show r ≤ _ by omega)
  refine At.aloadn dX8_init_48 rfl <| At.iconst dX8_init_49 (by decide) <| ?_
  refine At.putI fw_X8_31 hr (by omega) dX8_init_50 <| ?_
  have z12 := z11.ps (j := 5) (z := 1) (show r ≤ _ by omega)
  exact At.vret rfl (Nat.le_of_ble_eq_true rfl) (Nat.le_of_ble_eq_true rfl) ⟨rfl, rfl⟩ dX8_init_53
theorem fk_X9_9 : Cond.fieldLink RX9 9 (TX9 0).1 (TX9 0).2.1 (TX9 0).2.2.1 ∈ lw_good := gd_mem (u45_in _ (List.mem_of_getElem? (i := 3) rfl)) rfl
set_option maxRecDepth 100000 in
set_option maxHeartbeats 4000000 in
theorem iX9_init {G : GG} {r : Nat} {R : Nat → Nat → Nat} {S : SS} (hr : sh r = (9, 3)) (hz : ZB R S r) : Runs G mX9_init 1 [vr r] (r, R, S) (fun v M => v = none ∧ M = ((r + 1), (up R r 0 (r + 1)), (up S r 2 (-1)))) := by
  have h149 := le149 hr
  have hpos := sh_pos hr (by decide)
  refine Runs.of pl_X9 (Nat.le_of_ble_eq_true rfl) ?_
  show At G mX9_init 1 0 [(0, vr r)] [] (r, R, S) 0 0 _
  refine At.aloadn dX9_init_0 rfl <| At.objI dX9_init_1 wo_X9_3 (by omega) (Nat.le_of_ble_eq_true rfl) (by decide) <| At.aloadn dX9_init_4 rfl <| At.bipush dX9_init_5 (by decide) <| ?_
  refine At.newJ (N := 40) dX9_init_7 rfl (by decide) (shO_9_0 hr) hz (by omega) ⟨Nat.le_of_ble_eq_true rfl, Nat.le_of_ble_eq_true rfl⟩ <| ?_
  have z1 := hz.mo
  refine At.putR dX9_init_9 cl_9 (by decide) fk_X9_9 rfl rfl rfl hr (by omega) (by decide) (fun t ht => by rw [tyX9_ok 0 (by decide)] at ht; cases ht; first | exact Or.inl ⟨_, rfl⟩ | exact Or.inr ⟨_, rfl⟩) <| ?_
  have z2 := z1.pr (j := 0) (q := (r + 1)) (show r ≤ _ by omega)
  refine At.aloadn dX9_init_12 rfl <| At.iconst dX9_init_13 (by decide) <| ?_
  refine At.putI fw_X9_15 hr (by omega) dX9_init_14 <| ?_
  have z3 := z2.ps (j := 2) (z := -1) (show r ≤ _ by omega)
  exact At.vret rfl (Nat.le_of_ble_eq_true rfl) (Nat.le_of_ble_eq_true rfl) ⟨rfl, rfl⟩ dX9_init_17
theorem fk_X10_9 : Cond.fieldLink RX10 9 (TX10 1).1 (TX10 1).2.1 (TX10 1).2.2.1 ∈ lw_good := gd_mem (u32_in _ (List.mem_of_getElem? (i := 5) rfl)) rfl
theorem fk_X10_15 : Cond.fieldLink RX10 15 (TX10 2).1 (TX10 2).2.1 (TX10 2).2.2.1 ∈ lw_good := gd_mem (u32_in _ (List.mem_of_getElem? (i := 6) rfl)) rfl
theorem fk_X10_18 : Cond.fieldLink RX10 18 (TX10 3).1 (TX10 3).2.1 (TX10 3).2.2.1 ∈ lw_good := gd_mem (u32_in _ (List.mem_of_getElem? (i := 7) rfl)) rfl
theorem fk_X10_21 : Cond.fieldLink RX10 21 (TX10 4).1 (TX10 4).2.1 (TX10 4).2.2.1 ∈ lw_good := gd_mem (u33_in _ (List.mem_of_getElem? (i := 0) rfl)) rfl
theorem fk_X10_24 : Cond.fieldLink RX10 24 (TX10 5).1 (TX10 5).2.1 (TX10 5).2.2.1 ∈ lw_good := gd_mem (u33_in _ (List.mem_of_getElem? (i := 1) rfl)) rfl
theorem fk_X10_27 : Cond.fieldLink RX10 27 (TX10 6).1 (TX10 6).2.1 (TX10 6).2.2.1 ∈ lw_good := gd_mem (u33_in _ (List.mem_of_getElem? (i := 2) rfl)) rfl
theorem fk_X10_30 : Cond.fieldLink RX10 30 (TX10 7).1 (TX10 7).2.1 (TX10 7).2.2.1 ∈ lw_good := gd_mem (u33_in _ (List.mem_of_getElem? (i := 3) rfl)) rfl
theorem fk_X10_33 : Cond.fieldLink RX10 33 (TX10 0).1 (TX10 0).2.1 (TX10 0).2.2.1 ∈ lw_good := gd_mem (u32_in _ (List.mem_of_getElem? (i := 4) rfl)) rfl
set_option maxRecDepth 100000 in
set_option maxHeartbeats 4000000 in
theorem iX10_init {G : GG} {r : Nat} {R : Nat → Nat → Nat} {S : SS} (hr : sh r = (10, 10)) (hz : ZB R S r) : Runs G mX10_init 1 [vr r, vr 30] (r, R, S) (fun v M => v = none ∧ M = ((r + 7), (up (up (up (up (up (up (up (up R r 1 (r + 1)) r 2 (r + 2)) r 3 (r + 3)) r 4 (r + 4)) r 5 (r + 5)) r 6 (r + 6)) r 7 (r + 7)) r 0 30), S)) := by
  have h149 := le149 hr
  have hpos := sh_pos hr (by decide)
  refine Runs.of pl_X10 (Nat.le_of_ble_eq_true rfl) ?_
  show At G mX10_init 1 0 [(0, vr r), (1, vr 30)] [] (r, R, S) 0 0 _
  refine At.aloadn dX10_init_0 rfl <| At.objI dX10_init_1 wo_X10_3 (by omega) (Nat.le_of_ble_eq_true rfl) (by decide) <| At.aloadn dX10_init_4 rfl <| At.bipush dX10_init_5 (by decide) <| ?_
  refine At.newI (N := 120) dX10_init_7 rfl (by decide) (shO_10_1 hr) hz (by omega) ⟨Nat.le_of_ble_eq_true rfl, Nat.le_of_ble_eq_true rfl⟩ <| ?_
  have z1 := hz.mo
  refine At.putR dX10_init_9 cl_10 (by decide) fk_X10_9 rfl rfl rfl hr (by omega) (by decide) (fun t ht => by rw [tyX10_ok 1 (by decide)] at ht; cases ht; first | exact Or.inl ⟨_, rfl⟩ | exact Or.inr ⟨_, rfl⟩) <| ?_
  have z2 := z1.pr (j := 1) (q := (r + 1)) (show r ≤ _ by omega)
  refine At.aloadn dX10_init_12 rfl <| At.bipush dX10_init_13 (by decide) <| ?_
  refine At.newI (N := 120) dX10_init_15 rfl (by decide) (shO_10_2 hr) z2 (by omega) ⟨Nat.le_of_ble_eq_true rfl, Nat.le_of_ble_eq_true rfl⟩ <| ?_
  have z3 := z2.mo
  refine At.putR dX10_init_17 cl_10 (by decide) fk_X10_15 rfl rfl rfl hr (by omega) (by decide) (fun t ht => by rw [tyX10_ok 2 (by decide)] at ht; cases ht; first | exact Or.inl ⟨_, rfl⟩ | exact Or.inr ⟨_, rfl⟩) <| ?_
  have z4 := z3.pr (j := 2) (q := (r + 2)) (show r ≤ _ by omega)
  refine At.aloadn dX10_init_20 rfl <| At.bipush dX10_init_21 (by decide) <| ?_
  refine At.newI (N := 120) dX10_init_23 rfl (by decide) (shO_10_3 hr) z4 (by omega) ⟨Nat.le_of_ble_eq_true rfl, Nat.le_of_ble_eq_true rfl⟩ <| ?_
  have z5 := z4.mo
  refine At.putR dX10_init_25 cl_10 (by decide) fk_X10_18 rfl rfl rfl hr (by omega) (by decide) (fun t ht => by rw [tyX10_ok 3 (by decide)] at ht; cases ht; first | exact Or.inl ⟨_, rfl⟩ | exact Or.inr ⟨_, rfl⟩) <| ?_
  have z6 := z5.pr (j := 3) (q := (r + 3)) (show r ≤ _ by omega)
  refine At.aloadn dX10_init_28 rfl <| At.bipush dX10_init_29 (by decide) <| ?_
  refine At.newI (N := 120) dX10_init_31 rfl (by decide) (shO_10_4 hr) z6 (by omega) ⟨Nat.le_of_ble_eq_true rfl, Nat.le_of_ble_eq_true rfl⟩ <| ?_
  have z7 := z6.mo
  refine At.putR dX10_init_33 cl_10 (by decide) fk_X10_21 rfl rfl rfl hr (by omega) (by decide) (fun t ht => by rw [tyX10_ok 4 (by decide)] at ht; cases ht; first | exact Or.inl ⟨_, rfl⟩ | exact Or.inr ⟨_, rfl⟩) <| ?_
  have z8 := z7.pr (j := 4) (q := (r + 4)) (show r ≤ _ by omega)
  refine At.aloadn dX10_init_36 rfl <| At.bipush dX10_init_37 (by decide) <| ?_
  refine At.newI (N := 6) dX10_init_39 rfl (by decide) (shO_10_5 hr) z8 (by omega) ⟨Nat.le_of_ble_eq_true rfl, Nat.le_of_ble_eq_true rfl⟩ <| ?_
  have z9 := z8.mo
  refine At.putR dX10_init_41 cl_10 (by decide) fk_X10_24 rfl rfl rfl hr (by omega) (by decide) (fun t ht => by rw [tyX10_ok 5 (by decide)] at ht; cases ht; first | exact Or.inl ⟨_, rfl⟩ | exact Or.inr ⟨_, rfl⟩) <| ?_
  have z10 := z9.pr (j := 5) (q := (r + 5)) (show r ≤ _ by omega)
  refine At.aloadn dX10_init_44 rfl <| At.bipush dX10_init_45 (by decide) <| ?_
  refine At.newI (N := 120) dX10_init_47 rfl (by decide) (shO_10_6 hr) z10 (by omega) ⟨Nat.le_of_ble_eq_true rfl, Nat.le_of_ble_eq_true rfl⟩ <| ?_
  have z11 := z10.mo
  refine At.putR dX10_init_49 cl_10 (by decide) fk_X10_27 rfl rfl rfl hr (by omega) (by decide) (fun t ht => by rw [tyX10_ok 6 (by decide)] at ht; cases ht; first | exact Or.inl ⟨_, rfl⟩ | exact Or.inr ⟨_, rfl⟩) <| ?_
  have z12 := z11.pr (j := 6) (q := (r + 6)) (show r ≤ _ by omega)
  refine At.aloadn dX10_init_52 rfl <| At.bipush dX10_init_53 (by decide) <| ?_
  refine At.newI (N := 120) dX10_init_55 rfl (by decide) (shO_10_7 hr) z12 (by omega) ⟨Nat.le_of_ble_eq_true rfl, Nat.le_of_ble_eq_true rfl⟩ <| ?_
  have z13 := z12.mo
  refine At.putR dX10_init_57 cl_10 (by decide) fk_X10_30 rfl rfl rfl hr (by omega) (by decide) (fun t ht => by rw [tyX10_ok 7 (by decide)] at ht; cases ht; first | exact Or.inl ⟨_, rfl⟩ | exact Or.inr ⟨_, rfl⟩) <| ?_
  have z14 := z13.pr (j := 7) (q := (r + 7)) (show r ≤ _ by omega)
  refine At.aloadn dX10_init_60 rfl <| At.aloadn dX10_init_61 rfl <| ?_
  refine At.putR dX10_init_62 cl_10 (by decide) fk_X10_33 rfl rfl rfl hr (by omega) (by decide) (fun t ht => by rw [tyX10_ok 0 (by decide)] at ht; cases ht; first | exact Or.inl ⟨_, rfl⟩ | exact Or.inr ⟨_, rfl⟩) <| ?_
  have z15 := z14.pr (j := 0) (q := 30) (show r ≤ _ by omega)
  exact At.vret rfl (Nat.le_of_ble_eq_true rfl) (Nat.le_of_ble_eq_true rfl) ⟨rfl, rfl⟩ dX10_init_65
theorem fk_X3_9 : Cond.fieldLink RX3 9 (TX3 0).1 (TX3 0).2.1 (TX3 0).2.2.1 ∈ lw_good := gd_mem (u18_in _ (List.mem_of_getElem? (i := 2) rfl)) rfl
theorem fk_X3_18 : Cond.fieldLink RX3 18 (TX3 1).1 (TX3 1).2.1 (TX3 1).2.2.1 ∈ lw_good := gd_mem (u18_in _ (List.mem_of_getElem? (i := 3) rfl)) rfl
set_option maxRecDepth 100000 in
set_option maxHeartbeats 4000000 in
theorem iX3_init {G : GG} {R : Nat → Nat → Nat} {S : SS} (hz : ZB R S 19) : Runs G mX3_init 3 [vr 19] (19, R, S) (fun v M => v = none ∧ M = (29, (up (up (up (up (up (up (up (up (up (up R 19 0 20) 21 0 22) 21 1 23) 21 2 24) 21 3 25) 26 0 27) 26 1 28) 26 2 29) 21 4 26) 19 1 21), (up (up S 21 5 1) 19 10 (-1)))) := by
  refine Runs.of pl_X3 (Nat.le_of_ble_eq_true rfl) ?_
  show At G mX3_init 3 0 [(0, vr 19)] [] (19, R, S) 0 0 _
  refine At.aloadn dX3_init_0 rfl <| At.objI dX3_init_1 wo_X3_3 (by omega) (Nat.le_of_ble_eq_true rfl) (by decide) <| At.aloadn dX3_init_4 rfl <| At.sipush dX3_init_5 (by decide) <| ?_
  refine At.newB (N := 900) dX3_init_8 rfl (by decide) sh_20 hz (by omega) ⟨Nat.le_of_ble_eq_true rfl, Nat.le_of_ble_eq_true rfl⟩ <| ?_
  have z1 := hz.mo
  refine At.putR dX3_init_10 cl_3 (by decide) fk_X3_9 rfl rfl rfl sh_19 (by omega) (by decide) (fun t ht => by rw [tyX3_ok 0 (by decide)] at ht; cases ht; first | exact Or.inl ⟨_, rfl⟩ | exact Or.inr ⟨_, rfl⟩) <| ?_
  have z2 := z1.pr (j := 0) (q := 20) (show 19 ≤ _ by omega)
  refine At.aloadn dX3_init_13 rfl <| ?_
  refine At.newO dX3_init_14 cl_8 tyX8_ok df_8 wc_X3_15 wi_8 wn_8 sh_21 z2 (by omega) ⟨Nat.le_of_ble_eq_true rfl, Nat.le_of_ble_eq_true rfl⟩ <| ?_
  have z3 := z2.mo
  refine At.dup rfl dX3_init_17 <| ?_
  refine At.callI (av := []) (rest := [vr 21, vr 19]) mi_X8_init lk_X3_17 dX3_init_18 rfl rfl (by omega) (Nat.le_of_ble_eq_true rfl) (by decide) ⟨Nat.le_of_ble_eq_true rfl, Nat.le_of_ble_eq_true rfl⟩ (iX8_init sh_21 z3) ?_
  rintro _ _ ⟨rfl, rfl⟩
  have z4 := ((((((((((z3.mono (show _ ≤ 29 by omega)).pr (j := 0) (q := 22) (show 21 ≤ _ by omega)).pr (j := 1) (q := 23) (show 21 ≤ _ by omega)).pr (j := 2) (q := 24) (show 21 ≤ _ by omega)).pr (j := 3) (q := 25) (show 21 ≤ _ by omega)).pr (j := 0) (q := 27) (show 26 ≤ _ by omega)).pr (j := 1) (q := 28) (show 26 ≤ _ by omega)).pr (j := 2) (q := 29) (show 26 ≤ _ by omega)).pr (j := 4) (q := 26) (show 21 ≤ _ by omega)).ps (j := 5) (z := 1) (show 21 ≤ _ by omega))
  refine At.putR dX3_init_21 cl_3 (by decide) fk_X3_18 rfl rfl rfl sh_19 (by omega) (by decide) (fun t ht => by rw [tyX3_ok 1 (by decide)] at ht; cases ht; first | exact Or.inl ⟨_, rfl⟩ | exact Or.inr ⟨_, rfl⟩) <| ?_
  have z5 := z4.pr (j := 1) (q := 21) (show 19 ≤ _ by omega)
  refine At.aloadn dX3_init_24 rfl <| At.iconst dX3_init_25 (by decide) <| ?_
  refine At.putI fw_X3_22 sh_19 (by omega) dX3_init_26 <| ?_
  have z6 := z5.ps (j := 10) (z := -1) (show 19 ≤ _ by omega)
  exact At.vret rfl (Nat.le_of_ble_eq_true rfl) (Nat.le_of_ble_eq_true rfl) ⟨rfl, rfl⟩ dX3_init_29
theorem fk_X4_9 : Cond.fieldLink RX4 9 (TX4 0).1 (TX4 0).2.1 (TX4 0).2.2.1 ∈ lw_good := gd_mem (u24_in _ (List.mem_of_getElem? (i := 5) rfl)) rfl
set_option maxRecDepth 100000 in
set_option maxHeartbeats 4000000 in
theorem iX4_init {G : GG} {R : Nat → Nat → Nat} {S : SS} (hz : ZB R S 31) : Runs G mX4_init 1 [vr 31] (31, R, S) (fun v M => v = none ∧ M = (32, (up R 31 0 32), S)) := by
  refine Runs.of pl_X4 (Nat.le_of_ble_eq_true rfl) ?_
  show At G mX4_init 1 0 [(0, vr 31)] [] (31, R, S) 0 0 _
  refine At.aloadn dX4_init_0 rfl <| At.objI dX4_init_1 wo_X4_1 (by omega) (Nat.le_of_ble_eq_true rfl) (by decide) <| At.aloadn dX4_init_4 rfl <| At.bipush dX4_init_5 (by decide) <| ?_
  refine At.newI (N := 64) dX4_init_7 rfl (by decide) sh_32 hz (by omega) ⟨Nat.le_of_ble_eq_true rfl, Nat.le_of_ble_eq_true rfl⟩ <| ?_
  have z1 := hz.mo
  refine At.putR dX4_init_9 cl_4 (by decide) fk_X4_9 rfl rfl rfl sh_31 (by omega) (by decide) (fun t ht => by rw [tyX4_ok 0 (by decide)] at ht; cases ht; first | exact Or.inl ⟨_, rfl⟩ | exact Or.inr ⟨_, rfl⟩) <| ?_
  have z2 := z1.pr (j := 0) (q := 32) (show 31 ≤ _ by omega)
  exact At.vret rfl (Nat.le_of_ble_eq_true rfl) (Nat.le_of_ble_eq_true rfl) ⟨rfl, rfl⟩ dX4_init_12
theorem fk_X5_12 : Cond.fieldLink RX5 12 (TX5 1).1 (TX5 1).2.1 (TX5 1).2.2.1 ∈ lw_good := gd_mem (u27_in _ (List.mem_of_getElem? (i := 6) rfl)) rfl
theorem fk_X5_18 : Cond.fieldLink RX5 18 (TX5 2).1 (TX5 2).2.1 (TX5 2).2.2.1 ∈ lw_good := gd_mem (u27_in _ (List.mem_of_getElem? (i := 7) rfl)) rfl
theorem fk_X5_26 : Cond.fieldLink RX5 26 (TX5 0).1 (TX5 0).2.1 (TX5 0).2.2.1 ∈ lw_good := gd_mem (u27_in _ (List.mem_of_getElem? (i := 3) rfl)) rfl
set_option maxRecDepth 100000 in
set_option maxHeartbeats 4000000 in
theorem iX5_init {G : GG} {R : Nat → Nat → Nat} {S : SS} (hz : ZB R S 30) : Runs G mX5_init 2 [vr 30, vr 2] (30, R, S) (fun v M => v = none ∧ M = (33, (up (up (up (up R 31 0 32) 30 1 31) 30 2 33) 30 0 2), (up S 30 3 (-1)))) := by
  refine Runs.of pl_X5 (Nat.le_of_ble_eq_true rfl) ?_
  show At G mX5_init 2 0 [(0, vr 30), (1, vr 2)] [] (30, R, S) 0 0 _
  refine At.aloadn dX5_init_0 rfl <| At.objI dX5_init_1 wo_X5_3 (by omega) (Nat.le_of_ble_eq_true rfl) (by decide) <| At.aloadn dX5_init_4 rfl <| ?_
  refine At.newO dX5_init_5 cl_4 tyX4_ok df_4 wc_X5_9 wi_4 wn_4 sh_31 hz (by omega) ⟨Nat.le_of_ble_eq_true rfl, Nat.le_of_ble_eq_true rfl⟩ <| ?_
  have z1 := hz.mo
  refine At.dup rfl dX5_init_8 <| ?_
  refine At.callI (av := []) (rest := [vr 31, vr 30]) mi_X4_init lk_X5_11 dX5_init_9 rfl rfl (by omega) (Nat.le_of_ble_eq_true rfl) (by decide) ⟨Nat.le_of_ble_eq_true rfl, Nat.le_of_ble_eq_true rfl⟩ (iX4_init z1) ?_
  rintro _ _ ⟨rfl, rfl⟩
  have z2 := ((z1.mono (show _ ≤ 32 by omega)).pr (j := 0) (q := 32) (show 31 ≤ _ by omega))
  refine At.putR dX5_init_12 cl_5 (by decide) fk_X5_12 rfl rfl rfl sh_30 (by omega) (by decide) (fun t ht => by rw [tyX5_ok 1 (by decide)] at ht; cases ht; first | exact Or.inl ⟨_, rfl⟩ | exact Or.inr ⟨_, rfl⟩) <| ?_
  have z3 := z2.pr (j := 1) (q := 31) (show 30 ≤ _ by omega)
  refine At.aloadn dX5_init_15 rfl <| At.sipush dX5_init_16 (by decide) <| ?_
  refine At.newI (N := 960) dX5_init_19 rfl (by decide) sh_33 z3 (by omega) ⟨Nat.le_of_ble_eq_true rfl, Nat.le_of_ble_eq_true rfl⟩ <| ?_
  have z4 := z3.mo
  refine At.putR dX5_init_21 cl_5 (by decide) fk_X5_18 rfl rfl rfl sh_30 (by omega) (by decide) (fun t ht => by rw [tyX5_ok 2 (by decide)] at ht; cases ht; first | exact Or.inl ⟨_, rfl⟩ | exact Or.inr ⟨_, rfl⟩) <| ?_
  have z5 := z4.pr (j := 2) (q := 33) (show 30 ≤ _ by omega)
  refine At.aloadn dX5_init_24 rfl <| At.iconst dX5_init_25 (by decide) <| ?_
  refine At.putI fw_X5_22 sh_30 (by omega) dX5_init_26 <| ?_
  have z6 := z5.ps (j := 3) (z := -1) (show 30 ≤ _ by omega)
  refine At.aloadn dX5_init_29 rfl <| At.aloadn dX5_init_30 rfl <| ?_
  refine At.putR dX5_init_31 cl_5 (by decide) fk_X5_26 rfl rfl rfl sh_30 (by omega) (by decide) (fun t ht => by rw [tyX5_ok 0 (by decide)] at ht; cases ht; first | exact Or.inl ⟨_, rfl⟩ | exact Or.inr ⟨_, rfl⟩) <| ?_
  have z7 := z6.pr (j := 0) (q := 2) (show 30 ≤ _ by omega)
  exact At.vret rfl (Nat.le_of_ble_eq_true rfl) (Nat.le_of_ble_eq_true rfl) ⟨rfl, rfl⟩ dX5_init_34
theorem fk_X0_9 : Cond.fieldLink RX0 9 (TX0 0).1 (TX0 0).2.1 (TX0 0).2.2.1 ∈ lw_good := gd_mem (u30_in _ (List.mem_of_getElem? (i := 0) rfl)) rfl
theorem fk_X0_15 : Cond.fieldLink RX0 15 (TX0 1).1 (TX0 1).2.1 (TX0 1).2.2.1 ∈ lw_good := gd_mem (u30_in _ (List.mem_of_getElem? (i := 1) rfl)) rfl
set_option maxRecDepth 100000 in
set_option maxHeartbeats 4000000 in
theorem iX0_init {G : GG} {R : Nat → Nat → Nat} {S : SS} (hz : ZB R S 34) : Runs G mX0_init 1 [vr 34, vr 2, vr 30] (34, R, S) (fun v M => v = none ∧ M = (34, (up (up R 34 0 2) 34 1 30), S)) := by
  refine Runs.of pl_X0 (Nat.le_of_ble_eq_true rfl) ?_
  show At G mX0_init 1 0 [(0, vr 34), (1, vr 2), (2, vr 30)] [] (34, R, S) 0 0 _
  refine At.aloadn dX0_init_0 rfl <| At.objI dX0_init_1 wo_X0_3 (by omega) (Nat.le_of_ble_eq_true rfl) (by decide) <| At.aloadn dX0_init_4 rfl <| At.aloadn dX0_init_5 rfl <| ?_
  refine At.putR dX0_init_6 cl_0 (by decide) fk_X0_9 rfl rfl rfl sh_34 (by omega) (by decide) (fun t ht => by rw [tyX0_ok 0 (by decide)] at ht; cases ht; first | exact Or.inl ⟨_, rfl⟩ | exact Or.inr ⟨_, rfl⟩) <| ?_
  have z1 := hz.pr (j := 0) (q := 2) (show 34 ≤ _ by omega)
  refine At.aloadn dX0_init_9 rfl <| At.aloadn dX0_init_10 rfl <| ?_
  refine At.putR dX0_init_11 cl_0 (by decide) fk_X0_15 rfl rfl rfl sh_34 (by omega) (by decide) (fun t ht => by rw [tyX0_ok 1 (by decide)] at ht; cases ht; first | exact Or.inl ⟨_, rfl⟩ | exact Or.inr ⟨_, rfl⟩) <| ?_
  have z2 := z1.pr (j := 1) (q := 30) (show 34 ≤ _ by omega)
  exact At.vret rfl (Nat.le_of_ble_eq_true rfl) (Nat.le_of_ble_eq_true rfl) ⟨rfl, rfl⟩ dX0_init_14
theorem fk_X7_9 : Cond.fieldLink RX7 9 (TX7 1).1 (TX7 1).2.1 (TX7 1).2.2.1 ∈ lw_good := gd_mem (u37_in _ (List.mem_of_getElem? (i := 4) rfl)) rfl
theorem fk_X7_15 : Cond.fieldLink RX7 15 (TX7 2).1 (TX7 2).2.1 (TX7 2).2.2.1 ∈ lw_good := gd_mem (u37_in _ (List.mem_of_getElem? (i := 5) rfl)) rfl
theorem fk_X7_18 : Cond.fieldLink RX7 18 (TX7 0).1 (TX7 0).2.1 (TX7 0).2.2.1 ∈ lw_good := gd_mem (u37_in _ (List.mem_of_getElem? (i := 3) rfl)) rfl
set_option maxRecDepth 100000 in
set_option maxHeartbeats 4000000 in
theorem iX7_init {G : GG} {R : Nat → Nat → Nat} {S : SS} (hz : ZB R S 51) : Runs G mX7_init 1 [vr 51, vr 30] (51, R, S) (fun v M => v = none ∧ M = (53, (up (up (up R 51 1 52) 51 2 53) 51 0 30), S)) := by
  refine Runs.of pl_X7 (Nat.le_of_ble_eq_true rfl) ?_
  show At G mX7_init 1 0 [(0, vr 51), (1, vr 30)] [] (51, R, S) 0 0 _
  refine At.aloadn dX7_init_0 rfl <| At.objI dX7_init_1 wo_X7_3 (by omega) (Nat.le_of_ble_eq_true rfl) (by decide) <| At.aloadn dX7_init_4 rfl <| At.bipush dX7_init_5 (by decide) <| ?_
  refine At.newJ (N := 120) dX7_init_7 rfl (by decide) sh_52 hz (by omega) ⟨Nat.le_of_ble_eq_true rfl, Nat.le_of_ble_eq_true rfl⟩ <| ?_
  have z1 := hz.mo
  refine At.putR dX7_init_9 cl_7 (by decide) fk_X7_9 rfl rfl rfl sh_51 (by omega) (by decide) (fun t ht => by rw [tyX7_ok 1 (by decide)] at ht; cases ht; first | exact Or.inl ⟨_, rfl⟩ | exact Or.inr ⟨_, rfl⟩) <| ?_
  have z2 := z1.pr (j := 1) (q := 52) (show 51 ≤ _ by omega)
  refine At.aloadn dX7_init_12 rfl <| At.bipush dX7_init_13 (by decide) <| ?_
  refine At.newJ (N := 120) dX7_init_15 rfl (by decide) sh_53 z2 (by omega) ⟨Nat.le_of_ble_eq_true rfl, Nat.le_of_ble_eq_true rfl⟩ <| ?_
  have z3 := z2.mo
  refine At.putR dX7_init_17 cl_7 (by decide) fk_X7_15 rfl rfl rfl sh_51 (by omega) (by decide) (fun t ht => by rw [tyX7_ok 2 (by decide)] at ht; cases ht; first | exact Or.inl ⟨_, rfl⟩ | exact Or.inr ⟨_, rfl⟩) <| ?_
  have z4 := z3.pr (j := 2) (q := 53) (show 51 ≤ _ by omega)
  refine At.aloadn dX7_init_20 rfl <| At.aloadn dX7_init_21 rfl <| ?_
  refine At.putR dX7_init_22 cl_7 (by decide) fk_X7_18 rfl rfl rfl sh_51 (by omega) (by decide) (fun t ht => by rw [tyX7_ok 0 (by decide)] at ht; cases ht; first | exact Or.inl ⟨_, rfl⟩ | exact Or.inr ⟨_, rfl⟩) <| ?_
  have z5 := z4.pr (j := 0) (q := 30) (show 51 ≤ _ by omega)
  exact At.vret rfl (Nat.le_of_ble_eq_true rfl) (Nat.le_of_ble_eq_true rfl) ⟨rfl, rfl⟩ dX7_init_25
theorem fk_X1_12 : Cond.fieldLink RX1 12 (TX1 1).1 (TX1 1).2.1 (TX1 1).2.2.1 ∈ lw_good := gd_mem (u40_in _ (List.mem_of_getElem? (i := 3) rfl)) rfl
theorem fk_X1_18 : Cond.fieldLink RX1 18 (TX1 0).1 (TX1 0).2.1 (TX1 0).2.2.1 ∈ lw_good := gd_mem (u40_in _ (List.mem_of_getElem? (i := 2) rfl)) rfl
set_option maxRecDepth 100000 in
set_option maxHeartbeats 4000000 in
theorem iX1_init {G : GG} {R : Nat → Nat → Nat} {S : SS} (hz : ZB R S 54) : Runs G mX1_init 2 [vr 54, vr 30] (54, R, S) (fun v M => v = none ∧ M = (58, (up (up (up (up (up R 55 0 56) 55 1 57) 55 2 58) 54 1 55) 54 0 30), S)) := by
  refine Runs.of pl_X1 (Nat.le_of_ble_eq_true rfl) ?_
  show At G mX1_init 2 0 [(0, vr 54), (1, vr 30)] [] (54, R, S) 0 0 _
  refine At.aloadn dX1_init_0 rfl <| At.objI dX1_init_1 wo_X1_3 (by omega) (Nat.le_of_ble_eq_true rfl) (by decide) <| At.aloadn dX1_init_4 rfl <| ?_
  refine At.newO dX1_init_5 cl_6 tyX6_ok df_6 wc_X1_9 wi_6 wn_6 sh_55 hz (by omega) ⟨Nat.le_of_ble_eq_true rfl, Nat.le_of_ble_eq_true rfl⟩ <| ?_
  have z1 := hz.mo
  refine At.dup rfl dX1_init_8 <| ?_
  refine At.callI (av := []) (rest := [vr 55, vr 54]) mi_X6_init lk_X1_11 dX1_init_9 rfl rfl (by omega) (Nat.le_of_ble_eq_true rfl) (by decide) ⟨Nat.le_of_ble_eq_true rfl, Nat.le_of_ble_eq_true rfl⟩ (iX6_init sh_55 z1) ?_
  rintro _ _ ⟨rfl, rfl⟩
  have z2 := ((((z1.mono (show _ ≤ 58 by omega)).pr (j := 0) (q := 56) (show 55 ≤ _ by omega)).pr (j := 1) (q := 57) (show 55 ≤ _ by omega)).pr (j := 2) (q := 58) (show 55 ≤ _ by omega))
  refine At.putR dX1_init_12 cl_1 (by decide) fk_X1_12 rfl rfl rfl sh_54 (by omega) (by decide) (fun t ht => by rw [tyX1_ok 1 (by decide)] at ht; cases ht; first | exact Or.inl ⟨_, rfl⟩ | exact Or.inr ⟨_, rfl⟩) <| ?_
  have z3 := z2.pr (j := 1) (q := 55) (show 54 ≤ _ by omega)
  refine At.aloadn dX1_init_15 rfl <| At.aloadn dX1_init_16 rfl <| ?_
  refine At.putR dX1_init_17 cl_1 (by decide) fk_X1_18 rfl rfl rfl sh_54 (by omega) (by decide) (fun t ht => by rw [tyX1_ok 0 (by decide)] at ht; cases ht; first | exact Or.inl ⟨_, rfl⟩ | exact Or.inr ⟨_, rfl⟩) <| ?_
  have z4 := z3.pr (j := 0) (q := 30) (show 54 ≤ _ by omega)
  exact At.vret rfl (Nat.le_of_ble_eq_true rfl) (Nat.le_of_ble_eq_true rfl) ⟨rfl, rfl⟩ dX1_init_20
theorem fk_X2_11 : Cond.fieldLink RX2 11 (TX2 0).1 (TX2 0).2.1 (TX2 0).2.2.1 ∈ lw_good := gd_mem (u43_in _ (List.mem_of_getElem? (i := 0) rfl)) rfl
set_option maxRecDepth 100000 in
set_option maxHeartbeats 4000000 in
theorem iX2_init {G : GG} {R : Nat → Nat → Nat} {S : SS} (hz : ZB R S 59) : Runs G mX2_init 2 [vr 59] (59, R, S) (fun v M => v = none ∧ M = (100, (up (up (up (up (up (up (up (up (up (up (up (up (up (up (up (up (up (up (up (up (up (up (up (up (up (up (up (up (up (up (up (up (up (up (up (up (up (up (up (up (up R 59 0 60) 61 0 62) 61 1 63) 61 2 64) 60 0 61) 65 0 66) 65 1 67) 65 2 68) 60 1 65) 69 0 70) 69 1 71) 69 2 72) 60 2 69) 73 0 74) 73 1 75) 73 2 76) 60 3 73) 77 0 78) 77 1 79) 77 2 80) 60 4 77) 81 0 82) 81 1 83) 81 2 84) 60 5 81) 85 0 86) 85 1 87) 85 2 88) 60 6 85) 89 0 90) 89 1 91) 89 2 92) 60 7 89) 93 0 94) 93 1 95) 93 2 96) 60 8 93) 97 0 98) 97 1 99) 97 2 100) 60 9 97), S)) := by
  refine Runs.of pl_X2 (Nat.le_of_ble_eq_true rfl) ?_
  show At G mX2_init 2 0 [(0, vr 59)] [] (59, R, S) 0 0 _
  refine At.aloadn dX2_init_0 rfl <| At.objI dX2_init_1 wo_X2_3 (by omega) (Nat.le_of_ble_eq_true rfl) (by decide) <| At.aloadn dX2_init_4 rfl <| At.bipush dX2_init_5 (by decide) <| ?_
  refine At.anewS (N := 10) dX2_init_7 wc_X2_9 rfl (by decide) sh_60 hz (by omega) ⟨Nat.le_of_ble_eq_true rfl, Nat.le_of_ble_eq_true rfl⟩ <| ?_
  have z1 := hz.mo
  refine At.putR dX2_init_10 cl_2 (by decide) fk_X2_11 rfl rfl rfl sh_59 (by omega) (by decide) (fun t ht => by rw [tyX2_ok 0 (by decide)] at ht; cases ht; first | exact Or.inl ⟨_, rfl⟩ | exact Or.inr ⟨_, rfl⟩) <| ?_
  have z2 := z1.pr (j := 0) (q := 60) (show 59 ≤ _ by omega)
  refine At.iconst dX2_init_13 (by decide) <| At.istoren (ls' := [(1, vi 0), (0, vr 59)]) dX2_init_14 (by decide) rfl <| At.iloadn dX2_init_15 rfl <| At.aloadn dX2_init_16 rfl <| At.getR fl_X2_11 sh_59 (by omega) (q := 60) (by simp [up]) dX2_init_17 <| At.alenS sh_60 (by omega) (by decide) (z := 10) rfl dX2_init_20 <| At.icmp_ge_f (tgt := 43) dX2_init_21 (by decide) (by decide) <| At.aloadn dX2_init_24 rfl <| At.getR fl_X2_11 sh_59 (by omega) (q := 60) (by simp [up]) dX2_init_25 <| At.iloadn dX2_init_28 rfl <| ?_
  refine At.newO dX2_init_29 cl_6 tyX6_ok df_6 wc_X2_9 wi_6 wn_6 sh_61 z2 (by omega) ⟨Nat.le_of_ble_eq_true rfl, Nat.le_of_ble_eq_true rfl⟩ <| ?_
  have z3 := z2.mo
  refine At.dup rfl dX2_init_32 <| ?_
  refine At.callI (av := []) (rest := [vr 61, vi 0, vr 60]) mi_X6_init lk_X2_17 dX2_init_33 rfl rfl (by omega) (Nat.le_of_ble_eq_true rfl) (by decide) ⟨Nat.le_of_ble_eq_true rfl, Nat.le_of_ble_eq_true rfl⟩ (iX6_init sh_61 z3) ?_
  rintro _ _ ⟨rfl, rfl⟩
  have z4 := ((((z3.mono (show _ ≤ 64 by omega)).pr (j := 0) (q := 62) (show 61 ≤ _ by omega)).pr (j := 1) (q := 63) (show 61 ≤ _ by omega)).pr (j := 2) (q := 64) (show 61 ≤ _ by omega))
  refine At.aastS dX2_init_36 sh_60 (by omega) sh_61 (by omega) (by decide) (by decide) <| ?_
  have z5 := z4.pr (j := 0) (q := 61) (show 60 ≤ _ by omega)
  refine At.iinc (ls' := [(1, vi 1), (0, vr 59)]) dX2_init_37 rfl (by decide) (by decide) <| At.goto (tgt := 15) dX2_init_40 (by decide) <| At.iloadn dX2_init_15 rfl <| At.aloadn dX2_init_16 rfl <| At.getR fl_X2_11 sh_59 (by omega) (q := 60) (by simp [up]) dX2_init_17 <| At.alenS sh_60 (by omega) (by decide) (z := 10) rfl dX2_init_20 <| At.icmp_ge_f (tgt := 43) dX2_init_21 (by decide) (by decide) <| At.aloadn dX2_init_24 rfl <| At.getR fl_X2_11 sh_59 (by omega) (q := 60) (by simp [up]) dX2_init_25 <| At.iloadn dX2_init_28 rfl <| ?_
  refine At.newO dX2_init_29 cl_6 tyX6_ok df_6 wc_X2_9 wi_6 wn_6 sh_65 z5 (by omega) ⟨Nat.le_of_ble_eq_true rfl, Nat.le_of_ble_eq_true rfl⟩ <| ?_
  have z6 := z5.mo
  refine At.dup rfl dX2_init_32 <| ?_
  refine At.callI (av := []) (rest := [vr 65, vi 1, vr 60]) mi_X6_init lk_X2_17 dX2_init_33 rfl rfl (by omega) (Nat.le_of_ble_eq_true rfl) (by decide) ⟨Nat.le_of_ble_eq_true rfl, Nat.le_of_ble_eq_true rfl⟩ (iX6_init sh_65 z6) ?_
  rintro _ _ ⟨rfl, rfl⟩
  have z7 := ((((z6.mono (show _ ≤ 68 by omega)).pr (j := 0) (q := 66) (show 65 ≤ _ by omega)).pr (j := 1) (q := 67) (show 65 ≤ _ by omega)).pr (j := 2) (q := 68) (show 65 ≤ _ by omega))
  refine At.aastS dX2_init_36 sh_60 (by omega) sh_65 (by omega) (by decide) (by decide) <| ?_
  have z8 := z7.pr (j := 1) (q := 65) (show 60 ≤ _ by omega)
  refine At.iinc (ls' := [(1, vi 2), (0, vr 59)]) dX2_init_37 rfl (by decide) (by decide) <| At.goto (tgt := 15) dX2_init_40 (by decide) <| At.iloadn dX2_init_15 rfl <| At.aloadn dX2_init_16 rfl <| At.getR fl_X2_11 sh_59 (by omega) (q := 60) (by simp [up]) dX2_init_17 <| At.alenS sh_60 (by omega) (by decide) (z := 10) rfl dX2_init_20 <| At.icmp_ge_f (tgt := 43) dX2_init_21 (by decide) (by decide) <| At.aloadn dX2_init_24 rfl <| At.getR fl_X2_11 sh_59 (by omega) (q := 60) (by simp [up]) dX2_init_25 <| At.iloadn dX2_init_28 rfl <| ?_
  refine At.newO dX2_init_29 cl_6 tyX6_ok df_6 wc_X2_9 wi_6 wn_6 sh_69 z8 (by omega) ⟨Nat.le_of_ble_eq_true rfl, Nat.le_of_ble_eq_true rfl⟩ <| ?_
  have z9 := z8.mo
  refine At.dup rfl dX2_init_32 <| ?_
  refine At.callI (av := []) (rest := [vr 69, vi 2, vr 60]) mi_X6_init lk_X2_17 dX2_init_33 rfl rfl (by omega) (Nat.le_of_ble_eq_true rfl) (by decide) ⟨Nat.le_of_ble_eq_true rfl, Nat.le_of_ble_eq_true rfl⟩ (iX6_init sh_69 z9) ?_
  rintro _ _ ⟨rfl, rfl⟩
  have z10 := ((((z9.mono (show _ ≤ 72 by omega)).pr (j := 0) (q := 70) (show 69 ≤ _ by omega)).pr (j := 1) (q := 71) (show 69 ≤ _ by omega)).pr (j := 2) (q := 72) (show 69 ≤ _ by omega))
  refine At.aastS dX2_init_36 sh_60 (by omega) sh_69 (by omega) (by decide) (by decide) <| ?_
  have z11 := z10.pr (j := 2) (q := 69) (show 60 ≤ _ by omega)
  refine At.iinc (ls' := [(1, vi 3), (0, vr 59)]) dX2_init_37 rfl (by decide) (by decide) <| At.goto (tgt := 15) dX2_init_40 (by decide) <| At.iloadn dX2_init_15 rfl <| At.aloadn dX2_init_16 rfl <| At.getR fl_X2_11 sh_59 (by omega) (q := 60) (by simp [up]) dX2_init_17 <| At.alenS sh_60 (by omega) (by decide) (z := 10) rfl dX2_init_20 <| At.icmp_ge_f (tgt := 43) dX2_init_21 (by decide) (by decide) <| At.aloadn dX2_init_24 rfl <| At.getR fl_X2_11 sh_59 (by omega) (q := 60) (by simp [up]) dX2_init_25 <| At.iloadn dX2_init_28 rfl <| ?_
  refine At.newO dX2_init_29 cl_6 tyX6_ok df_6 wc_X2_9 wi_6 wn_6 sh_73 z11 (by omega) ⟨Nat.le_of_ble_eq_true rfl, Nat.le_of_ble_eq_true rfl⟩ <| ?_
  have z12 := z11.mo
  refine At.dup rfl dX2_init_32 <| ?_
  refine At.callI (av := []) (rest := [vr 73, vi 3, vr 60]) mi_X6_init lk_X2_17 dX2_init_33 rfl rfl (by omega) (Nat.le_of_ble_eq_true rfl) (by decide) ⟨Nat.le_of_ble_eq_true rfl, Nat.le_of_ble_eq_true rfl⟩ (iX6_init sh_73 z12) ?_
  rintro _ _ ⟨rfl, rfl⟩
  have z13 := ((((z12.mono (show _ ≤ 76 by omega)).pr (j := 0) (q := 74) (show 73 ≤ _ by omega)).pr (j := 1) (q := 75) (show 73 ≤ _ by omega)).pr (j := 2) (q := 76) (show 73 ≤ _ by omega))
  refine At.aastS dX2_init_36 sh_60 (by omega) sh_73 (by omega) (by decide) (by decide) <| ?_
  have z14 := z13.pr (j := 3) (q := 73) (show 60 ≤ _ by omega)
  refine At.iinc (ls' := [(1, vi 4), (0, vr 59)]) dX2_init_37 rfl (by decide) (by decide) <| At.goto (tgt := 15) dX2_init_40 (by decide) <| At.iloadn dX2_init_15 rfl <| At.aloadn dX2_init_16 rfl <| At.getR fl_X2_11 sh_59 (by omega) (q := 60) (by simp [up]) dX2_init_17 <| At.alenS sh_60 (by omega) (by decide) (z := 10) rfl dX2_init_20 <| At.icmp_ge_f (tgt := 43) dX2_init_21 (by decide) (by decide) <| At.aloadn dX2_init_24 rfl <| At.getR fl_X2_11 sh_59 (by omega) (q := 60) (by simp [up]) dX2_init_25 <| At.iloadn dX2_init_28 rfl <| ?_
  refine At.newO dX2_init_29 cl_6 tyX6_ok df_6 wc_X2_9 wi_6 wn_6 sh_77 z14 (by omega) ⟨Nat.le_of_ble_eq_true rfl, Nat.le_of_ble_eq_true rfl⟩ <| ?_
  have z15 := z14.mo
  refine At.dup rfl dX2_init_32 <| ?_
  refine At.callI (av := []) (rest := [vr 77, vi 4, vr 60]) mi_X6_init lk_X2_17 dX2_init_33 rfl rfl (by omega) (Nat.le_of_ble_eq_true rfl) (by decide) ⟨Nat.le_of_ble_eq_true rfl, Nat.le_of_ble_eq_true rfl⟩ (iX6_init sh_77 z15) ?_
  rintro _ _ ⟨rfl, rfl⟩
  have z16 := ((((z15.mono (show _ ≤ 80 by omega)).pr (j := 0) (q := 78) (show 77 ≤ _ by omega)).pr (j := 1) (q := 79) (show 77 ≤ _ by omega)).pr (j := 2) (q := 80) (show 77 ≤ _ by omega))
  refine At.aastS dX2_init_36 sh_60 (by omega) sh_77 (by omega) (by decide) (by decide) <| ?_
  have z17 := z16.pr (j := 4) (q := 77) (show 60 ≤ _ by omega)
  refine At.iinc (ls' := [(1, vi 5), (0, vr 59)]) dX2_init_37 rfl (by decide) (by decide) <| At.goto (tgt := 15) dX2_init_40 (by decide) <| At.iloadn dX2_init_15 rfl <| At.aloadn dX2_init_16 rfl <| At.getR fl_X2_11 sh_59 (by omega) (q := 60) (by simp [up]) dX2_init_17 <| At.alenS sh_60 (by omega) (by decide) (z := 10) rfl dX2_init_20 <| At.icmp_ge_f (tgt := 43) dX2_init_21 (by decide) (by decide) <| At.aloadn dX2_init_24 rfl <| At.getR fl_X2_11 sh_59 (by omega) (q := 60) (by simp [up]) dX2_init_25 <| At.iloadn dX2_init_28 rfl <| ?_
  refine At.newO dX2_init_29 cl_6 tyX6_ok df_6 wc_X2_9 wi_6 wn_6 sh_81 z17 (by omega) ⟨Nat.le_of_ble_eq_true rfl, Nat.le_of_ble_eq_true rfl⟩ <| ?_
  have z18 := z17.mo
  refine At.dup rfl dX2_init_32 <| ?_
  refine At.callI (av := []) (rest := [vr 81, vi 5, vr 60]) mi_X6_init lk_X2_17 dX2_init_33 rfl rfl (by omega) (Nat.le_of_ble_eq_true rfl) (by decide) ⟨Nat.le_of_ble_eq_true rfl, Nat.le_of_ble_eq_true rfl⟩ (iX6_init sh_81 z18) ?_
  rintro _ _ ⟨rfl, rfl⟩
  have z19 := ((((z18.mono (show _ ≤ 84 by omega)).pr (j := 0) (q := 82) (show 81 ≤ _ by omega)).pr (j := 1) (q := 83) (show 81 ≤ _ by omega)).pr (j := 2) (q := 84) (show 81 ≤ _ by omega))
  refine At.aastS dX2_init_36 sh_60 (by omega) sh_81 (by omega) (by decide) (by decide) <| ?_
  have z20 := z19.pr (j := 5) (q := 81) (show 60 ≤ _ by omega)
  refine At.iinc (ls' := [(1, vi 6), (0, vr 59)]) dX2_init_37 rfl (by decide) (by decide) <| At.goto (tgt := 15) dX2_init_40 (by decide) <| At.iloadn dX2_init_15 rfl <| At.aloadn dX2_init_16 rfl <| At.getR fl_X2_11 sh_59 (by omega) (q := 60) (by simp [up]) dX2_init_17 <| At.alenS sh_60 (by omega) (by decide) (z := 10) rfl dX2_init_20 <| At.icmp_ge_f (tgt := 43) dX2_init_21 (by decide) (by decide) <| At.aloadn dX2_init_24 rfl <| At.getR fl_X2_11 sh_59 (by omega) (q := 60) (by simp [up]) dX2_init_25 <| At.iloadn dX2_init_28 rfl <| ?_
  refine At.newO dX2_init_29 cl_6 tyX6_ok df_6 wc_X2_9 wi_6 wn_6 sh_85 z20 (by omega) ⟨Nat.le_of_ble_eq_true rfl, Nat.le_of_ble_eq_true rfl⟩ <| ?_
  have z21 := z20.mo
  refine At.dup rfl dX2_init_32 <| ?_
  refine At.callI (av := []) (rest := [vr 85, vi 6, vr 60]) mi_X6_init lk_X2_17 dX2_init_33 rfl rfl (by omega) (Nat.le_of_ble_eq_true rfl) (by decide) ⟨Nat.le_of_ble_eq_true rfl, Nat.le_of_ble_eq_true rfl⟩ (iX6_init sh_85 z21) ?_
  rintro _ _ ⟨rfl, rfl⟩
  have z22 := ((((z21.mono (show _ ≤ 88 by omega)).pr (j := 0) (q := 86) (show 85 ≤ _ by omega)).pr (j := 1) (q := 87) (show 85 ≤ _ by omega)).pr (j := 2) (q := 88) (show 85 ≤ _ by omega))
  refine At.aastS dX2_init_36 sh_60 (by omega) sh_85 (by omega) (by decide) (by decide) <| ?_
  have z23 := z22.pr (j := 6) (q := 85) (show 60 ≤ _ by omega)
  refine At.iinc (ls' := [(1, vi 7), (0, vr 59)]) dX2_init_37 rfl (by decide) (by decide) <| At.goto (tgt := 15) dX2_init_40 (by decide) <| At.iloadn dX2_init_15 rfl <| At.aloadn dX2_init_16 rfl <| At.getR fl_X2_11 sh_59 (by omega) (q := 60) (by simp [up]) dX2_init_17 <| At.alenS sh_60 (by omega) (by decide) (z := 10) rfl dX2_init_20 <| At.icmp_ge_f (tgt := 43) dX2_init_21 (by decide) (by decide) <| At.aloadn dX2_init_24 rfl <| At.getR fl_X2_11 sh_59 (by omega) (q := 60) (by simp [up]) dX2_init_25 <| At.iloadn dX2_init_28 rfl <| ?_
  refine At.newO dX2_init_29 cl_6 tyX6_ok df_6 wc_X2_9 wi_6 wn_6 sh_89 z23 (by omega) ⟨Nat.le_of_ble_eq_true rfl, Nat.le_of_ble_eq_true rfl⟩ <| ?_
  have z24 := z23.mo
  refine At.dup rfl dX2_init_32 <| ?_
  refine At.callI (av := []) (rest := [vr 89, vi 7, vr 60]) mi_X6_init lk_X2_17 dX2_init_33 rfl rfl (by omega) (Nat.le_of_ble_eq_true rfl) (by decide) ⟨Nat.le_of_ble_eq_true rfl, Nat.le_of_ble_eq_true rfl⟩ (iX6_init sh_89 z24) ?_
  rintro _ _ ⟨rfl, rfl⟩
  have z25 := ((((z24.mono (show _ ≤ 92 by omega)).pr (j := 0) (q := 90) (show 89 ≤ _ by omega)).pr (j := 1) (q := 91) (show 89 ≤ _ by omega)).pr (j := 2) (q := 92) (show 89 ≤ _ by omega))
  refine At.aastS dX2_init_36 sh_60 (by omega) sh_89 (by omega) (by decide) (by decide) <| ?_
  have z26 := z25.pr (j := 7) (q := 89) (show 60 ≤ _ by omega)
  refine At.iinc (ls' := [(1, vi 8), (0, vr 59)]) dX2_init_37 rfl (by decide) (by decide) <| At.goto (tgt := 15) dX2_init_40 (by decide) <| At.iloadn dX2_init_15 rfl <| At.aloadn dX2_init_16 rfl <| At.getR fl_X2_11 sh_59 (by omega) (q := 60) (by simp [up]) dX2_init_17 <| At.alenS sh_60 (by omega) (by decide) (z := 10) rfl dX2_init_20 <| At.icmp_ge_f (tgt := 43) dX2_init_21 (by decide) (by decide) <| At.aloadn dX2_init_24 rfl <| At.getR fl_X2_11 sh_59 (by omega) (q := 60) (by simp [up]) dX2_init_25 <| At.iloadn dX2_init_28 rfl <| ?_
  refine At.newO dX2_init_29 cl_6 tyX6_ok df_6 wc_X2_9 wi_6 wn_6 sh_93 z26 (by omega) ⟨Nat.le_of_ble_eq_true rfl, Nat.le_of_ble_eq_true rfl⟩ <| ?_
  have z27 := z26.mo
  refine At.dup rfl dX2_init_32 <| ?_
  refine At.callI (av := []) (rest := [vr 93, vi 8, vr 60]) mi_X6_init lk_X2_17 dX2_init_33 rfl rfl (by omega) (Nat.le_of_ble_eq_true rfl) (by decide) ⟨Nat.le_of_ble_eq_true rfl, Nat.le_of_ble_eq_true rfl⟩ (iX6_init sh_93 z27) ?_
  rintro _ _ ⟨rfl, rfl⟩
  have z28 := ((((z27.mono (show _ ≤ 96 by omega)).pr (j := 0) (q := 94) (show 93 ≤ _ by omega)).pr (j := 1) (q := 95) (show 93 ≤ _ by omega)).pr (j := 2) (q := 96) (show 93 ≤ _ by omega))
  refine At.aastS dX2_init_36 sh_60 (by omega) sh_93 (by omega) (by decide) (by decide) <| ?_
  have z29 := z28.pr (j := 8) (q := 93) (show 60 ≤ _ by omega)
  refine At.iinc (ls' := [(1, vi 9), (0, vr 59)]) dX2_init_37 rfl (by decide) (by decide) <| At.goto (tgt := 15) dX2_init_40 (by decide) <| At.iloadn dX2_init_15 rfl <| At.aloadn dX2_init_16 rfl <| At.getR fl_X2_11 sh_59 (by omega) (q := 60) (by simp [up]) dX2_init_17 <| At.alenS sh_60 (by omega) (by decide) (z := 10) rfl dX2_init_20 <| At.icmp_ge_f (tgt := 43) dX2_init_21 (by decide) (by decide) <| At.aloadn dX2_init_24 rfl <| At.getR fl_X2_11 sh_59 (by omega) (q := 60) (by simp [up]) dX2_init_25 <| At.iloadn dX2_init_28 rfl <| ?_
  refine At.newO dX2_init_29 cl_6 tyX6_ok df_6 wc_X2_9 wi_6 wn_6 sh_97 z29 (by omega) ⟨Nat.le_of_ble_eq_true rfl, Nat.le_of_ble_eq_true rfl⟩ <| ?_
  have z30 := z29.mo
  refine At.dup rfl dX2_init_32 <| ?_
  refine At.callI (av := []) (rest := [vr 97, vi 9, vr 60]) mi_X6_init lk_X2_17 dX2_init_33 rfl rfl (by omega) (Nat.le_of_ble_eq_true rfl) (by decide) ⟨Nat.le_of_ble_eq_true rfl, Nat.le_of_ble_eq_true rfl⟩ (iX6_init sh_97 z30) ?_
  rintro _ _ ⟨rfl, rfl⟩
  have z31 := ((((z30.mono (show _ ≤ 100 by omega)).pr (j := 0) (q := 98) (show 97 ≤ _ by omega)).pr (j := 1) (q := 99) (show 97 ≤ _ by omega)).pr (j := 2) (q := 100) (show 97 ≤ _ by omega))
  refine At.aastS dX2_init_36 sh_60 (by omega) sh_97 (by omega) (by decide) (by decide) <| ?_
  have z32 := z31.pr (j := 9) (q := 97) (show 60 ≤ _ by omega)
  refine At.iinc (ls' := [(1, vi 10), (0, vr 59)]) dX2_init_37 rfl (by decide) (by decide) <| At.goto (tgt := 15) dX2_init_40 (by decide) <| At.iloadn dX2_init_15 rfl <| At.aloadn dX2_init_16 rfl <| At.getR fl_X2_11 sh_59 (by omega) (q := 60) (by simp [up]) dX2_init_17 <| At.alenS sh_60 (by omega) (by decide) (z := 10) rfl dX2_init_20 <| At.icmp_ge_t (tgt := 43) dX2_init_21 (by decide) (by decide) <| ?_
  exact At.vret rfl (Nat.le_of_ble_eq_true rfl) (Nat.le_of_ble_eq_true rfl) ⟨rfl, rfl⟩ dX2_init_43
theorem fk_X11_12 : Cond.fieldLink RX11 12 (TX11 0).1 (TX11 0).2.1 (TX11 0).2.2.1 ∈ lw_good := gd_mem (u46_in _ (List.mem_of_getElem? (i := 7) rfl)) rfl
theorem fk_X11_20 : Cond.fieldLink RX11 20 (TX11 1).1 (TX11 1).2.1 (TX11 1).2.2.1 ∈ lw_good := gd_mem (u47_in _ (List.mem_of_getElem? (i := 0) rfl)) rfl
theorem fk_X11_26 : Cond.fieldLink RX11 26 (TX11 2).1 (TX11 2).2.1 (TX11 2).2.2.1 ∈ lw_good := gd_mem (u47_in _ (List.mem_of_getElem? (i := 1) rfl)) rfl
theorem fk_X11_29 : Cond.fieldLink RX11 29 (TX11 3).1 (TX11 3).2.1 (TX11 3).2.2.1 ∈ lw_good := gd_mem (u47_in _ (List.mem_of_getElem? (i := 2) rfl)) rfl
theorem fk_X11_35 : Cond.fieldLink RX11 35 (TX11 4).1 (TX11 4).2.1 (TX11 4).2.2.1 ∈ lw_good := gd_mem (u47_in _ (List.mem_of_getElem? (i := 3) rfl)) rfl
theorem fk_X11_44 : Cond.fieldLink RX11 44 (TX11 5).1 (TX11 5).2.1 (TX11 5).2.2.1 ∈ lw_good := gd_mem (u47_in _ (List.mem_of_getElem? (i := 4) rfl)) rfl
theorem fk_X11_53 : Cond.fieldLink RX11 53 (TX11 6).1 (TX11 6).2.1 (TX11 6).2.2.1 ∈ lw_good := gd_mem (u47_in _ (List.mem_of_getElem? (i := 5) rfl)) rfl
theorem fk_X11_62 : Cond.fieldLink RX11 62 (TX11 7).1 (TX11 7).2.1 (TX11 7).2.2.1 ∈ lw_good := gd_mem (u47_in _ (List.mem_of_getElem? (i := 6) rfl)) rfl
theorem fk_X11_66 : Cond.fieldLink RX11 66 (TX11 8).1 (TX11 8).2.1 (TX11 8).2.2.1 ∈ lw_good := gd_mem (u47_in _ (List.mem_of_getElem? (i := 7) rfl)) rfl
theorem fk_X11_72 : Cond.fieldLink RX11 72 (TX11 9).1 (TX11 9).2.1 (TX11 9).2.2.1 ∈ lw_good := gd_mem (u48_in _ (List.mem_of_getElem? (i := 0) rfl)) rfl
theorem fk_X11_79 : Cond.fieldLink RX11 79 (TX11 10).1 (TX11 10).2.1 (TX11 10).2.2.1 ∈ lw_good := gd_mem (u48_in _ (List.mem_of_getElem? (i := 1) rfl)) rfl
theorem fk_X11_86 : Cond.fieldLink RX11 86 (TX11 11).1 (TX11 11).2.1 (TX11 11).2.2.1 ∈ lw_good := gd_mem (u48_in _ (List.mem_of_getElem? (i := 2) rfl)) rfl
theorem fk_X11_92 : Cond.fieldLink RX11 92 (TX11 12).1 (TX11 12).2.1 (TX11 12).2.2.1 ∈ lw_good := gd_mem (u48_in _ (List.mem_of_getElem? (i := 3) rfl)) rfl
theorem fk_X11_96 : Cond.fieldLink RX11 96 (TX11 13).1 (TX11 13).2.1 (TX11 13).2.2.1 ∈ lw_good := gd_mem (u48_in _ (List.mem_of_getElem? (i := 4) rfl)) rfl
theorem fk_X11_100 : Cond.fieldLink RX11 100 (TX11 14).1 (TX11 14).2.1 (TX11 14).2.2.1 ∈ lw_good := gd_mem (u48_in _ (List.mem_of_getElem? (i := 5) rfl)) rfl
set_option maxRecDepth 100000 in
set_option maxHeartbeats 4000000 in
theorem iX11_init {G : GG} {R : Nat → Nat → Nat} {S : SS} (hz : ZB R S 1) : Runs G mX11_init 4 [vr 1] (1, R, S) (fun v M => v = none ∧ M = (129, (up (up (up (up (up (up (up (up (up (up (up (up (up (up (up (up (up (up (up (up (up (up (up (up (up (up (up (up (up (up (up (up (up (up (up (up (up (up (up (up (up (up (up (up (up (up (up (up (up (up (up (up (up (up (up (up (up (up (up (up (up (up (up (up (up (up (up (up (up (up (up (up (up (up (up (up (up (up (up (up (up (up (up (up (up (up (up (up (up (up (up (up (up (up (up (up (up (up (up (up (up (up (up (up (up (up (up (up (up (up (up (up (up (up (up (up (up (up (up (up (up (up (up (up (up (up (up (up (up (up (up (up (up (up (up (up R 2 0 3) 2 1 4) 2 2 5) 2 3 6) 7 0 8) 7 1 9) 7 2 10) 2 4 7) 1 0 2) 1 1 7) 11 0 12) 11 1 13) 11 2 14) 1 2 11) 15 0 16) 15 1 17) 15 2 18) 1 3 15) 19 0 20) 21 0 22) 21 1 23) 21 2 24) 21 3 25) 26 0 27) 26 1 28) 26 2 29) 21 4 26) 19 1 21) 1 4 19) 31 0 32) 30 1 31) 30 2 33) 30 0 2) 1 5 30) 34 0 2) 34 1 30) 1 6 34) 35 1 36) 35 2 37) 35 3 38) 35 4 39) 35 5 40) 35 6 41) 35 7 42) 35 0 30) 1 7 35) 43 1 44) 43 2 45) 43 3 46) 43 4 47) 43 5 48) 43 6 49) 43 7 50) 43 0 30) 1 8 43) 51 1 52) 51 2 53) 51 0 30) 1 9 51) 55 0 56) 55 1 57) 55 2 58) 54 1 55) 54 0 30) 1 10 54) 59 0 60) 61 0 62) 61 1 63) 61 2 64) 60 0 61) 65 0 66) 65 1 67) 65 2 68) 60 1 65) 69 0 70) 69 1 71) 69 2 72) 60 2 69) 73 0 74) 73 1 75) 73 2 76) 60 3 73) 77 0 78) 77 1 79) 77 2 80) 60 4 77) 81 0 82) 81 1 83) 81 2 84) 60 5 81) 85 0 86) 85 1 87) 85 2 88) 60 6 85) 89 0 90) 89 1 91) 89 2 92) 60 7 89) 93 0 94) 93 1 95) 93 2 96) 60 8 93) 97 0 98) 97 1 99) 97 2 100) 60 9 97) 1 11 59) 1 12 101) 1 13 102) 1 14 103) 104 0 105) 101 0 104) 106 0 107) 101 1 106) 108 0 109) 101 2 108) 110 0 111) 101 3 110) 112 0 113) 112 1 114) 112 2 115) 112 3 116) 117 0 118) 117 1 119) 117 2 120) 112 4 117) 102 0 112) 121 0 122) 121 1 123) 121 2 124) 121 3 125) 126 0 127) 126 1 128) 126 2 129) 121 4 126) 102 1 121), (up (up (up (up (up (up (up (up (up (up S 2 5 1) 21 5 1) 19 10 (-1)) 30 3 (-1)) 104 2 (-1)) 106 2 (-1)) 108 2 (-1)) 110 2 (-1)) 112 5 1) 121 5 1))) := by
  refine Runs.of pl_X11 (Nat.le_of_ble_eq_true rfl) ?_
  show At G mX11_init 4 0 [(0, vr 1)] [] (1, R, S) 0 0 _
  refine At.aloadn dX11_init_0 rfl <| At.objI dX11_init_1 wo_X11_3 (by omega) (Nat.le_of_ble_eq_true rfl) (by decide) <| At.aloadn dX11_init_4 rfl <| ?_
  refine At.newO dX11_init_5 cl_8 tyX8_ok df_8 wc_X11_9 wi_8 wn_8 sh_2 hz (by omega) ⟨Nat.le_of_ble_eq_true rfl, Nat.le_of_ble_eq_true rfl⟩ <| ?_
  have z1 := hz.mo
  refine At.dup rfl dX11_init_8 <| ?_
  refine At.callI (av := []) (rest := [vr 2, vr 1]) mi_X8_init lk_X11_11 dX11_init_9 rfl rfl (by omega) (Nat.le_of_ble_eq_true rfl) (by decide) ⟨Nat.le_of_ble_eq_true rfl, Nat.le_of_ble_eq_true rfl⟩ (iX8_init sh_2 z1) ?_
  rintro _ _ ⟨rfl, rfl⟩
  have z2 := ((((((((((z1.mono (show _ ≤ 10 by omega)).pr (j := 0) (q := 3) (show 2 ≤ _ by omega)).pr (j := 1) (q := 4) (show 2 ≤ _ by omega)).pr (j := 2) (q := 5) (show 2 ≤ _ by omega)).pr (j := 3) (q := 6) (show 2 ≤ _ by omega)).pr (j := 0) (q := 8) (show 7 ≤ _ by omega)).pr (j := 1) (q := 9) (show 7 ≤ _ by omega)).pr (j := 2) (q := 10) (show 7 ≤ _ by omega)).pr (j := 4) (q := 7) (show 2 ≤ _ by omega)).ps (j := 5) (z := 1) (show 2 ≤ _ by omega))
  refine At.putR dX11_init_12 cl_11 (by decide) fk_X11_12 rfl rfl rfl sh_1 (by omega) (by decide) (fun t ht => by rw [tyX11_ok 0 (by decide)] at ht; cases ht; first | exact Or.inl ⟨_, rfl⟩ | exact Or.inr ⟨_, rfl⟩) <| ?_
  have z3 := z2.pr (j := 0) (q := 2) (show 1 ≤ _ by omega)
  refine At.aloadn dX11_init_15 rfl <| At.aloadn dX11_init_16 rfl <| At.getR fl_X11_12 sh_1 (by omega) (q := 2) (by simp [up]) dX11_init_17 <| At.getR fl_X11_16 sh_2 (by omega) (q := 7) (by simp [up]) dX11_init_20 <| ?_
  refine At.putR dX11_init_23 cl_11 (by decide) fk_X11_20 rfl rfl rfl sh_1 (by omega) (by decide) (fun t ht => by rw [tyX11_ok 1 (by decide)] at ht; cases ht; first | exact Or.inl ⟨_, rfl⟩ | exact Or.inr ⟨_, rfl⟩) <| ?_
  have z4 := z3.pr (j := 1) (q := 7) (show 1 ≤ _ by omega)
  refine At.aloadn dX11_init_26 rfl <| ?_
  refine At.newO dX11_init_27 cl_6 tyX6_ok df_6 wc_X11_23 wi_6 wn_6 sh_11 z4 (by omega) ⟨Nat.le_of_ble_eq_true rfl, Nat.le_of_ble_eq_true rfl⟩ <| ?_
  have z5 := z4.mo
  refine At.dup rfl dX11_init_30 <| ?_
  refine At.callI (av := []) (rest := [vr 11, vr 1]) mi_X6_init lk_X11_25 dX11_init_31 rfl rfl (by omega) (Nat.le_of_ble_eq_true rfl) (by decide) ⟨Nat.le_of_ble_eq_true rfl, Nat.le_of_ble_eq_true rfl⟩ (iX6_init sh_11 z5) ?_
  rintro _ _ ⟨rfl, rfl⟩
  have z6 := ((((z5.mono (show _ ≤ 14 by omega)).pr (j := 0) (q := 12) (show 11 ≤ _ by omega)).pr (j := 1) (q := 13) (show 11 ≤ _ by omega)).pr (j := 2) (q := 14) (show 11 ≤ _ by omega))
  refine At.putR dX11_init_34 cl_11 (by decide) fk_X11_26 rfl rfl rfl sh_1 (by omega) (by decide) (fun t ht => by rw [tyX11_ok 2 (by decide)] at ht; cases ht; first | exact Or.inl ⟨_, rfl⟩ | exact Or.inr ⟨_, rfl⟩) <| ?_
  have z7 := z6.pr (j := 2) (q := 11) (show 1 ≤ _ by omega)
  refine At.aloadn dX11_init_37 rfl <| ?_
  refine At.newO dX11_init_38 cl_6 tyX6_ok df_6 wc_X11_23 wi_6 wn_6 sh_15 z7 (by omega) ⟨Nat.le_of_ble_eq_true rfl, Nat.le_of_ble_eq_true rfl⟩ <| ?_
  have z8 := z7.mo
  refine At.dup rfl dX11_init_41 <| ?_
  refine At.callI (av := []) (rest := [vr 15, vr 1]) mi_X6_init lk_X11_25 dX11_init_42 rfl rfl (by omega) (Nat.le_of_ble_eq_true rfl) (by decide) ⟨Nat.le_of_ble_eq_true rfl, Nat.le_of_ble_eq_true rfl⟩ (iX6_init sh_15 z8) ?_
  rintro _ _ ⟨rfl, rfl⟩
  have z9 := ((((z8.mono (show _ ≤ 18 by omega)).pr (j := 0) (q := 16) (show 15 ≤ _ by omega)).pr (j := 1) (q := 17) (show 15 ≤ _ by omega)).pr (j := 2) (q := 18) (show 15 ≤ _ by omega))
  refine At.putR dX11_init_45 cl_11 (by decide) fk_X11_29 rfl rfl rfl sh_1 (by omega) (by decide) (fun t ht => by rw [tyX11_ok 3 (by decide)] at ht; cases ht; first | exact Or.inl ⟨_, rfl⟩ | exact Or.inr ⟨_, rfl⟩) <| ?_
  have z10 := z9.pr (j := 3) (q := 15) (show 1 ≤ _ by omega)
  refine At.aloadn dX11_init_48 rfl <| ?_
  refine At.newO dX11_init_49 cl_3 tyX3_ok df_3 wc_X11_32 wi_3 wn_3 sh_19 z10 (by omega) ⟨Nat.le_of_ble_eq_true rfl, Nat.le_of_ble_eq_true rfl⟩ <| ?_
  have z11 := z10.mo
  refine At.dup rfl dX11_init_52 <| ?_
  refine At.callI (av := []) (rest := [vr 19, vr 1]) mi_X3_init lk_X11_34 dX11_init_53 rfl rfl (by omega) (Nat.le_of_ble_eq_true rfl) (by decide) ⟨Nat.le_of_ble_eq_true rfl, Nat.le_of_ble_eq_true rfl⟩ (iX3_init z11) ?_
  rintro _ _ ⟨rfl, rfl⟩
  have z12 := (((((((((((((z11.mono (show _ ≤ 29 by omega)).pr (j := 0) (q := 20) (show 19 ≤ _ by omega)).pr (j := 0) (q := 22) (show 21 ≤ _ by omega)).pr (j := 1) (q := 23) (show 21 ≤ _ by omega)).pr (j := 2) (q := 24) (show 21 ≤ _ by omega)).pr (j := 3) (q := 25) (show 21 ≤ _ by omega)).pr (j := 0) (q := 27) (show 26 ≤ _ by omega)).pr (j := 1) (q := 28) (show 26 ≤ _ by omega)).pr (j := 2) (q := 29) (show 26 ≤ _ by omega)).pr (j := 4) (q := 26) (show 21 ≤ _ by omega)).pr (j := 1) (q := 21) (show 19 ≤ _ by omega)).ps (j := 5) (z := 1) (show 21 ≤ _ by omega)).ps (j := 10) (z := -1) (show 19 ≤ _ by omega))
  refine At.putR dX11_init_56 cl_11 (by decide) fk_X11_35 rfl rfl rfl sh_1 (by omega) (by decide) (fun t ht => by rw [tyX11_ok 4 (by decide)] at ht; cases ht; first | exact Or.inl ⟨_, rfl⟩ | exact Or.inr ⟨_, rfl⟩) <| ?_
  have z13 := z12.pr (j := 4) (q := 19) (show 1 ≤ _ by omega)
  refine At.aloadn dX11_init_59 rfl <| ?_
  refine At.newO dX11_init_60 cl_5 tyX5_ok df_5 wc_X11_39 wi_5 wn_5 sh_30 z13 (by omega) ⟨Nat.le_of_ble_eq_true rfl, Nat.le_of_ble_eq_true rfl⟩ <| ?_
  have z14 := z13.mo
  refine At.dup rfl dX11_init_63 <| At.aloadn dX11_init_64 rfl <| At.getR fl_X11_12 sh_1 (by omega) (q := 2) (by simp [up]) dX11_init_65 <| ?_
  refine At.callI (av := [vr 2]) (rest := [vr 30, vr 1]) mi_X5_init lk_X11_41 dX11_init_68 rfl rfl (by omega) (Nat.le_of_ble_eq_true rfl) (by decide) ⟨Nat.le_of_ble_eq_true rfl, Nat.le_of_ble_eq_true rfl⟩ (iX5_init z14) ?_
  rintro _ _ ⟨rfl, rfl⟩
  have z15 := ((((((z14.mono (show _ ≤ 33 by omega)).pr (j := 0) (q := 32) (show 31 ≤ _ by omega)).pr (j := 1) (q := 31) (show 30 ≤ _ by omega)).pr (j := 2) (q := 33) (show 30 ≤ _ by omega)).pr (j := 0) (q := 2) (show 30 ≤ _ by omega)).ps (j := 3) (z := -1) (show 30 ≤ _ by omega))
  refine At.putR dX11_init_71 cl_11 (by decide) fk_X11_44 rfl rfl rfl sh_1 (by omega) (by decide) (fun t ht => by rw [tyX11_ok 5 (by decide)] at ht; cases ht; first | exact Or.inl ⟨_, rfl⟩ | exact Or.inr ⟨_, rfl⟩) <| ?_
  have z16 := z15.pr (j := 5) (q := 30) (show 1 ≤ _ by omega)
  refine At.aloadn dX11_init_74 rfl <| ?_
  refine At.newO dX11_init_75 cl_0 tyX0_ok df_0 wc_X11_48 wi_0 wn_0 sh_34 z16 (by omega) ⟨Nat.le_of_ble_eq_true rfl, Nat.le_of_ble_eq_true rfl⟩ <| ?_
  have z17 := z16.mo
  refine At.dup rfl dX11_init_78 <| At.aloadn dX11_init_79 rfl <| At.getR fl_X11_12 sh_1 (by omega) (q := 2) (by simp [up]) dX11_init_80 <| At.aloadn dX11_init_83 rfl <| At.getR fl_X11_44 sh_1 (by omega) (q := 30) (by simp [up]) dX11_init_84 <| ?_
  refine At.callI (av := [vr 2, vr 30]) (rest := [vr 34, vr 1]) mi_X0_init lk_X11_50 dX11_init_87 rfl rfl (by omega) (Nat.le_of_ble_eq_true rfl) (by decide) ⟨Nat.le_of_ble_eq_true rfl, Nat.le_of_ble_eq_true rfl⟩ (iX0_init z17) ?_
  rintro _ _ ⟨rfl, rfl⟩
  have z18 := (((z17.mono (show _ ≤ 34 by omega)).pr (j := 0) (q := 2) (show 34 ≤ _ by omega)).pr (j := 1) (q := 30) (show 34 ≤ _ by omega))
  refine At.putR dX11_init_90 cl_11 (by decide) fk_X11_53 rfl rfl rfl sh_1 (by omega) (by decide) (fun t ht => by rw [tyX11_ok 6 (by decide)] at ht; cases ht; first | exact Or.inl ⟨_, rfl⟩ | exact Or.inr ⟨_, rfl⟩) <| ?_
  have z19 := z18.pr (j := 6) (q := 34) (show 1 ≤ _ by omega)
  refine At.aloadn dX11_init_93 rfl <| ?_
  refine At.newO dX11_init_94 cl_10 tyX10_ok df_10 wc_X11_57 wi_10 wn_10 sh_35 z19 (by omega) ⟨Nat.le_of_ble_eq_true rfl, Nat.le_of_ble_eq_true rfl⟩ <| ?_
  have z20 := z19.mo
  refine At.dup rfl dX11_init_97 <| At.aloadn dX11_init_98 rfl <| At.getR fl_X11_44 sh_1 (by omega) (q := 30) (by simp [up]) dX11_init_99 <| ?_
  refine At.callI (av := [vr 30]) (rest := [vr 35, vr 1]) mi_X10_init lk_X11_59 dX11_init_102 rfl rfl (by omega) (Nat.le_of_ble_eq_true rfl) (by decide) ⟨Nat.le_of_ble_eq_true rfl, Nat.le_of_ble_eq_true rfl⟩ (iX10_init sh_35 z20) ?_
  rintro _ _ ⟨rfl, rfl⟩
  have z21 := (((((((((z20.mono (show _ ≤ 42 by omega)).pr (j := 1) (q := 36) (show 35 ≤ _ by omega)).pr (j := 2) (q := 37) (show 35 ≤ _ by omega)).pr (j := 3) (q := 38) (show 35 ≤ _ by omega)).pr (j := 4) (q := 39) (show 35 ≤ _ by omega)).pr (j := 5) (q := 40) (show 35 ≤ _ by omega)).pr (j := 6) (q := 41) (show 35 ≤ _ by omega)).pr (j := 7) (q := 42) (show 35 ≤ _ by omega)).pr (j := 0) (q := 30) (show 35 ≤ _ by omega))
  refine At.putR dX11_init_105 cl_11 (by decide) fk_X11_62 rfl rfl rfl sh_1 (by omega) (by decide) (fun t ht => by rw [tyX11_ok 7 (by decide)] at ht; cases ht; first | exact Or.inl ⟨_, rfl⟩ | exact Or.inr ⟨_, rfl⟩) <| ?_
  have z22 := z21.pr (j := 7) (q := 35) (show 1 ≤ _ by omega)
  refine At.aloadn dX11_init_108 rfl <| ?_
  refine At.newO dX11_init_109 cl_10 tyX10_ok df_10 wc_X11_57 wi_10 wn_10 sh_43 z22 (by omega) ⟨Nat.le_of_ble_eq_true rfl, Nat.le_of_ble_eq_true rfl⟩ <| ?_
  have z23 := z22.mo
  refine At.dup rfl dX11_init_112 <| At.aloadn dX11_init_113 rfl <| At.getR fl_X11_44 sh_1 (by omega) (q := 30) (by simp [up]) dX11_init_114 <| ?_
  refine At.callI (av := [vr 30]) (rest := [vr 43, vr 1]) mi_X10_init lk_X11_59 dX11_init_117 rfl rfl (by omega) (Nat.le_of_ble_eq_true rfl) (by decide) ⟨Nat.le_of_ble_eq_true rfl, Nat.le_of_ble_eq_true rfl⟩ (iX10_init sh_43 z23) ?_
  rintro _ _ ⟨rfl, rfl⟩
  have z24 := (((((((((z23.mono (show _ ≤ 50 by omega)).pr (j := 1) (q := 44) (show 43 ≤ _ by omega)).pr (j := 2) (q := 45) (show 43 ≤ _ by omega)).pr (j := 3) (q := 46) (show 43 ≤ _ by omega)).pr (j := 4) (q := 47) (show 43 ≤ _ by omega)).pr (j := 5) (q := 48) (show 43 ≤ _ by omega)).pr (j := 6) (q := 49) (show 43 ≤ _ by omega)).pr (j := 7) (q := 50) (show 43 ≤ _ by omega)).pr (j := 0) (q := 30) (show 43 ≤ _ by omega))
  refine At.putR dX11_init_120 cl_11 (by decide) fk_X11_66 rfl rfl rfl sh_1 (by omega) (by decide) (fun t ht => by rw [tyX11_ok 8 (by decide)] at ht; cases ht; first | exact Or.inl ⟨_, rfl⟩ | exact Or.inr ⟨_, rfl⟩) <| ?_
  have z25 := z24.pr (j := 8) (q := 43) (show 1 ≤ _ by omega)
  refine At.aloadn dX11_init_123 rfl <| ?_
  refine At.newO dX11_init_124 cl_7 tyX7_ok df_7 wc_X11_69 wi_7 wn_7 sh_51 z25 (by omega) ⟨Nat.le_of_ble_eq_true rfl, Nat.le_of_ble_eq_true rfl⟩ <| ?_
  have z26 := z25.mo
  refine At.dup rfl dX11_init_127 <| At.aloadn dX11_init_128 rfl <| At.getR fl_X11_44 sh_1 (by omega) (q := 30) (by simp [up]) dX11_init_129 <| ?_
  refine At.callI (av := [vr 30]) (rest := [vr 51, vr 1]) mi_X7_init lk_X11_71 dX11_init_132 rfl rfl (by omega) (Nat.le_of_ble_eq_true rfl) (by decide) ⟨Nat.le_of_ble_eq_true rfl, Nat.le_of_ble_eq_true rfl⟩ (iX7_init z26) ?_
  rintro _ _ ⟨rfl, rfl⟩
  have z27 := ((((z26.mono (show _ ≤ 53 by omega)).pr (j := 1) (q := 52) (show 51 ≤ _ by omega)).pr (j := 2) (q := 53) (show 51 ≤ _ by omega)).pr (j := 0) (q := 30) (show 51 ≤ _ by omega))
  refine At.putR dX11_init_135 cl_11 (by decide) fk_X11_72 rfl rfl rfl sh_1 (by omega) (by decide) (fun t ht => by rw [tyX11_ok 9 (by decide)] at ht; cases ht; first | exact Or.inl ⟨_, rfl⟩ | exact Or.inr ⟨_, rfl⟩) <| ?_
  have z28 := z27.pr (j := 9) (q := 51) (show 1 ≤ _ by omega)
  refine At.aloadn dX11_init_138 rfl <| ?_
  refine At.newO dX11_init_139 cl_1 tyX1_ok df_1 wc_X11_76 wi_1 wn_1 sh_54 z28 (by omega) ⟨Nat.le_of_ble_eq_true rfl, Nat.le_of_ble_eq_true rfl⟩ <| ?_
  have z29 := z28.mo
  refine At.dup rfl dX11_init_142 <| At.aloadn dX11_init_143 rfl <| At.getR fl_X11_44 sh_1 (by omega) (q := 30) (by simp [up]) dX11_init_144 <| ?_
  refine At.callI (av := [vr 30]) (rest := [vr 54, vr 1]) mi_X1_init lk_X11_78 dX11_init_147 rfl rfl (by omega) (Nat.le_of_ble_eq_true rfl) (by decide) ⟨Nat.le_of_ble_eq_true rfl, Nat.le_of_ble_eq_true rfl⟩ (iX1_init z29) ?_
  rintro _ _ ⟨rfl, rfl⟩
  have z30 := ((((((z29.mono (show _ ≤ 58 by omega)).pr (j := 0) (q := 56) (show 55 ≤ _ by omega)).pr (j := 1) (q := 57) (show 55 ≤ _ by omega)).pr (j := 2) (q := 58) (show 55 ≤ _ by omega)).pr (j := 1) (q := 55) (show 54 ≤ _ by omega)).pr (j := 0) (q := 30) (show 54 ≤ _ by omega))
  refine At.putR dX11_init_150 cl_11 (by decide) fk_X11_79 rfl rfl rfl sh_1 (by omega) (by decide) (fun t ht => by rw [tyX11_ok 10 (by decide)] at ht; cases ht; first | exact Or.inl ⟨_, rfl⟩ | exact Or.inr ⟨_, rfl⟩) <| ?_
  have z31 := z30.pr (j := 10) (q := 54) (show 1 ≤ _ by omega)
  refine At.aloadn dX11_init_153 rfl <| ?_
  refine At.newO dX11_init_154 cl_2 tyX2_ok df_2 wc_X11_83 wi_2 wn_2 sh_59 z31 (by omega) ⟨Nat.le_of_ble_eq_true rfl, Nat.le_of_ble_eq_true rfl⟩ <| ?_
  have z32 := z31.mo
  refine At.dup rfl dX11_init_157 <| ?_
  refine At.callI (av := []) (rest := [vr 59, vr 1]) mi_X2_init lk_X11_85 dX11_init_158 rfl rfl (by omega) (Nat.le_of_ble_eq_true rfl) (by decide) ⟨Nat.le_of_ble_eq_true rfl, Nat.le_of_ble_eq_true rfl⟩ (iX2_init z32) ?_
  rintro _ _ ⟨rfl, rfl⟩
  have z33 := ((((((((((((((((((((((((((((((((((((((((((z32.mono (show _ ≤ 100 by omega)).pr (j := 0) (q := 60) (show 59 ≤ _ by omega)).pr (j := 0) (q := 62) (show 61 ≤ _ by omega)).pr (j := 1) (q := 63) (show 61 ≤ _ by omega)).pr (j := 2) (q := 64) (show 61 ≤ _ by omega)).pr (j := 0) (q := 61) (show 60 ≤ _ by omega)).pr (j := 0) (q := 66) (show 65 ≤ _ by omega)).pr (j := 1) (q := 67) (show 65 ≤ _ by omega)).pr (j := 2) (q := 68) (show 65 ≤ _ by omega)).pr (j := 1) (q := 65) (show 60 ≤ _ by omega)).pr (j := 0) (q := 70) (show 69 ≤ _ by omega)).pr (j := 1) (q := 71) (show 69 ≤ _ by omega)).pr (j := 2) (q := 72) (show 69 ≤ _ by omega)).pr (j := 2) (q := 69) (show 60 ≤ _ by omega)).pr (j := 0) (q := 74) (show 73 ≤ _ by omega)).pr (j := 1) (q := 75) (show 73 ≤ _ by omega)).pr (j := 2) (q := 76) (show 73 ≤ _ by omega)).pr (j := 3) (q := 73) (show 60 ≤ _ by omega)).pr (j := 0) (q := 78) (show 77 ≤ _ by omega)).pr (j := 1) (q := 79) (show 77 ≤ _ by omega)).pr (j := 2) (q := 80) (show 77 ≤ _ by omega)).pr (j := 4) (q := 77) (show 60 ≤ _ by omega)).pr (j := 0) (q := 82) (show 81 ≤ _ by omega)).pr (j := 1) (q := 83) (show 81 ≤ _ by omega)).pr (j := 2) (q := 84) (show 81 ≤ _ by omega)).pr (j := 5) (q := 81) (show 60 ≤ _ by omega)).pr (j := 0) (q := 86) (show 85 ≤ _ by omega)).pr (j := 1) (q := 87) (show 85 ≤ _ by omega)).pr (j := 2) (q := 88) (show 85 ≤ _ by omega)).pr (j := 6) (q := 85) (show 60 ≤ _ by omega)).pr (j := 0) (q := 90) (show 89 ≤ _ by omega)).pr (j := 1) (q := 91) (show 89 ≤ _ by omega)).pr (j := 2) (q := 92) (show 89 ≤ _ by omega)).pr (j := 7) (q := 89) (show 60 ≤ _ by omega)).pr (j := 0) (q := 94) (show 93 ≤ _ by omega)).pr (j := 1) (q := 95) (show 93 ≤ _ by omega)).pr (j := 2) (q := 96) (show 93 ≤ _ by omega)).pr (j := 8) (q := 93) (show 60 ≤ _ by omega)).pr (j := 0) (q := 98) (show 97 ≤ _ by omega)).pr (j := 1) (q := 99) (show 97 ≤ _ by omega)).pr (j := 2) (q := 100) (show 97 ≤ _ by omega)).pr (j := 9) (q := 97) (show 60 ≤ _ by omega))
  refine At.putR dX11_init_161 cl_11 (by decide) fk_X11_86 rfl rfl rfl sh_1 (by omega) (by decide) (fun t ht => by rw [tyX11_ok 11 (by decide)] at ht; cases ht; first | exact Or.inl ⟨_, rfl⟩ | exact Or.inr ⟨_, rfl⟩) <| ?_
  have z34 := z33.pr (j := 11) (q := 59) (show 1 ≤ _ by omega)
  refine At.aloadn dX11_init_164 rfl <| At.iconst dX11_init_165 (by decide) <| ?_
  refine At.anewQ (N := 4) dX11_init_166 wc_X11_90 rfl (by decide) sh_101 z34 (by omega) ⟨Nat.le_of_ble_eq_true rfl, Nat.le_of_ble_eq_true rfl⟩ <| ?_
  have z35 := z34.mo
  refine At.putR dX11_init_169 cl_11 (by decide) fk_X11_92 rfl rfl rfl sh_1 (by omega) (by decide) (fun t ht => by rw [tyX11_ok 12 (by decide)] at ht; cases ht; first | exact Or.inl ⟨_, rfl⟩ | exact Or.inr ⟨_, rfl⟩) <| ?_
  have z36 := z35.pr (j := 12) (q := 101) (show 1 ≤ _ by omega)
  refine At.aloadn dX11_init_172 rfl <| At.iconst dX11_init_173 (by decide) <| ?_
  refine At.anewT (N := 2) dX11_init_174 wc_X11_9 rfl (by decide) sh_102 z36 (by omega) ⟨Nat.le_of_ble_eq_true rfl, Nat.le_of_ble_eq_true rfl⟩ <| ?_
  have z37 := z36.mo
  refine At.putR dX11_init_177 cl_11 (by decide) fk_X11_96 rfl rfl rfl sh_1 (by omega) (by decide) (fun t ht => by rw [tyX11_ok 13 (by decide)] at ht; cases ht; first | exact Or.inl ⟨_, rfl⟩ | exact Or.inr ⟨_, rfl⟩) <| ?_
  have z38 := z37.pr (j := 13) (q := 102) (show 1 ≤ _ by omega)
  refine At.aloadn dX11_init_180 rfl <| At.bipush dX11_init_181 (by decide) <| ?_
  refine At.newI (N := 20) dX11_init_183 rfl (by decide) sh_103 z38 (by omega) ⟨Nat.le_of_ble_eq_true rfl, Nat.le_of_ble_eq_true rfl⟩ <| ?_
  have z39 := z38.mo
  refine At.putR dX11_init_185 cl_11 (by decide) fk_X11_100 rfl rfl rfl sh_1 (by omega) (by decide) (fun t ht => by rw [tyX11_ok 14 (by decide)] at ht; cases ht; first | exact Or.inl ⟨_, rfl⟩ | exact Or.inr ⟨_, rfl⟩) <| ?_
  have z40 := z39.pr (j := 14) (q := 103) (show 1 ≤ _ by omega)
  refine At.iconst dX11_init_188 (by decide) <| At.istoren (ls' := [(1, vi 0), (0, vr 1)]) dX11_init_189 (by decide) rfl <| At.iloadn dX11_init_190 rfl <| At.aloadn dX11_init_191 rfl <| At.getR fl_X11_92 sh_1 (by omega) (q := 101) (by simp [up]) dX11_init_192 <| At.alenQ sh_101 (by omega) (by decide) (z := 4) rfl dX11_init_195 <| At.icmp_ge_f (tgt := 218) dX11_init_196 (by decide) (by decide) <| At.aloadn dX11_init_199 rfl <| At.getR fl_X11_92 sh_1 (by omega) (q := 101) (by simp [up]) dX11_init_200 <| At.iloadn dX11_init_203 rfl <| ?_
  refine At.newO dX11_init_204 cl_9 tyX9_ok df_9 wc_X11_90 wi_9 wn_9 sh_104 z40 (by omega) ⟨Nat.le_of_ble_eq_true rfl, Nat.le_of_ble_eq_true rfl⟩ <| ?_
  have z41 := z40.mo
  refine At.dup rfl dX11_init_207 <| ?_
  refine At.callI (av := []) (rest := [vr 104, vi 0, vr 101]) mi_X9_init lk_X11_104 dX11_init_208 rfl rfl (by omega) (Nat.le_of_ble_eq_true rfl) (by decide) ⟨Nat.le_of_ble_eq_true rfl, Nat.le_of_ble_eq_true rfl⟩ (iX9_init sh_104 z41) ?_
  rintro _ _ ⟨rfl, rfl⟩
  have z42 := (((z41.mono (show _ ≤ 105 by omega)).pr (j := 0) (q := 105) (show 104 ≤ _ by omega)).ps (j := 2) (z := -1) (show 104 ≤ _ by omega))
  refine At.aastQ dX11_init_211 sh_101 (by omega) sh_104 (by omega) (by decide) (by decide) <| ?_
  have z43 := z42.pr (j := 0) (q := 104) (show 101 ≤ _ by omega)
  refine At.iinc (ls' := [(1, vi 1), (0, vr 1)]) dX11_init_212 rfl (by decide) (by decide) <| At.goto (tgt := 190) dX11_init_215 (by decide) <| At.iloadn dX11_init_190 rfl <| At.aloadn dX11_init_191 rfl <| At.getR fl_X11_92 sh_1 (by omega) (q := 101) (by simp [up]) dX11_init_192 <| At.alenQ sh_101 (by omega) (by decide) (z := 4) rfl dX11_init_195 <| At.icmp_ge_f (tgt := 218) dX11_init_196 (by decide) (by decide) <| At.aloadn dX11_init_199 rfl <| At.getR fl_X11_92 sh_1 (by omega) (q := 101) (by simp [up]) dX11_init_200 <| At.iloadn dX11_init_203 rfl <| ?_
  refine At.newO dX11_init_204 cl_9 tyX9_ok df_9 wc_X11_90 wi_9 wn_9 sh_106 z43 (by omega) ⟨Nat.le_of_ble_eq_true rfl, Nat.le_of_ble_eq_true rfl⟩ <| ?_
  have z44 := z43.mo
  refine At.dup rfl dX11_init_207 <| ?_
  refine At.callI (av := []) (rest := [vr 106, vi 1, vr 101]) mi_X9_init lk_X11_104 dX11_init_208 rfl rfl (by omega) (Nat.le_of_ble_eq_true rfl) (by decide) ⟨Nat.le_of_ble_eq_true rfl, Nat.le_of_ble_eq_true rfl⟩ (iX9_init sh_106 z44) ?_
  rintro _ _ ⟨rfl, rfl⟩
  have z45 := (((z44.mono (show _ ≤ 107 by omega)).pr (j := 0) (q := 107) (show 106 ≤ _ by omega)).ps (j := 2) (z := -1) (show 106 ≤ _ by omega))
  refine At.aastQ dX11_init_211 sh_101 (by omega) sh_106 (by omega) (by decide) (by decide) <| ?_
  have z46 := z45.pr (j := 1) (q := 106) (show 101 ≤ _ by omega)
  refine At.iinc (ls' := [(1, vi 2), (0, vr 1)]) dX11_init_212 rfl (by decide) (by decide) <| At.goto (tgt := 190) dX11_init_215 (by decide) <| At.iloadn dX11_init_190 rfl <| At.aloadn dX11_init_191 rfl <| At.getR fl_X11_92 sh_1 (by omega) (q := 101) (by simp [up]) dX11_init_192 <| At.alenQ sh_101 (by omega) (by decide) (z := 4) rfl dX11_init_195 <| At.icmp_ge_f (tgt := 218) dX11_init_196 (by decide) (by decide) <| At.aloadn dX11_init_199 rfl <| At.getR fl_X11_92 sh_1 (by omega) (q := 101) (by simp [up]) dX11_init_200 <| At.iloadn dX11_init_203 rfl <| ?_
  refine At.newO dX11_init_204 cl_9 tyX9_ok df_9 wc_X11_90 wi_9 wn_9 sh_108 z46 (by omega) ⟨Nat.le_of_ble_eq_true rfl, Nat.le_of_ble_eq_true rfl⟩ <| ?_
  have z47 := z46.mo
  refine At.dup rfl dX11_init_207 <| ?_
  refine At.callI (av := []) (rest := [vr 108, vi 2, vr 101]) mi_X9_init lk_X11_104 dX11_init_208 rfl rfl (by omega) (Nat.le_of_ble_eq_true rfl) (by decide) ⟨Nat.le_of_ble_eq_true rfl, Nat.le_of_ble_eq_true rfl⟩ (iX9_init sh_108 z47) ?_
  rintro _ _ ⟨rfl, rfl⟩
  have z48 := (((z47.mono (show _ ≤ 109 by omega)).pr (j := 0) (q := 109) (show 108 ≤ _ by omega)).ps (j := 2) (z := -1) (show 108 ≤ _ by omega))
  refine At.aastQ dX11_init_211 sh_101 (by omega) sh_108 (by omega) (by decide) (by decide) <| ?_
  have z49 := z48.pr (j := 2) (q := 108) (show 101 ≤ _ by omega)
  refine At.iinc (ls' := [(1, vi 3), (0, vr 1)]) dX11_init_212 rfl (by decide) (by decide) <| At.goto (tgt := 190) dX11_init_215 (by decide) <| At.iloadn dX11_init_190 rfl <| At.aloadn dX11_init_191 rfl <| At.getR fl_X11_92 sh_1 (by omega) (q := 101) (by simp [up]) dX11_init_192 <| At.alenQ sh_101 (by omega) (by decide) (z := 4) rfl dX11_init_195 <| At.icmp_ge_f (tgt := 218) dX11_init_196 (by decide) (by decide) <| At.aloadn dX11_init_199 rfl <| At.getR fl_X11_92 sh_1 (by omega) (q := 101) (by simp [up]) dX11_init_200 <| At.iloadn dX11_init_203 rfl <| ?_
  refine At.newO dX11_init_204 cl_9 tyX9_ok df_9 wc_X11_90 wi_9 wn_9 sh_110 z49 (by omega) ⟨Nat.le_of_ble_eq_true rfl, Nat.le_of_ble_eq_true rfl⟩ <| ?_
  have z50 := z49.mo
  refine At.dup rfl dX11_init_207 <| ?_
  refine At.callI (av := []) (rest := [vr 110, vi 3, vr 101]) mi_X9_init lk_X11_104 dX11_init_208 rfl rfl (by omega) (Nat.le_of_ble_eq_true rfl) (by decide) ⟨Nat.le_of_ble_eq_true rfl, Nat.le_of_ble_eq_true rfl⟩ (iX9_init sh_110 z50) ?_
  rintro _ _ ⟨rfl, rfl⟩
  have z51 := (((z50.mono (show _ ≤ 111 by omega)).pr (j := 0) (q := 111) (show 110 ≤ _ by omega)).ps (j := 2) (z := -1) (show 110 ≤ _ by omega))
  refine At.aastQ dX11_init_211 sh_101 (by omega) sh_110 (by omega) (by decide) (by decide) <| ?_
  have z52 := z51.pr (j := 3) (q := 110) (show 101 ≤ _ by omega)
  refine At.iinc (ls' := [(1, vi 4), (0, vr 1)]) dX11_init_212 rfl (by decide) (by decide) <| At.goto (tgt := 190) dX11_init_215 (by decide) <| At.iloadn dX11_init_190 rfl <| At.aloadn dX11_init_191 rfl <| At.getR fl_X11_92 sh_1 (by omega) (q := 101) (by simp [up]) dX11_init_192 <| At.alenQ sh_101 (by omega) (by decide) (z := 4) rfl dX11_init_195 <| At.icmp_ge_t (tgt := 218) dX11_init_196 (by decide) (by decide) <| At.iconst dX11_init_218 (by decide) <| At.istoren (ls' := [(1, vi 0), (0, vr 1)]) dX11_init_219 (by decide) rfl <| At.iloadn dX11_init_220 rfl <| At.aloadn dX11_init_221 rfl <| At.getR fl_X11_96 sh_1 (by omega) (q := 102) (by simp [up]) dX11_init_222 <| At.alenT sh_102 (by omega) (by decide) (z := 2) rfl dX11_init_225 <| At.icmp_ge_f (tgt := 248) dX11_init_226 (by decide) (by decide) <| At.aloadn dX11_init_229 rfl <| At.getR fl_X11_96 sh_1 (by omega) (q := 102) (by simp [up]) dX11_init_230 <| At.iloadn dX11_init_233 rfl <| ?_
  refine At.newO dX11_init_234 cl_8 tyX8_ok df_8 wc_X11_9 wi_8 wn_8 sh_112 z52 (by omega) ⟨Nat.le_of_ble_eq_true rfl, Nat.le_of_ble_eq_true rfl⟩ <| ?_
  have z53 := z52.mo
  refine At.dup rfl dX11_init_237 <| ?_
  refine At.callI (av := []) (rest := [vr 112, vi 0, vr 102]) mi_X8_init lk_X11_11 dX11_init_238 rfl rfl (by omega) (Nat.le_of_ble_eq_true rfl) (by decide) ⟨Nat.le_of_ble_eq_true rfl, Nat.le_of_ble_eq_true rfl⟩ (iX8_init sh_112 z53) ?_
  rintro _ _ ⟨rfl, rfl⟩
  have z54 := ((((((((((z53.mono (show _ ≤ 120 by omega)).pr (j := 0) (q := 113) (show 112 ≤ _ by omega)).pr (j := 1) (q := 114) (show 112 ≤ _ by omega)).pr (j := 2) (q := 115) (show 112 ≤ _ by omega)).pr (j := 3) (q := 116) (show 112 ≤ _ by omega)).pr (j := 0) (q := 118) (show 117 ≤ _ by omega)).pr (j := 1) (q := 119) (show 117 ≤ _ by omega)).pr (j := 2) (q := 120) (show 117 ≤ _ by omega)).pr (j := 4) (q := 117) (show 112 ≤ _ by omega)).ps (j := 5) (z := 1) (show 112 ≤ _ by omega))
  refine At.aastT dX11_init_241 sh_102 (by omega) sh_112 (by omega) (by decide) (by decide) <| ?_
  have z55 := z54.pr (j := 0) (q := 112) (show 102 ≤ _ by omega)
  refine At.iinc (ls' := [(1, vi 1), (0, vr 1)]) dX11_init_242 rfl (by decide) (by decide) <| At.goto (tgt := 220) dX11_init_245 (by decide) <| At.iloadn dX11_init_220 rfl <| At.aloadn dX11_init_221 rfl <| At.getR fl_X11_96 sh_1 (by omega) (q := 102) (by simp [up]) dX11_init_222 <| At.alenT sh_102 (by omega) (by decide) (z := 2) rfl dX11_init_225 <| At.icmp_ge_f (tgt := 248) dX11_init_226 (by decide) (by decide) <| At.aloadn dX11_init_229 rfl <| At.getR fl_X11_96 sh_1 (by omega) (q := 102) (by simp [up]) dX11_init_230 <| At.iloadn dX11_init_233 rfl <| ?_
  refine At.newO dX11_init_234 cl_8 tyX8_ok df_8 wc_X11_9 wi_8 wn_8 sh_121 z55 (by omega) ⟨Nat.le_of_ble_eq_true rfl, Nat.le_of_ble_eq_true rfl⟩ <| ?_
  have z56 := z55.mo
  refine At.dup rfl dX11_init_237 <| ?_
  refine At.callI (av := []) (rest := [vr 121, vi 1, vr 102]) mi_X8_init lk_X11_11 dX11_init_238 rfl rfl (by omega) (Nat.le_of_ble_eq_true rfl) (by decide) ⟨Nat.le_of_ble_eq_true rfl, Nat.le_of_ble_eq_true rfl⟩ (iX8_init sh_121 z56) ?_
  rintro _ _ ⟨rfl, rfl⟩
  have z57 := ((((((((((z56.mono (show _ ≤ 129 by omega)).pr (j := 0) (q := 122) (show 121 ≤ _ by omega)).pr (j := 1) (q := 123) (show 121 ≤ _ by omega)).pr (j := 2) (q := 124) (show 121 ≤ _ by omega)).pr (j := 3) (q := 125) (show 121 ≤ _ by omega)).pr (j := 0) (q := 127) (show 126 ≤ _ by omega)).pr (j := 1) (q := 128) (show 126 ≤ _ by omega)).pr (j := 2) (q := 129) (show 126 ≤ _ by omega)).pr (j := 4) (q := 126) (show 121 ≤ _ by omega)).ps (j := 5) (z := 1) (show 121 ≤ _ by omega))
  refine At.aastT dX11_init_241 sh_102 (by omega) sh_121 (by omega) (by decide) (by decide) <| ?_
  have z58 := z57.pr (j := 1) (q := 121) (show 102 ≤ _ by omega)
  refine At.iinc (ls' := [(1, vi 2), (0, vr 1)]) dX11_init_242 rfl (by decide) (by decide) <| At.goto (tgt := 220) dX11_init_245 (by decide) <| At.iloadn dX11_init_220 rfl <| At.aloadn dX11_init_221 rfl <| At.getR fl_X11_96 sh_1 (by omega) (q := 102) (by simp [up]) dX11_init_222 <| At.alenT sh_102 (by omega) (by decide) (z := 2) rfl dX11_init_225 <| At.icmp_ge_t (tgt := 248) dX11_init_226 (by decide) (by decide) <| ?_
  exact At.vret rfl (Nat.le_of_ble_eq_true rfl) (Nat.le_of_ble_eq_true rfl) ⟨rfl, rfl⟩ dX11_init_248
