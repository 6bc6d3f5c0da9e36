theorem fk_X12_13 : Cond.fieldLink RX12 13 (TX12 1).1 (TX12 1).2.1 (TX12 1).2.2.1 ∈ lw_good := gd_mem (u155_in _ (List.mem_of_getElem? (i := 7) rfl)) rfl
theorem fk_X12_17 : Cond.fieldLink RX12 17 (TX12 2).1 (TX12 2).2.1 (TX12 2).2.2.1 ∈ lw_good := gd_mem (u156_in _ (List.mem_of_getElem? (i := 0) rfl)) rfl
theorem fk_X12_21 : Cond.fieldLink RX12 21 (TX12 3).1 (TX12 3).2.1 (TX12 3).2.2.1 ∈ lw_good := gd_mem (u156_in _ (List.mem_of_getElem? (i := 1) rfl)) rfl
theorem fk_X12_24 : Cond.fieldLink RX12 24 (TX12 4).1 (TX12 4).2.1 (TX12 4).2.2.1 ∈ lw_good := gd_mem (u156_in _ (List.mem_of_getElem? (i := 2) rfl)) rfl
theorem fk_X12_30 : Cond.fieldLink RX12 30 (TX12 16).1 (TX12 16).2.1 (TX12 16).2.2.1 ∈ lw_good := gd_mem (u157_in _ (List.mem_of_getElem? (i := 6) rfl)) rfl
theorem fk_X12_33 : Cond.fieldLink RX12 33 (TX12 17).1 (TX12 17).2.1 (TX12 17).2.2.1 ∈ lw_good := gd_mem (u157_in _ (List.mem_of_getElem? (i := 7) rfl)) rfl
theorem fk_X12_36 : Cond.fieldLink RX12 36 (TX12 18).1 (TX12 18).2.1 (TX12 18).2.2.1 ∈ lw_good := gd_mem (u158_in _ (List.mem_of_getElem? (i := 0) rfl)) rfl
theorem fk_X12_39 : Cond.fieldLink RX12 39 (TX12 21).1 (TX12 21).2.1 (TX12 21).2.2.1 ∈ lw_good := gd_mem (u158_in _ (List.mem_of_getElem? (i := 3) rfl)) rfl
theorem fk_X12_42 : Cond.fieldLink RX12 42 (TX12 22).1 (TX12 22).2.1 (TX12 22).2.2.1 ∈ lw_good := gd_mem (u158_in _ (List.mem_of_getElem? (i := 4) rfl)) rfl
theorem fk_X12_45 : Cond.fieldLink RX12 45 (TX12 23).1 (TX12 23).2.1 (TX12 23).2.2.1 ∈ lw_good := gd_mem (u158_in _ (List.mem_of_getElem? (i := 5) rfl)) rfl
theorem fk_X12_48 : Cond.fieldLink RX12 48 (TX12 24).1 (TX12 24).2.1 (TX12 24).2.2.1 ∈ lw_good := gd_mem (u158_in _ (List.mem_of_getElem? (i := 6) rfl)) rfl
theorem fk_X12_51 : Cond.fieldLink RX12 51 (TX12 25).1 (TX12 25).2.1 (TX12 25).2.2.1 ∈ lw_good := gd_mem (u158_in _ (List.mem_of_getElem? (i := 7) rfl)) rfl
theorem fk_X12_55 : Cond.fieldLink RX12 55 (TX12 26).1 (TX12 26).2.1 (TX12 26).2.2.1 ∈ lw_good := gd_mem (u159_in _ (List.mem_of_getElem? (i := 0) rfl)) rfl
theorem fk_X12_58 : Cond.fieldLink RX12 58 (TX12 27).1 (TX12 27).2.1 (TX12 27).2.2.1 ∈ lw_good := gd_mem (u159_in _ (List.mem_of_getElem? (i := 1) rfl)) rfl
theorem fk_X12_61 : Cond.fieldLink RX12 61 (TX12 28).1 (TX12 28).2.1 (TX12 28).2.2.1 ∈ lw_good := gd_mem (u159_in _ (List.mem_of_getElem? (i := 2) rfl)) rfl
theorem fk_X12_64 : Cond.fieldLink RX12 64 (TX12 29).1 (TX12 29).2.1 (TX12 29).2.2.1 ∈ lw_good := gd_mem (u159_in _ (List.mem_of_getElem? (i := 3) rfl)) rfl
theorem fk_X12_67 : Cond.fieldLink RX12 67 (TX12 30).1 (TX12 30).2.1 (TX12 30).2.2.1 ∈ lw_good := gd_mem (u159_in _ (List.mem_of_getElem? (i := 4) rfl)) rfl
theorem fk_X12_70 : Cond.fieldLink RX12 70 (TX12 31).1 (TX12 31).2.1 (TX12 31).2.2.1 ∈ lw_good := gd_mem (u159_in _ (List.mem_of_getElem? (i := 5) rfl)) rfl
theorem fk_X12_73 : Cond.fieldLink RX12 73 (TX12 32).1 (TX12 32).2.1 (TX12 32).2.2.1 ∈ lw_good := gd_mem (u159_in _ (List.mem_of_getElem? (i := 6) rfl)) rfl
set_option maxRecDepth 100000 in
set_option maxHeartbeats 4000000 in
theorem iX12_init {G : GG} {R : Nat → Nat → Nat} {S S' : SS} (hz : ZB R S 130) (hRR : (up (up (up (up (up (up (up (up (up (up (up (up (up (up (up (up (up (up (up R 130 1 131) 130 2 132) 130 3 133) 130 4 134) 130 16 135) 130 17 136) 130 18 137) 130 21 138) 130 22 139) 130 23 140) 130 24 141) 130 25 142) 130 26 143) 130 27 144) 130 28 145) 130 29 146) 130 30 147) 130 31 148) 130 32 149) = refs) (hp : fX12_plain_3303 131 (up (up (up (up (up S 130 14 (-1)) 147 0 (-1)) 147 1 (-1)) 147 2 (-1)) 147 3 (-1)) = some S') : Runs G mX12_init 6 [vr 130] (130, R, S) (fun v M => v = none ∧ M = (149, refs, S')) := by
  refine Runs.of pl_X12 (Nat.le_of_ble_eq_true rfl) ?_
  show At G mX12_init 6 0 [(0, vr 130)] [] (130, R, S) 0 0 _
  refine At.aloadn dX12_init_0 rfl <| At.objI dX12_init_1 wo_X12_7 (by omega) (Nat.le_of_ble_eq_true rfl) (by decide) <| At.aloadn dX12_init_4 rfl <| At.sipush dX12_init_5 (by decide) <| ?_
  refine At.newI (N := 3303) dX12_init_8 rfl (by decide) sh_131 hz (by omega) ⟨Nat.le_of_ble_eq_true rfl, Nat.le_of_ble_eq_true rfl⟩ <| ?_
  have z1 := hz.mo
  refine At.putR dX12_init_10 cl_12 (by decide) fk_X12_13 rfl rfl rfl sh_130 (by omega) (by decide) (fun t ht => by rw [tyX12_ok 1 (by decide)] at ht; cases ht; first | exact Or.inl ⟨_, rfl⟩ | exact Or.inr ⟨_, rfl⟩) <| ?_
  have z2 := z1.pr (j := 1) (q := 131) (show 130 ≤ _ by omega)
  refine At.aloadn dX12_init_13 rfl <| At.iconst dX12_init_14 (by decide) <| ?_
  refine At.newZ (N := 2) dX12_init_15 rfl (by decide) sh_132 z2 (by omega) ⟨Nat.le_of_ble_eq_true rfl, Nat.le_of_ble_eq_true rfl⟩ <| ?_
  have z3 := z2.mo
  refine At.putR dX12_init_17 cl_12 (by decide) fk_X12_17 rfl rfl rfl sh_130 (by omega) (by decide) (fun t ht => by rw [tyX12_ok 2 (by decide)] at ht; cases ht; first | exact Or.inl ⟨_, rfl⟩ | exact Or.inr ⟨_, rfl⟩) <| ?_
  have z4 := z3.pr (j := 2) (q := 132) (show 130 ≤ _ by omega)
  refine At.aloadn dX12_init_20 rfl <| At.sipush dX12_init_21 (by decide) <| ?_
  refine At.newI (N := 900) dX12_init_24 rfl (by decide) sh_133 z4 (by omega) ⟨Nat.le_of_ble_eq_true rfl, Nat.le_of_ble_eq_true rfl⟩ <| ?_
  have z5 := z4.mo
  refine At.putR dX12_init_26 cl_12 (by decide) fk_X12_21 rfl rfl rfl sh_130 (by omega) (by decide) (fun t ht => by rw [tyX12_ok 3 (by decide)] at ht; cases ht; first | exact Or.inl ⟨_, rfl⟩ | exact Or.inr ⟨_, rfl⟩) <| ?_
  have z6 := z5.pr (j := 3) (q := 133) (show 130 ≤ _ by omega)
  refine At.aloadn dX12_init_29 rfl <| At.sipush dX12_init_30 (by decide) <| ?_
  refine At.newI (N := 1101) dX12_init_33 rfl (by decide) sh_134 z6 (by omega) ⟨Nat.le_of_ble_eq_true rfl, Nat.le_of_ble_eq_true rfl⟩ <| ?_
  have z7 := z6.mo
  refine At.putR dX12_init_35 cl_12 (by decide) fk_X12_24 rfl rfl rfl sh_130 (by omega) (by decide) (fun t ht => by rw [tyX12_ok 4 (by decide)] at ht; cases ht; first | exact Or.inl ⟨_, rfl⟩ | exact Or.inr ⟨_, rfl⟩) <| ?_
  have z8 := z7.pr (j := 4) (q := 134) (show 130 ≤ _ by omega)
  refine At.aloadn dX12_init_38 rfl <| At.iconst dX12_init_39 (by decide) <| ?_
  refine At.putI fw_X12_27 sh_130 (by omega) dX12_init_40 <| ?_
  have z9 := z8.ps (j := 14) (z := -1) (show 130 ≤ _ by omega)
  refine At.aloadn dX12_init_43 rfl <| At.sipush dX12_init_44 (by decide) <| ?_
  refine At.newI (N := 900) dX12_init_47 rfl (by decide) sh_135 z9 (by omega) ⟨Nat.le_of_ble_eq_true rfl, Nat.le_of_ble_eq_true rfl⟩ <| ?_
  have z10 := z9.mo
  refine At.putR dX12_init_49 cl_12 (by decide) fk_X12_30 rfl rfl rfl sh_130 (by omega) (by decide) (fun t ht => by rw [tyX12_ok 16 (by decide)] at ht; cases ht; first | exact Or.inl ⟨_, rfl⟩ | exact Or.inr ⟨_, rfl⟩) <| ?_
  have z11 := z10.pr (j := 16) (q := 135) (show 130 ≤ _ by omega)
  refine At.aloadn dX12_init_52 rfl <| At.bipush dX12_init_53 (by decide) <| ?_
  refine At.newI (N := 6) dX12_init_55 rfl (by decide) sh_136 z11 (by omega) ⟨Nat.le_of_ble_eq_true rfl, Nat.le_of_ble_eq_true rfl⟩ <| ?_
  have z12 := z11.mo
  refine At.putR dX12_init_57 cl_12 (by decide) fk_X12_33 rfl rfl rfl sh_130 (by omega) (by decide) (fun t ht => by rw [tyX12_ok 17 (by decide)] at ht; cases ht; first | exact Or.inl ⟨_, rfl⟩ | exact Or.inr ⟨_, rfl⟩) <| ?_
  have z13 := z12.pr (j := 17) (q := 136) (show 130 ≤ _ by omega)
  refine At.aloadn dX12_init_60 rfl <| At.bipush dX12_init_61 (by decide) <| ?_
  refine At.newI (N := 15) dX12_init_63 rfl (by decide) sh_137 z13 (by omega) ⟨Nat.le_of_ble_eq_true rfl, Nat.le_of_ble_eq_true rfl⟩ <| ?_
  have z14 := z13.mo
  refine At.putR dX12_init_65 cl_12 (by decide) fk_X12_36 rfl rfl rfl sh_130 (by omega) (by decide) (fun t ht => by rw [tyX12_ok 18 (by decide)] at ht; cases ht; first | exact Or.inl ⟨_, rfl⟩ | exact Or.inr ⟨_, rfl⟩) <| ?_
  have z15 := z14.pr (j := 18) (q := 137) (show 130 ≤ _ by omega)
  refine At.aloadn dX12_init_68 rfl <| At.sipush dX12_init_69 (by decide) <| ?_
  refine At.newI (N := 960) dX12_init_72 rfl (by decide) sh_138 z15 (by omega) ⟨Nat.le_of_ble_eq_true rfl, Nat.le_of_ble_eq_true rfl⟩ <| ?_
  have z16 := z15.mo
  refine At.putR dX12_init_74 cl_12 (by decide) fk_X12_39 rfl rfl rfl sh_130 (by omega) (by decide) (fun t ht => by rw [tyX12_ok 21 (by decide)] at ht; cases ht; first | exact Or.inl ⟨_, rfl⟩ | exact Or.inr ⟨_, rfl⟩) <| ?_
  have z17 := z16.pr (j := 21) (q := 138) (show 130 ≤ _ by omega)
  refine At.aloadn dX12_init_77 rfl <| At.bipush dX12_init_78 (by decide) <| ?_
  refine At.newI (N := 120) dX12_init_80 rfl (by decide) sh_139 z17 (by omega) ⟨Nat.le_of_ble_eq_true rfl, Nat.le_of_ble_eq_true rfl⟩ <| ?_
  have z18 := z17.mo
  refine At.putR dX12_init_82 cl_12 (by decide) fk_X12_42 rfl rfl rfl sh_130 (by omega) (by decide) (fun t ht => by rw [tyX12_ok 22 (by decide)] at ht; cases ht; first | exact Or.inl ⟨_, rfl⟩ | exact Or.inr ⟨_, rfl⟩) <| ?_
  have z19 := z18.pr (j := 22) (q := 139) (show 130 ≤ _ by omega)
  refine At.aloadn dX12_init_85 rfl <| At.bipush dX12_init_86 (by decide) <| ?_
  refine At.newI (N := 120) dX12_init_88 rfl (by decide) sh_140 z19 (by omega) ⟨Nat.le_of_ble_eq_true rfl, Nat.le_of_ble_eq_true rfl⟩ <| ?_
  have z20 := z19.mo
  refine At.putR dX12_init_90 cl_12 (by decide) fk_X12_45 rfl rfl rfl sh_130 (by omega) (by decide) (fun t ht => by rw [tyX12_ok 23 (by decide)] at ht; cases ht; first | exact Or.inl ⟨_, rfl⟩ | exact Or.inr ⟨_, rfl⟩) <| ?_
  have z21 := z20.pr (j := 23) (q := 140) (show 130 ≤ _ by omega)
  refine At.aloadn dX12_init_93 rfl <| At.bipush dX12_init_94 (by decide) <| ?_
  refine At.newI (N := 120) dX12_init_96 rfl (by decide) sh_141 z21 (by omega) ⟨Nat.le_of_ble_eq_true rfl, Nat.le_of_ble_eq_true rfl⟩ <| ?_
  have z22 := z21.mo
  refine At.putR dX12_init_98 cl_12 (by decide) fk_X12_48 rfl rfl rfl sh_130 (by omega) (by decide) (fun t ht => by rw [tyX12_ok 24 (by decide)] at ht; cases ht; first | exact Or.inl ⟨_, rfl⟩ | exact Or.inr ⟨_, rfl⟩) <| ?_
  have z23 := z22.pr (j := 24) (q := 141) (show 130 ≤ _ by omega)
  refine At.aloadn dX12_init_101 rfl <| At.bipush dX12_init_102 (by decide) <| ?_
  refine At.newJ (N := 120) dX12_init_104 rfl (by decide) sh_142 z23 (by omega) ⟨Nat.le_of_ble_eq_true rfl, Nat.le_of_ble_eq_true rfl⟩ <| ?_
  have z24 := z23.mo
  refine At.putR dX12_init_106 cl_12 (by decide) fk_X12_51 rfl rfl rfl sh_130 (by omega) (by decide) (fun t ht => by rw [tyX12_ok 25 (by decide)] at ht; cases ht; first | exact Or.inl ⟨_, rfl⟩ | exact Or.inr ⟨_, rfl⟩) <| ?_
  have z25 := z24.pr (j := 25) (q := 142) (show 130 ≤ _ by omega)
  refine At.aloadn dX12_init_109 rfl <| At.bipush dX12_init_110 (by decide) <| ?_
  refine At.newJ (N := 120) dX12_init_112 rfl (by decide) sh_143 z25 (by omega) ⟨Nat.le_of_ble_eq_true rfl, Nat.le_of_ble_eq_true rfl⟩ <| ?_
  have z26 := z25.mo
  refine At.putR dX12_init_114 cl_12 (by decide) fk_X12_55 rfl rfl rfl sh_130 (by omega) (by decide) (fun t ht => by rw [tyX12_ok 26 (by decide)] at ht; cases ht; first | exact Or.inl ⟨_, rfl⟩ | exact Or.inr ⟨_, rfl⟩) <| ?_
  have z27 := z26.pr (j := 26) (q := 143) (show 130 ≤ _ by omega)
  refine At.aloadn dX12_init_117 rfl <| At.sipush dX12_init_118 (by decide) <| ?_
  refine At.newI (N := 1920) dX12_init_121 rfl (by decide) sh_144 z27 (by omega) ⟨Nat.le_of_ble_eq_true rfl, Nat.le_of_ble_eq_true rfl⟩ <| ?_
  have z28 := z27.mo
  refine At.putR dX12_init_123 cl_12 (by decide) fk_X12_58 rfl rfl rfl sh_130 (by omega) (by decide) (fun t ht => by rw [tyX12_ok 27 (by decide)] at ht; cases ht; first | exact Or.inl ⟨_, rfl⟩ | exact Or.inr ⟨_, rfl⟩) <| ?_
  have z29 := z28.pr (j := 27) (q := 144) (show 130 ≤ _ by omega)
  refine At.aloadn dX12_init_126 rfl <| At.bipush dX12_init_127 (by decide) <| ?_
  refine At.newI (N := 120) dX12_init_129 rfl (by decide) sh_145 z29 (by omega) ⟨Nat.le_of_ble_eq_true rfl, Nat.le_of_ble_eq_true rfl⟩ <| ?_
  have z30 := z29.mo
  refine At.putR dX12_init_131 cl_12 (by decide) fk_X12_61 rfl rfl rfl sh_130 (by omega) (by decide) (fun t ht => by rw [tyX12_ok 28 (by decide)] at ht; cases ht; first | exact Or.inl ⟨_, rfl⟩ | exact Or.inr ⟨_, rfl⟩) <| ?_
  have z31 := z30.pr (j := 28) (q := 145) (show 130 ≤ _ by omega)
  refine At.aloadn dX12_init_134 rfl <| At.bipush dX12_init_135 (by decide) <| ?_
  refine At.newI (N := 20) dX12_init_137 rfl (by decide) sh_146 z31 (by omega) ⟨Nat.le_of_ble_eq_true rfl, Nat.le_of_ble_eq_true rfl⟩ <| ?_
  have z32 := z31.mo
  refine At.putR dX12_init_139 cl_12 (by decide) fk_X12_64 rfl rfl rfl sh_130 (by omega) (by decide) (fun t ht => by rw [tyX12_ok 29 (by decide)] at ht; cases ht; first | exact Or.inl ⟨_, rfl⟩ | exact Or.inr ⟨_, rfl⟩) <| ?_
  have z33 := z32.pr (j := 29) (q := 146) (show 130 ≤ _ by omega)
  refine At.aloadn dX12_init_142 rfl <| At.iconst dX12_init_143 (by decide) <| ?_
  refine At.newI (N := 4) dX12_init_144 rfl (by decide) sh_147 z33 (by omega) ⟨Nat.le_of_ble_eq_true rfl, Nat.le_of_ble_eq_true rfl⟩ <| ?_
  have z34 := z33.mo
  refine At.dup rfl dX12_init_146 <| At.iconst dX12_init_147 (by decide) <| At.iconst dX12_init_148 (by decide) <| ?_
  refine At.iast sh_147 (by omega) (by decide) (by decide) dX12_init_149 <| ?_
  have z35 := z34.ps (j := 0) (z := -1) (show 147 ≤ _ by omega)
  refine At.dup rfl dX12_init_150 <| At.iconst dX12_init_151 (by decide) <| At.iconst dX12_init_152 (by decide) <| ?_
  refine At.iast sh_147 (by omega) (by decide) (by decide) dX12_init_153 <| ?_
  have z36 := z35.ps (j := 1) (z := -1) (show 147 ≤ _ by omega)
  refine At.dup rfl dX12_init_154 <| At.iconst dX12_init_155 (by decide) <| At.iconst dX12_init_156 (by decide) <| ?_
  refine At.iast sh_147 (by omega) (by decide) (by decide) dX12_init_157 <| ?_
  have z37 := z36.ps (j := 2) (z := -1) (show 147 ≤ _ by omega)
  refine At.dup rfl dX12_init_158 <| At.iconst dX12_init_159 (by decide) <| At.iconst dX12_init_160 (by decide) <| ?_
  refine At.iast sh_147 (by omega) (by decide) (by decide) dX12_init_161 <| ?_
  have z38 := z37.ps (j := 3) (z := -1) (show 147 ≤ _ by omega)
  refine At.putR dX12_init_162 cl_12 (by decide) fk_X12_67 rfl rfl rfl sh_130 (by omega) (by decide) (fun t ht => by rw [tyX12_ok 30 (by decide)] at ht; cases ht; first | exact Or.inl ⟨_, rfl⟩ | exact Or.inr ⟨_, rfl⟩) <| ?_
  have z39 := z38.pr (j := 30) (q := 147) (show 130 ≤ _ by omega)
  refine At.aloadn dX12_init_165 rfl <| At.iconst dX12_init_166 (by decide) <| ?_
  refine At.newI (N := 4) dX12_init_167 rfl (by decide) sh_148 z39 (by omega) ⟨Nat.le_of_ble_eq_true rfl, Nat.le_of_ble_eq_true rfl⟩ <| ?_
  have z40 := z39.mo
  refine At.putR dX12_init_169 cl_12 (by decide) fk_X12_70 rfl rfl rfl sh_130 (by omega) (by decide) (fun t ht => by rw [tyX12_ok 31 (by decide)] at ht; cases ht; first | exact Or.inl ⟨_, rfl⟩ | exact Or.inr ⟨_, rfl⟩) <| ?_
  have z41 := z40.pr (j := 31) (q := 148) (show 130 ≤ _ by omega)
  refine At.aloadn dX12_init_172 rfl <| At.sipush dX12_init_173 (by decide) <| ?_
  refine At.newJ (N := 160) dX12_init_176 rfl (by decide) sh_149 z41 (by omega) ⟨Nat.le_of_ble_eq_true rfl, Nat.le_of_ble_eq_true rfl⟩ <| ?_
  have z42 := z41.mo
  refine At.putR dX12_init_178 cl_12 (by decide) fk_X12_73 rfl rfl rfl sh_130 (by omega) (by decide) (fun t ht => by rw [tyX12_ok 32 (by decide)] at ht; cases ht; first | exact Or.inl ⟨_, rfl⟩ | exact Or.inr ⟨_, rfl⟩) <| ?_
  have z43 := z42.pr (j := 32) (q := 149) (show 130 ≤ _ by omega)
  refine At.aloadn dX12_init_181 rfl <| At.getR fl_X12_13 sh_130 (by omega) (q := 131) (by simp [up]) dX12_init_182 <| ?_
  refine At.mem (M' := (149, refs, (up (up (up (up (up S 130 14 (-1)) 147 0 (-1)) 147 1 (-1)) 147 2 (-1)) 147 3 (-1)))) (by rw [← hRR] <;> rfl) ?_
  refine At.callS (av := [vr 131]) (rest := []) ms_X12_plain lk_X12_76 dX12_init_185 rfl rfl (Nat.le_of_ble_eq_true rfl) (by decide) ⟨Nat.le_of_ble_eq_true rfl, Nat.le_of_ble_eq_true rfl⟩ (rX12_plain_3303 sh_131 hp) ?_
  rintro _ _ ⟨rfl, rfl⟩
  exact At.vret rfl (Nat.le_of_ble_eq_true rfl) (Nat.le_of_ble_eq_true rfl) ⟨rfl, rfl⟩ dX12_init_188
/-! the memory behind the constructors -/
def upL : List (Nat × Nat × Nat) → Nat → Nat → Nat
  | [] => fun _ _ => 0
  | u :: L => up (upL L) u.1 u.2.1 u.2.2
def upI : List (Nat × Nat × Int) → SS
  | [] => fun _ _ => 0
  | u :: L => up (upI L) u.1 u.2.1 u.2.2
theorem upL_out : ∀ {L : List (Nat × Nat × Nat)}, L.all (fun u => decide (u.1 < 150) && decide (u.2.1 < 40)) = true → ∀ a j, (150 ≤ a ∨ 40 ≤ j) → upL L a j = 0
  | [], _, _, _, _ => rfl
  | u :: L, h, a, j, ha => by
    simp only [List.all_cons, Bool.and_eq_true, decide_eq_true_eq] at h
    show up (upL L) u.1 u.2.1 u.2.2 a j = 0
    unfold up
    rw [if_neg (by omega)]
    exact upL_out (by simpa using h.2) a j ha
theorem upI_out : ∀ {L : List (Nat × Nat × Int)} {n : Nat}, L.all (fun u => decide (u.1 ≤ n)) = true → ∀ a j, n < a → upI L a j = 0
  | [], _, _, _, _, _ => rfl
  | u :: L, n, h, a, j, ha => by
    simp only [List.all_cons, Bool.and_eq_true, decide_eq_true_eq] at h
    show up (upI L) u.1 u.2.1 u.2.2 a j = 0
    unfold up
    rw [if_neg (by omega)]
    exact upI_out (by simpa using h.2) a j ha
theorem upL_z : ∀ {L : List (Nat × Nat × Nat)} {n : Nat}, L.all (fun u => decide (u.1 ≤ n)) = true → ∀ a j, n < a → upL L a j = 0
  | [], _, _, _, _, _ => rfl
  | u :: L, n, h, a, j, ha => by
    simp only [List.all_cons, Bool.and_eq_true, decide_eq_true_eq] at h
    show up (upL L) u.1 u.2.1 u.2.2 a j = 0
    unfold up
    rw [if_neg (by omega)]
    exact upL_z (by simpa using h.2) a j ha
def RL1 : List (Nat × Nat × Nat) := [(102, 1, 121), (121, 4, 126), (126, 2, 129), (126, 1, 128), (126, 0, 127), (121, 3, 125), (121, 2, 124), (121, 1, 123), (121, 0, 122), (102, 0, 112), (112, 4, 117), (117, 2, 120), (117, 1, 119), (117, 0, 118), (112, 3, 116), (112, 2, 115), (112, 1, 114), (112, 0, 113), (101, 3, 110), (110, 0, 111), (101, 2, 108), (108, 0, 109), (101, 1, 106), (106, 0, 107), (101, 0, 104), (104, 0, 105), (1, 14, 103), (1, 13, 102), (1, 12, 101), (1, 11, 59), (60, 9, 97), (97, 2, 100), (97, 1, 99), (97, 0, 98), (60, 8, 93), (93, 2, 96), (93, 1, 95), (93, 0, 94), (60, 7, 89), (89, 2, 92), (89, 1, 91), (89, 0, 90), (60, 6, 85), (85, 2, 88), (85, 1, 87), (85, 0, 86), (60, 5, 81), (81, 2, 84), (81, 1, 83), (81, 0, 82), (60, 4, 77), (77, 2, 80), (77, 1, 79), (77, 0, 78), (60, 3, 73), (73, 2, 76), (73, 1, 75), (73, 0, 74), (60, 2, 69), (69, 2, 72), (69, 1, 71), (69, 0, 70), (60, 1, 65), (65, 2, 68), (65, 1, 67), (65, 0, 66), (60, 0, 61), (61, 2, 64), (61, 1, 63), (61, 0, 62), (59, 0, 60), (1, 10, 54), (54, 0, 30), (54, 1, 55), (55, 2, 58), (55, 1, 57), (55, 0, 56), (1, 9, 51), (51, 0, 30), (51, 2, 53), (51, 1, 52), (1, 8, 43), (43, 0, 30), (43, 7, 50), (43, 6, 49), (43, 5, 48), (43, 4, 47), (43, 3, 46), (43, 2, 45), (43, 1, 44), (1, 7, 35), (35, 0, 30), (35, 7, 42), (35, 6, 41), (35, 5, 40), (35, 4, 39), (35, 3, 38), (35, 2, 37), (35, 1, 36), (1, 6, 34), (34, 1, 30), (34, 0, 2), (1, 5, 30), (30, 0, 2), (30, 2, 33), (30, 1, 31), (31, 0, 32), (1, 4, 19), (19, 1, 21), (21, 4, 26), (26, 2, 29), (26, 1, 28), (26, 0, 27), (21, 3, 25), (21, 2, 24), (21, 1, 23), (21, 0, 22), (19, 0, 20), (1, 3, 15), (15, 2, 18), (15, 1, 17), (15, 0, 16), (1, 2, 11), (11, 2, 14), (11, 1, 13), (11, 0, 12), (1, 1, 7), (1, 0, 2), (2, 4, 7), (7, 2, 10), (7, 1, 9), (7, 0, 8), (2, 3, 6), (2, 2, 5), (2, 1, 4), (2, 0, 3)]
def RL2 : List (Nat × Nat × Nat) := [(130, 32, 149), (130, 31, 148), (130, 30, 147), (130, 29, 146), (130, 28, 145), (130, 27, 144), (130, 26, 143), (130, 25, 142), (130, 24, 141), (130, 23, 140), (130, 22, 139), (130, 21, 138), (130, 18, 137), (130, 17, 136), (130, 16, 135), (130, 4, 134), (130, 3, 133), (130, 2, 132), (130, 1, 131)] ++ RL1
def SL1 : List (Nat × Nat × Int) := [(121, 5, 1), (112, 5, 1), (110, 2, (-1)), (108, 2, (-1)), (106, 2, (-1)), (104, 2, (-1)), (30, 3, (-1)), (19, 10, (-1)), (21, 5, 1), (2, 5, 1)]
def SL2 : List (Nat × Nat × Int) := [(147, 3, (-1)), (147, 2, (-1)), (147, 1, (-1)), (147, 0, (-1)), (130, 14, (-1))] ++ SL1
def rchkr (L : List (Nat × Nat × Nat)) (a : Nat) : List Nat → Nat → Bool
  | [], _ => true
  | x :: xs, j => (Nat.beq x 0 || L.any (fun u => Nat.beq u.1 a && Nat.beq u.2.1 j)) && rchkr L a xs (j + 1)
def rchk (L : List (Nat × Nat × Nat)) : List (List Nat) → Nat → Bool
  | [], _ => true
  | r :: rs, a => rchkr L a r 0 && rchk L rs (a + 1)
theorem rchkr_ok {L : List (Nat × Nat × Nat)} {a : Nat} : ∀ {xs : List Nat} {j0 : Nat}, rchkr L a xs j0 = true → ∀ j, xs.getD j 0 ≠ 0 → ∃ u ∈ L, u.1 = a ∧ u.2.1 = j0 + j
  | [], _, _, j, h => absurd (by simp) h
  | x :: xs, j0, hc, j, h => by
    simp only [rchkr, Bool.and_eq_true, Bool.or_eq_true, List.any_eq_true] at hc
    cases j with
    | zero =>
      rcases hc.1 with e | ⟨u, hu, e⟩
      · exact absurd (Nat.eq_of_beq_eq_true e) (by simpa using h)
      · exact ⟨u, hu, Nat.eq_of_beq_eq_true e.1, Nat.eq_of_beq_eq_true e.2⟩
    | succ j =>
      obtain ⟨u, hu, e1, e2⟩ := rchkr_ok hc.2 j (by simpa using h)
      exact ⟨u, hu, e1, by omega⟩
theorem rchk_ok {L : List (Nat × Nat × Nat)} : ∀ {rs : List (List Nat)} {a0 : Nat}, rchk L rs a0 = true → ∀ i j, (rs.getD i []).getD j 0 ≠ 0 → ∃ u ∈ L, u.1 = a0 + i ∧ u.2.1 = j
  | [], _, _, i, j, h => absurd (by simp) h
  | r :: rs, a0, hc, i, j, h => by
    simp only [rchk, Bool.and_eq_true] at hc
    cases i with
    | zero =>
      obtain ⟨u, hu, e1, e2⟩ := rchkr_ok hc.1 j (by simpa using h)
      exact ⟨u, hu, e1, by omega⟩
    | succ i =>
      obtain ⟨u, hu, e1, e2⟩ := rchk_ok hc.2 i j (by simpa using h)
      exact ⟨u, hu, by omega, e2⟩
theorem upL_val {f : Nat → Nat → Nat} : ∀ {L : List (Nat × Nat × Nat)}, (∀ u ∈ L, f u.1 u.2.1 = u.2.2) → ∀ a j, (f a j ≠ 0 → ∃ u ∈ L, u.1 = a ∧ u.2.1 = j) → upL L a j = f a j
  | [], _, a, j, hn => by
    by_cases h : f a j = 0
    · exact h.symm
    · obtain ⟨u, hu, _⟩ := hn h
      cases hu
  | u :: L, hv, a, j, hn => by
    show up (upL L) u.1 u.2.1 u.2.2 a j = f a j
    unfold up
    split
    · rename_i q
      rw [q.1, q.2, hv u (List.mem_cons_self ..)]
    · rename_i q
      refine upL_val (fun v h => hv v (List.mem_cons_of_mem _ h)) a j (fun h => ?_)
      obtain ⟨v, hm, e⟩ := hn h
      rcases List.mem_cons.1 hm with rfl | hm
      · exact absurd ⟨e.1.symm, e.2.symm⟩ q
      · exact ⟨v, hm, e⟩
theorem RL2_refs : upL RL2 = refs := by
  have h1 : RL2.all (fun u => Nat.beq (refs u.1 u.2.1) u.2.2) = true := by decide +kernel
  have h2 : rchk RL2 refT 0 = true := by decide +kernel
  funext a j
  refine upL_val (fun u hu => Nat.eq_of_beq_eq_true (List.all_eq_true.1 h1 u hu)) a j (fun h => ?_)
  obtain ⟨u, hu, e1, e2⟩ := rchk_ok h2 a j h
  exact ⟨u, hu, by omega, e2⟩
def S0 : SS := up (upI SL2) 131 1 1
theorem up_same {S : SS} {a j : Nat} {v : Int} (h : S a j = v) : up S a j v = S := by
  funext x y
  unfold up
  split
  · rename_i q; rw [q.1, q.2, h]
  · rfl
theorem plain_L {S : SS} (hz : ∀ j, S 131 j = 0) : ∀ (n : Nat) (k : Int), 0 ≤ k → k ≤ 1101 → 1102 ≤ k + n → fX12_plain_3303_L2 131 n k S = some S := by
  intro n
  induction n with
  | zero => intro k h1 h2 h3; omega
  | succ n ih =>
    intro k h1 h2 h3
    unfold fX12_plain_3303_L2
    split
    · rfl
    · rename_i c
      unfold wrA
      rw [if_pos (by omega), up_same (hz _)]
      unfold lt
      rw [w32_id (by unfold cI; omega)]
      exact ih (k + 1) (by omega) (by omega) (by omega)
theorem plain_ok : fX12_plain_3303 131 (upI SL2) = some S0 := by
  unfold fX12_plain_3303
  rw [plain_L (fun j => by simp [upI, SL2, SL1, up]) FU 0 (by omega) (by omega) (by decide)]
  rfl
