theorem ZB_0 : ZB (fun _ _ => 0) (fun _ _ => 0) 0 := fun _ _ _ => ⟨rfl, rfl⟩
theorem ZB_129 : ZB (upL RL1) (upI SL1) 129 := fun a ha j => ⟨upL_z (n := 129) (by decide +kernel) a j ha, upI_out (n := 129) (by decide +kernel) a j ha⟩
set_option maxRecDepth 100000 in
set_option maxHeartbeats 4000000 in
theorem sLaw {G : GG} {L : Nat} {A : Nat → Int} (eL : scL G = L) (eX : scX G = A) (hb : L ≤ 100000) {rr : Bool × SS} (h : fLaw L A S0 = some rr) : At G mLaw 74 0 [(0, vr 100031)] [] (0, (fun _ _ => 0), (fun _ _ => 0)) 0 0 (EQ (some (vi (bI rr.1))) rr.2) := by
  refine At.newO dL_law_0 cl_11 tyX11_ok df_11 wc_L_7 wi_11 wn_11 sh_1 ZB_0 (by omega) ⟨Nat.le_of_ble_eq_true rfl, Nat.le_of_ble_eq_true rfl⟩ <| ?_
  refine At.dup rfl dL_law_3 <| ?_
  refine At.callI (av := []) (rest := [vr 1]) mi_X11_init lk_L_9 dL_law_4 rfl rfl (by omega) (Nat.le_of_ble_eq_true rfl) (by decide) ⟨Nat.le_of_ble_eq_true rfl, Nat.le_of_ble_eq_true rfl⟩ (iX11_init (ZB_0.mono (by omega))) ?_
  rintro _ _ ⟨rfl, rfl⟩
  refine At.mem (M' := (129, upL RL1, upI SL1)) rfl ?_
  refine At.astoren (ls' := [(1, vr 1), (0, vr 100031)]) dL_law_7 (by decide) rfl <| ?_
  refine At.newO dL_law_8 cl_12 tyX12_ok df_12 wc_L_10 wi_12 wn_12 sh_130 ZB_129 (by omega) ⟨Nat.le_of_ble_eq_true rfl, Nat.le_of_ble_eq_true rfl⟩ <| ?_
  refine At.dup rfl dL_law_11 <| ?_
  refine At.callI (av := []) (rest := [vr 130]) mi_X12_init lk_L_12 dL_law_12 rfl rfl (by omega) (Nat.le_of_ble_eq_true rfl) (by decide) ⟨Nat.le_of_ble_eq_true rfl, Nat.le_of_ble_eq_true rfl⟩ (iX12_init (ZB_129.mono (by omega)) RL2_refs plain_ok) ?_
  rintro _ _ ⟨rfl, rfl⟩
  refine At.astoren (ls' := [(2, vr 130), (1, vr 1), (0, vr 100031)]) dL_law_15 (by decide) rfl <| ?_
  exact At.wid (Nat.le_of_ble_eq_true rfl) (Nat.le_of_ble_eq_true rfl) (rLaw eL eX hb h)
