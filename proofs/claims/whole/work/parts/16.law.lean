/-! the law's own reads of the script, and its calls -/
theorem At.scald0 {G : GG} {Y : YY} {d pc : Nat} {ls : List (Nat × VV)} {st : List VV} {M : MM} {k sl : Nat} {Φ : Option VV → MM → Prop} {j : Int} (hL : scL G ≤ 100000) (h0 : 0 ≤ j) (h1 : j < (scL G : Nat)) (hd : decode Y.2.1 pc = .ok (.iaload, 1)) (h : At G Y d (pc + 1) ls (vi (scX G j.toNat) :: st) M k sl Φ) : At G Y d (pc) ls (vi j :: vr 100031 :: st) M k sl Φ := by
  intro p e s m args below meth c H locs lz X hR hC hs hl hv hS
  obtain ⟨cell, q1, q2, q3, q4⟩ := X.2.2.2.2.2.2.2.2.2.2.2.2.2.2.2 hL
  have eL : scL G = cell.slots.size := by unfold scL; rw [q1]
  have hj := cs_h hs
  obtain ⟨v, hv1⟩ := q4 j.toNat (by omega)
  have eX : scX G j.toNat = v.toInt := by unfold scX; rw [q1]; show (match cell.slots[j.toNat]? with | some (.int v) => v.toInt | _ => 0) = _; rw [hv1]
  have h2 := h p e s m args below meth c H locs lz X hR hC (cs_c (show cI (scX G j.toNat) by rw [eX]; exact ii_c v) (cs_t (cs_t hs))) hl hv hS
  rw [List.map_cons, List.map_cons, cv_r (r := 100031) (by decide)]
  refine W.iald (v := .int v) X.1 X.2.1 (by rw [hR.2.2.1 _ (Array.getElem?_eq_some_iff.mp q1).1]; exact q1) q2 q3 (by rw [← eL]; exact ix_in hj h0 h1) (by rw [ix_nat hj]; exact hv1) rfl rfl hd ?_
  rw [List.map_cons] at h2
  rw [show cv G.ad (vi (scX G j.toNat)) = .int v by rw [eX]; show Value.int (Int32.ofInt v.toInt) = _; rw [Int32.ofInt_toInt]] at h2
  exact h2
theorem At.sclen0 {G : GG} {Y : YY} {d pc : Nat} {ls : List (Nat × VV)} {st : List VV} {M : MM} {k sl : Nat} {Φ : Option VV → MM → Prop} {z : Int} (hL : scL G ≤ 100000) (hz : (scL G : Int) = z) (hd : decode Y.2.1 pc = .ok (.arraylength, 1)) (h : At G Y d (pc + 1) ls (vi z :: st) M k sl Φ) : At G Y d (pc) ls (vr 100031 :: st) M k sl Φ := by
  intro p e s m args below meth c H locs lz X hR hC hs hl hv hS
  subst hz
  obtain ⟨cell, q1, q2, q3, q4⟩ := X.2.2.2.2.2.2.2.2.2.2.2.2.2.2.2 hL
  have eL : scL G = cell.slots.size := by unfold scL; rw [q1]
  have h2 := h p e s m args below meth c H locs lz X hR hC (cs_c (show cI (scL G : Int) by unfold cI; omega) (cs_t hs)) hl hv hS
  rw [List.map_cons, cv_r (r := 100031) (by decide)]
  exact W.alen (n := Int32.ofInt (scL G : Int)) X.1 X.2.1 (by rw [hR.2.2.1 _ (Array.getElem?_eq_some_iff.mp q1).1]; exact q1) q2 (by rw [eL]; exact Int32.ofInt_eq_ofNat.symm) rfl rfl hd h2
theorem At.cV1L {G : GG} {Y : YY} {d pc : Nat} {ls : List (Nat × VV)} {st : List VV} {S S' : SS} {k sl : Nat} {Φ : Option VV → MM → Prop} {Y' : YY} {av rest : List VV} {r ci n N idx d' : Nat} {v : VV} (hk : k ≤ Y.2.2.2.2.1 ∧ sl ≤ Y.2.2.2.2.2) (hm : MV Y' ci n) (hlk : LK Y.1.cls idx Y'.1) (hd : decode Y.2.1 pc = .ok (.invokevirtual idx, 3)) (hst : st = av.reverse ++ vr r :: rest) (hn : av.length = n) (hsh : sh r = (ci, N)) (hrm : (rest.map cat).sum ≤ 8) (hdd : d' + 1 ≤ d) (hks : Y'.2.2.2.2.1 = 0 ∧ Y'.2.2.2.2.2 = 0)
    (hM : RD G Y' d' (vr r :: av) S (some v) S') (kk : At G Y d (pc + 3) ls (v :: rest) (mm S') k sl Φ) : At G Y d pc ls st (mm S) k sl Φ := by
  refine At.callV hm hlk hd hst hn hsh (le149 hsh (by have := hm.2.2.2.1; omega)) hrm hdd (by rw [hks.1, hks.2]; exact hk) hM ?_
  rintro r M' ⟨rfl, rfl⟩
  rw [hks.1, hks.2]
  exact kk
def rdS {α : Type} (L : Nat) (X : Nat → Int) (i : Int) (k : Int → Option α) : Option α := if 0 ≤ i ∧ i < L then k (X i.toNat) else none
theorem rdS_e {α : Type} {L : Nat} {X : Nat → Int} {i : Int} {k : Int → Option α} {r : α} (h : rdS L X i k = some r) : ∃ v, v = X i.toNat ∧ (0 ≤ i ∧ i < L) ∧ k v = some r := by
  unfold rdS at h
  split at h
  · exact ⟨_, rfl, by assumption, h⟩
  · cases h
def mLaw : YY := (yL_law, cL_law, maxLocals, ret, 600000, 7302250)
theorem At.scald {G : GG} {Y : YY} {d pc : Nat} {ls : List (Nat × VV)} {st : List VV} {M : MM} {k sl : Nat} {Φ : Option VV → MM → Prop} {j : Int} {L : Nat} {A : Nat → Int} (eL : scL G = L) (eX : scX G = A) (hb : L ≤ 100000) (h0 : 0 ≤ j) (h1 : j < L) (hd : decode Y.2.1 pc = .ok (.iaload, 1)) (h : At G Y d (pc + 1) ls (vi (A j.toNat) :: st) M k sl Φ) : At G Y d (pc) ls (vi j :: vr 100031 :: st) M k sl Φ := by
  subst eL; subst eX
  exact At.scald0 hb h0 h1 hd h
theorem At.sclen {G : GG} {Y : YY} {d pc : Nat} {ls : List (Nat × VV)} {st : List VV} {M : MM} {k sl : Nat} {Φ : Option VV → MM → Prop} {L : Nat} {A : Nat → Int} (eL : scL G = L) (eX : scX G = A) (hb : L ≤ 100000) (hd : decode Y.2.1 pc = .ok (.arraylength, 1)) (h : At G Y d (pc + 1) ls (vi (L : Int) :: st) M k sl Φ) : At G Y d (pc) ls (vr 100031 :: st) M k sl Φ := by
  subst eL
  exact At.sclen0 hb rfl hd h
theorem At.mem {G : GG} {Y : YY} {d pc : Nat} {ls : List (Nat × VV)} {st : List VV} {M M' : MM} {k sl : Nat} {Φ : Option VV → MM → Prop} (hx : M' = M) (h : At G Y d pc ls st M' k sl Φ) : At G Y d pc ls st M k sl Φ := hx ▸ h
theorem At.wid {G : GG} {Y : YY} {d pc : Nat} {ls : List (Nat × VV)} {st : List VV} {M : MM} {k sl k' sl' : Nat} {Φ : Option VV → MM → Prop} (h1 : k ≤ k') (h2 : sl ≤ sl') (h : At G Y d pc ls st M k' sl' Φ) : At G Y d pc ls st M k sl Φ :=
  fun p e s m args below meth c H locs lz X hR hC hs hl hv hS => W.widen h1 h2 (h p e s m args below meth c H locs lz X hR hC hs hl hv hS)
theorem lk_L_9 : LK RL 9 yX11_init := Or.inl (gd_mem (u3_in _ (List.mem_of_getElem? (i := 1) rfl)) rfl)
theorem lk_L_12 : LK RL 12 yX12_init := Or.inl (gd_mem (u154_in _ (List.mem_of_getElem? (i := 7) rfl)) rfl)
theorem lk_L_13 : LK RL 13 yX11_feed := Or.inl (gd_mem (u53_in _ (List.mem_of_getElem? (i := 0) rfl)) rfl)
theorem lk_L_17 : LK RL 17 yX12_feed := Or.inl (gd_mem (u168_in _ (List.mem_of_getElem? (i := 3) rfl)) rfl)
theorem lk_L_18 : LK RL 18 yX11_town := Or.inl (gd_mem (u54_in _ (List.mem_of_getElem? (i := 0) rfl)) rfl)
theorem lk_L_22 : LK RL 22 yX12_town := Or.inl (gd_mem (u168_in _ (List.mem_of_getElem? (i := 7) rfl)) rfl)
theorem lk_L_23 : LK RL 23 yX11_fault := Or.inl (gd_mem (u87_in _ (List.mem_of_getElem? (i := 0) rfl)) rfl)
theorem lk_L_26 : LK RL 26 yX12_fault := Or.inl (gd_mem (u182_in _ (List.mem_of_getElem? (i := 4) rfl)) rfl)
theorem lk_L_27 : LK RL 27 yX11_street := Or.inl (gd_mem (u87_in _ (List.mem_of_getElem? (i := 4) rfl)) rfl)
theorem lk_L_31 : LK RL 31 yX12_street := Or.inl (gd_mem (u183_in _ (List.mem_of_getElem? (i := 0) rfl)) rfl)
theorem lk_L_32 : LK RL 32 yX11_goer := Or.inl (gd_mem (u89_in _ (List.mem_of_getElem? (i := 0) rfl)) rfl)
theorem lk_L_35 : LK RL 35 yX12_goer := Or.inl (gd_mem (u184_in _ (List.mem_of_getElem? (i := 0) rfl)) rfl)
theorem lk_L_36 : LK RL 36 yX11_why := Or.inl (gd_mem (u97_in _ (List.mem_of_getElem? (i := 2) rfl)) rfl)
theorem lk_L_39 : LK RL 39 yX12_why := Or.inl (gd_mem (u189_in _ (List.mem_of_getElem? (i := 1) rfl)) rfl)
theorem lk_L_40 : LK RL 40 yX11_by := Or.inl (gd_mem (u97_in _ (List.mem_of_getElem? (i := 6) rfl)) rfl)
theorem lk_L_44 : LK RL 44 yX12_by := Or.inl (gd_mem (u189_in _ (List.mem_of_getElem? (i := 5) rfl)) rfl)
theorem lk_L_45 : LK RL 45 yX11_go := Or.inl (gd_mem (u98_in _ (List.mem_of_getElem? (i := 2) rfl)) rfl)
theorem lk_L_48 : LK RL 48 yX12_go := Or.inl (gd_mem (u190_in _ (List.mem_of_getElem? (i := 5) rfl)) rfl)
theorem lk_L_49 : LK RL 49 yX11_sign := Or.inl (gd_mem (u101_in _ (List.mem_of_getElem? (i := 3) rfl)) rfl)
theorem lk_L_52 : LK RL 52 yX12_sign := Or.inl (gd_mem (u192_in _ (List.mem_of_getElem? (i := 5) rfl)) rfl)
theorem lk_L_53 : LK RL 53 yX11_bollards := Or.inl (gd_mem (u102_in _ (List.mem_of_getElem? (i := 5) rfl)) rfl)
theorem lk_L_56 : LK RL 56 yX12_bollards := Or.inl (gd_mem (u193_in _ (List.mem_of_getElem? (i := 2) rfl)) rfl)
theorem lk_L_57 : LK RL 57 yX11_put := Or.inl (gd_mem (u103_in _ (List.mem_of_getElem? (i := 5) rfl)) rfl)
theorem lk_L_60 : LK RL 60 yX12_put := Or.inl (gd_mem (u193_in _ (List.mem_of_getElem? (i := 7) rfl)) rfl)
theorem lk_L_61 : LK RL 61 yX11_undo := Or.inl (gd_mem (u105_in _ (List.mem_of_getElem? (i := 3) rfl)) rfl)
theorem lk_L_64 : LK RL 64 yX12_undo := Or.inl (gd_mem (u194_in _ (List.mem_of_getElem? (i := 7) rfl)) rfl)
theorem lk_L_65 : LK RL 65 yX11_judge := Or.inl (gd_mem (u106_in _ (List.mem_of_getElem? (i := 3) rfl)) rfl)
theorem lk_L_68 : LK RL 68 yX12_judge := Or.inl (gd_mem (u195_in _ (List.mem_of_getElem? (i := 4) rfl)) rfl)
theorem lk_L_69 : LK RL 69 yX11_perform := Or.inl (gd_mem (u111_in _ (List.mem_of_getElem? (i := 5) rfl)) rfl)
theorem lk_L_72 : LK RL 72 yX12_perform := Or.inl (gd_mem (u200_in _ (List.mem_of_getElem? (i := 3) rfl)) rfl)
theorem lk_L_73 : LK RL 73 yX11_day := Or.inl (gd_mem (u112_in _ (List.mem_of_getElem? (i := 1) rfl)) rfl)
theorem lk_L_76 : LK RL 76 yX12_day := Or.inl (gd_mem (u200_in _ (List.mem_of_getElem? (i := 7) rfl)) rfl)
theorem lk_L_77 : LK RL 77 yX11_soonest := Or.inl (gd_mem (u114_in _ (List.mem_of_getElem? (i := 2) rfl)) rfl)
theorem lk_L_80 : LK RL 80 yX12_soonest := Or.inl (gd_mem (u202_in _ (List.mem_of_getElem? (i := 5) rfl)) rfl)
theorem lk_L_81 : LK RL 81 yX11_way := Or.inl (gd_mem (u120_in _ (List.mem_of_getElem? (i := 4) rfl)) rfl)
theorem lk_L_85 : LK RL 85 yX12_way := Or.inl (gd_mem (u206_in _ (List.mem_of_getElem? (i := 7) rfl)) rfl)
theorem lk_L_86 : LK RL 86 yX11_rows := Or.inl (gd_mem (u121_in _ (List.mem_of_getElem? (i := 5) rfl)) rfl)
theorem lk_L_90 : LK RL 90 yX12_rows := Or.inl (gd_mem (u207_in _ (List.mem_of_getElem? (i := 7) rfl)) rfl)
theorem lk_L_91 : LK RL 91 yX11_when := Or.inl (gd_mem (u124_in _ (List.mem_of_getElem? (i := 5) rfl)) rfl)
theorem lk_L_94 : LK RL 94 yX12_when := Or.inl (gd_mem (u209_in _ (List.mem_of_getElem? (i := 5) rfl)) rfl)
theorem lk_L_95 : LK RL 95 yX11_bound := Or.inl (gd_mem (u125_in _ (List.mem_of_getElem? (i := 1) rfl)) rfl)
theorem lk_L_98 : LK RL 98 yX12_bound := Or.inl (gd_mem (u211_in _ (List.mem_of_getElem? (i := 1) rfl)) rfl)
theorem lk_L_99 : LK RL 99 yX11_reach := Or.inl (gd_mem (u126_in _ (List.mem_of_getElem? (i := 3) rfl)) rfl)
theorem lk_L_102 : LK RL 102 yX12_reach := Or.inl (gd_mem (u211_in _ (List.mem_of_getElem? (i := 5) rfl)) rfl)
theorem lk_L_103 : LK RL 103 yX11_meet := Or.inl (gd_mem (u126_in _ (List.mem_of_getElem? (i := 7) rfl)) rfl)
theorem lk_L_106 : LK RL 106 yX12_meet := Or.inl (gd_mem (u212_in _ (List.mem_of_getElem? (i := 5) rfl)) rfl)
theorem lk_L_107 : LK RL 107 yX11_meetAt := Or.inl (gd_mem (u128_in _ (List.mem_of_getElem? (i := 7) rfl)) rfl)
theorem lk_L_110 : LK RL 110 yX12_meetAt := Or.inl (gd_mem (u214_in _ (List.mem_of_getElem? (i := 1) rfl)) rfl)
theorem lk_L_111 : LK RL 111 yX11_ring := Or.inl (gd_mem (u129_in _ (List.mem_of_getElem? (i := 3) rfl)) rfl)
theorem lk_L_114 : LK RL 114 yX12_ring := Or.inl (gd_mem (u214_in _ (List.mem_of_getElem? (i := 5) rfl)) rfl)
theorem lk_L_115 : LK RL 115 yX11_laws := Or.inl (gd_mem (u129_in _ (List.mem_of_getElem? (i := 7) rfl)) rfl)
theorem lk_L_118 : LK RL 118 yX12_laws := Or.inl (gd_mem (u215_in _ (List.mem_of_getElem? (i := 1) rfl)) rfl)
theorem lk_L_119 : LK RL 119 yX11_bylaw := Or.inl (gd_mem (u133_in _ (List.mem_of_getElem? (i := 7) rfl)) rfl)
theorem lk_L_122 : LK RL 122 yX12_bylaw := Or.inl (gd_mem (u218_in _ (List.mem_of_getElem? (i := 1) rfl)) rfl)
theorem lk_L_123 : LK RL 123 yX11_shut := Or.inl (gd_mem (u134_in _ (List.mem_of_getElem? (i := 7) rfl)) rfl)
theorem lk_L_126 : LK RL 126 yX12_shut := Or.inl (gd_mem (u219_in _ (List.mem_of_getElem? (i := 1) rfl)) rfl)
theorem lk_L_127 : LK RL 127 yX11_needed := Or.inl (gd_mem (u137_in _ (List.mem_of_getElem? (i := 1) rfl)) rfl)
theorem lk_L_130 : LK RL 130 yX12_needed := Or.inl (gd_mem (u220_in _ (List.mem_of_getElem? (i := 4) rfl)) rfl)
theorem lk_L_131 : LK RL 131 yX11_from := Or.inl (gd_mem (u137_in _ (List.mem_of_getElem? (i := 5) rfl)) rfl)
theorem lk_L_134 : LK RL 134 yX12_from := Or.inl (gd_mem (u221_in _ (List.mem_of_getElem? (i := 0) rfl)) rfl)
theorem lk_L_135 : LK RL 135 yX11_bollardsBy := Or.inl (gd_mem (u139_in _ (List.mem_of_getElem? (i := 2) rfl)) rfl)
theorem lk_L_138 : LK RL 138 yX12_bollardsBy := Or.inl (gd_mem (u222_in _ (List.mem_of_getElem? (i := 4) rfl)) rfl)
theorem lk_L_139 : LK RL 139 yX11_attempt := Or.inl (gd_mem (u140_in _ (List.mem_of_getElem? (i := 2) rfl)) rfl)
theorem lk_L_142 : LK RL 142 yX12_attempt := Or.inl (gd_mem (u223_in _ (List.mem_of_getElem? (i := 4) rfl)) rfl)
theorem lk_L_143 : LK RL 143 yX11_forces := Or.inl (gd_mem (u141_in _ (List.mem_of_getElem? (i := 3) rfl)) rfl)
theorem lk_L_146 : LK RL 146 yX12_forces := Or.inl (gd_mem (u224_in _ (List.mem_of_getElem? (i := 4) rfl)) rfl)
theorem lk_L_147 : LK RL 147 yX11_best := Or.inl (gd_mem (u145_in _ (List.mem_of_getElem? (i := 1) rfl)) rfl)
theorem lk_L_150 : LK RL 150 yX12_best := Or.inl (gd_mem (u227_in _ (List.mem_of_getElem? (i := 0) rfl)) rfl)
theorem lk_L_151 : LK RL 151 yX11_chance := Or.inl (gd_mem (u146_in _ (List.mem_of_getElem? (i := 2) rfl)) rfl)
theorem lk_L_154 : LK RL 154 yX12_chance := Or.inl (gd_mem (u227_in _ (List.mem_of_getElem? (i := 4) rfl)) rfl)
theorem lk_L_155 : LK RL 155 yX11_mean := Or.inl (gd_mem (u147_in _ (List.mem_of_getElem? (i := 4) rfl)) rfl)
theorem lk_L_158 : LK RL 158 yX12_mean := Or.inl (gd_mem (u229_in _ (List.mem_of_getElem? (i := 7) rfl)) rfl)
theorem lk_L_159 : LK RL 159 yX11_likeliest := Or.inl (gd_mem (u148_in _ (List.mem_of_getElem? (i := 4) rfl)) rfl)
theorem lk_L_162 : LK RL 162 yX12_likeliest := Or.inl (gd_mem (u230_in _ (List.mem_of_getElem? (i := 3) rfl)) rfl)
theorem lk_L_163 : LK RL 163 yX11_numbers := Or.inl (gd_mem (u149_in _ (List.mem_of_getElem? (i := 0) rfl)) rfl)
theorem lk_L_166 : LK RL 166 yX12_numbers := Or.inl (gd_mem (u230_in _ (List.mem_of_getElem? (i := 7) rfl)) rfl)
theorem kl_L_167 : Cond.constantLong RL 167 (Int64.ofInt (4294967295)) ∈ lw_good := gd_mem (u234_in _ (List.mem_of_getElem? (i := 3) rfl)) rfl
theorem lk_L_169 : LK RL 169 yX11_write := Or.inl (gd_mem (u150_in _ (List.mem_of_getElem? (i := 1) rfl)) rfl)
theorem lk_L_173 : LK RL 173 yX12_write := Or.inl (gd_mem (u231_in _ (List.mem_of_getElem? (i := 3) rfl)) rfl)
theorem lk_L_174 : LK RL 174 yX11_lists := Or.inl (gd_mem (u152_in _ (List.mem_of_getElem? (i := 1) rfl)) rfl)
theorem lk_L_177 : LK RL 177 yX12_lists := Or.inl (gd_mem (u232_in _ (List.mem_of_getElem? (i := 3) rfl)) rfl)
theorem lk_L_178 : LK RL 178 yX11_image := Or.inl (gd_mem (u152_in _ (List.mem_of_getElem? (i := 5) rfl)) rfl)
theorem lk_L_181 : LK RL 181 yX12_image := Or.inl (gd_mem (u232_in _ (List.mem_of_getElem? (i := 7) rfl)) rfl)
theorem lk_L_182 : LK RL 182 yX11_restore := Or.inl (gd_mem (u153_in _ (List.mem_of_getElem? (i := 5) rfl)) rfl)
theorem lk_L_185 : LK RL 185 yX12_restore := Or.inl (gd_mem (u233_in _ (List.mem_of_getElem? (i := 3) rfl)) rfl)
theorem lk_L_186 : LK RL 186 yX11_count := Or.inl (gd_mem (u154_in _ (List.mem_of_getElem? (i := 1) rfl)) rfl)
theorem lk_L_189 : LK RL 189 yX12_count := Or.inl (gd_mem (u233_in _ (List.mem_of_getElem? (i := 7) rfl)) rfl)
