/-! a spot is looked at ahead of its use (the class's isSpot, streetsFrom) -/
theorem spot_y {p : Int} (h0 : 0 ≤ p) (h1 : p < 120) : fX11_isSpot p = some true := by
  unfold fX11_isSpot
  rw [if_neg (by omega), if_neg (by omega)]
theorem spot_n {p : Int} (h : p < 0) : fX11_isSpot p = some false := by
  unfold fX11_isSpot
  rw [if_pos h]
theorem strFrom_ok {S : SS} {t a : Nat} (h : a < 120) : fX10_streetsFrom t (a : Int) S = some (S (t + 5) (a / 20)) := by
  unfold fX10_streetsFrom
  rw [spot_y (by omega) (by omega), bnd_s, if_pos rfl, Int.tdiv_eq_ediv_of_nonneg (by omega), show w32 ((a : Int) / 20) = ((a / 20 : Nat) : Int) by rw [w32_eq (by omega) (by omega)]; omega, rdA_ok (by omega) (by omega), Int.toNat_natCast]
