theorem so_cv {v s m k : Int} (h0 : 0 ≤ k) (hk : k ≤ m) (h1 : -99 ≤ v) (h2 : v ≤ 99) (h3 : -99 ≤ v + m * s) (h4 : v + m * s ≤ 99) : -99 ≤ v + k * s ∧ v + k * s ≤ 99 := by
  rcases Int.le_total 0 s with hs | hs
  · have e1 := Int.mul_le_mul_of_nonneg_right hk hs
    have e2 := Int.mul_nonneg h0 hs
    omega
  · have e1 := Int.mul_le_mul_of_nonpos_right hk hs
    have e2 := Int.mul_nonpos_of_nonneg_of_nonpos h0 hs
    omega
theorem so_vks {v s : Int32} {k : Nat} (hv1 : -99 ≤ v.toInt) (hv2 : v.toInt ≤ 99) (hs1 : -99 ≤ s.toInt) (hs2 : s.toInt ≤ 99) (hk : k ≤ 40) : (v + nI k * s).toInt = v.toInt + (k : Int) * s.toInt := by
  have e0 : (nI k).toInt = (k : Int) := nI_toInt (by omega)
  have b1 : -3960 ≤ (k : Int) * s.toInt ∧ (k : Int) * s.toInt ≤ 3960 := by
    have a1 := Int.mul_le_mul_of_nonneg_left (c := (k : Int)) hs1 (by omega)
    have a2 := Int.mul_le_mul_of_nonneg_left (c := (k : Int)) hs2 (by omega)
    omega
  have e1 : (nI k * s).toInt = (k : Int) * s.toInt := by
    rw [Int32.toInt_mul, e0]
    exact Int.bmod_eq_of_le (by omega) (by omega)
  rw [Int32.toInt_add, e1]
  exact Int.bmod_eq_of_le (by omega) (by omega)
theorem so_neg {x : Int32} (h1 : -99 ≤ x.toInt) (h2 : x.toInt ≤ 99) : (-x).toInt = -x.toInt := by
  rw [Int32.toInt_neg]
  exact Int.bmod_eq_of_le (by omega) (by omega)
theorem so_99 : (99 : Int32).toInt = 99 := by decide
theorem so_m99 : (-99 : Int32).toInt = -99 := by decide
theorem so_le99 {x : Int32} : x ≤ 99 ↔ x.toInt ≤ 99 := by rw [Int32.le_iff_toInt_le, so_99]
theorem so_ge99 {x : Int32} : -99 ≤ x ↔ -99 ≤ x.toInt := by rw [Int32.le_iff_toInt_le, so_m99]
theorem so_key {x : Int32} (h1 : -99 ≤ x.toInt) (h2 : x.toInt ≤ 99) : ∃ k : Nat, k < 199 ∧ x - (-99) = nI k ∧ x.toInt = (k : Int) - 99 := by
  have e1 : (x - (-99)).toInt = x.toInt + 99 := by
    rw [Int32.toInt_sub, so_m99]
    exact (Int.bmod_eq_of_le (by omega) (by omega)).trans (by omega)
  obtain ⟨k, hk⟩ := Int.eq_ofNat_of_zero_le (show 0 ≤ x.toInt + 99 by omega)
  refine ⟨k, by omega, ?_, by omega⟩
  apply Int32.toInt_inj.mp
  rw [e1, nI_toInt (by omega), hk]
