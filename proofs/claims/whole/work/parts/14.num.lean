/-! NUMBERS: ints of the machine as whole numbers: jI z is z, wrapped. The ring's laws hold without bounds; orders, quotients and places within them. -/
def jI (z : Int) : Int32 := Int32.ofInt z
def jL (z : Int) : Int64 := Int64.ofInt z
theorem jI_n (n : Nat) : (OfNat.ofNat n : Int32) = jI (OfNat.ofNat n : Int) := (Int32.ofInt_eq_ofNat (n := n)).symm
theorem jI_of (x : Int32) : jI x.toInt = x := Int32.ofInt_toInt x
theorem jI_add (a b : Int) : jI a + jI b = jI (a + b) := (Int32.ofInt_add a b).symm
theorem jI_sub (a b : Int) : jI a - jI b = jI (a - b) := (Int32.ofInt_sub a b).symm
theorem jI_mul (a b : Int) : jI a * jI b = jI (a * b) := (Int32.ofInt_mul a b).symm
theorem jI_neg (a : Int) : -jI a = jI (-a) := (Int32.ofInt_neg a).symm
theorem jI_toInt {a : Int} (h1 : -2147483648 ≤ a) (h2 : a < 2147483648) : (jI a).toInt = a := Int32.toInt_ofInt_of_le h1 h2
theorem jI_le {a b : Int} (a1 : -2147483648 ≤ a) (a2 : a < 2147483648) (b1 : -2147483648 ≤ b) (b2 : b < 2147483648) : jI a ≤ jI b ↔ a ≤ b := by
  rw [Int32.le_iff_toInt_le, jI_toInt a1 a2, jI_toInt b1 b2]
theorem jI_lt {a b : Int} (a1 : -2147483648 ≤ a) (a2 : a < 2147483648) (b1 : -2147483648 ≤ b) (b2 : b < 2147483648) : jI a < jI b ↔ a < b := by
  rw [Int32.lt_iff_toInt_lt, jI_toInt a1 a2, jI_toInt b1 b2]
theorem jI_eq {a b : Int} (a1 : -2147483648 ≤ a) (a2 : a < 2147483648) (b1 : -2147483648 ≤ b) (b2 : b < 2147483648) : jI a = jI b ↔ a = b := by
  rw [← Int32.toInt_inj, jI_toInt a1 a2, jI_toInt b1 b2]
theorem jI_cl {a : Int} (h1 : -2147483648 ≤ a) (h2 : a < 2147483648) : (jI a).toNatClampNeg = a.toNat := Int32.toNatClampNeg_ofInt_of_le h1 h2
theorem jI_in {a : Int} {n : Nat} (h1 : -2147483648 ≤ a) (h2 : a < 2147483648) : vp_in (jI a) n ↔ 0 ≤ a ∧ a < n := by
  rw [vp_in_iff, jI_toInt h1 h2]
theorem jI_div {a b : Int} (a1 : -2147483648 ≤ a) (a2 : a < 2147483648) (b1 : -2147483648 ≤ b) (b2 : b < 2147483648) : jI a / jI b = jI (a.tdiv b) := by
  rw [← Int32.toInt_inj, Int32.toInt_div, jI_toInt a1 a2, jI_toInt b1 b2]
  exact (Int32.toInt_ofInt (n := a.tdiv b)).symm
theorem jI_divP {a b : Int} (a1 : 0 ≤ a) (a2 : a < 2147483648) (b1 : 0 < b) (b2 : b < 2147483648) : jI a / jI b = jI (a / b) := by
  rw [jI_div (by omega) a2 (by omega) b2, Int.tdiv_eq_ediv_of_nonneg a1]
theorem cdm_j {a b : Int} (a1 : -2147483648 ≤ a) (a2 : a < 2147483648) (b1 : -2147483648 ≤ b) (b2 : b < 2147483648) : cdm (jI a) (jI b) = jI (a.tmod b) := by
  unfold cdm
  rw [jI_div a1 a2 b1 b2, jI_mul, jI_sub]
  congr 1
  have := Int.mul_tdiv_add_tmod a b
  rw [Int.mul_comm] at this
  omega
theorem cdm_jP {a b : Int} (a1 : 0 ≤ a) (a2 : a < 2147483648) (b1 : 0 < b) (b2 : b < 2147483648) : cdm (jI a) (jI b) = jI (a % b) := by
  rw [cdm_j (by omega) a2 (by omega) b2, Int.tmod_eq_emod_of_nonneg a1]
theorem jI_b (x : Int32) : -2147483648 ≤ x.toInt ∧ x.toInt < 2147483648 := ⟨Int32.le_toInt x, Int32.toInt_lt x⟩
theorem jI_ex (x : Int32) : ∃ z : Int, x = jI z ∧ -2147483648 ≤ z ∧ z < 2147483648 := ⟨x.toInt, (jI_of x).symm, (jI_b x).1, (jI_b x).2⟩
-- the machine's longs
theorem jL_n (n : Nat) : (OfNat.ofNat n : Int64) = jL (OfNat.ofNat n : Int) := (Int64.ofInt_eq_ofNat (n := n)).symm
theorem jL_add (a b : Int) : jL a + jL b = jL (a + b) := (Int64.ofInt_add a b).symm
theorem jL_sub (a b : Int) : jL a - jL b = jL (a - b) := (Int64.ofInt_sub a b).symm
theorem jL_mul (a b : Int) : jL a * jL b = jL (a * b) := (Int64.ofInt_mul a b).symm
theorem jL_neg (a : Int) : -jL a = jL (-a) := (Int64.ofInt_neg a).symm
theorem jL_toInt {a : Int} (h1 : -9223372036854775808 ≤ a) (h2 : a < 9223372036854775808) : (jL a).toInt = a := Int64.toInt_ofInt_of_le h1 h2
theorem jL_le {a b : Int} (a1 : -9223372036854775808 ≤ a) (a2 : a < 9223372036854775808) (b1 : -9223372036854775808 ≤ b) (b2 : b < 9223372036854775808) : jL a ≤ jL b ↔ a ≤ b := by
  rw [Int64.le_iff_toInt_le, jL_toInt a1 a2, jL_toInt b1 b2]
theorem jL_lt {a b : Int} (a1 : -9223372036854775808 ≤ a) (a2 : a < 9223372036854775808) (b1 : -9223372036854775808 ≤ b) (b2 : b < 9223372036854775808) : jL a < jL b ↔ a < b := by
  rw [Int64.lt_iff_toInt_lt, jL_toInt a1 a2, jL_toInt b1 b2]
theorem jL_eq {a b : Int} (a1 : -9223372036854775808 ≤ a) (a2 : a < 9223372036854775808) (b1 : -9223372036854775808 ≤ b) (b2 : b < 9223372036854775808) : jL a = jL b ↔ a = b := by
  rw [← Int64.toInt_inj, jL_toInt a1 a2, jL_toInt b1 b2]
theorem jL_div {a b : Int} (a1 : -9223372036854775808 ≤ a) (a2 : a < 9223372036854775808) (b1 : -9223372036854775808 ≤ b) (b2 : b < 9223372036854775808) : jL a / jL b = jL (a.tdiv b) := by
  rw [← Int64.toInt_inj, Int64.toInt_div, jL_toInt a1 a2, jL_toInt b1 b2]
  exact (Int64.toInt_ofInt (n := a.tdiv b)).symm
theorem cdmL_j {a b : Int} (a1 : -9223372036854775808 ≤ a) (a2 : a < 9223372036854775808) (b1 : -9223372036854775808 ≤ b) (b2 : b < 9223372036854775808) : cdmL (jL a) (jL b) = jL (a.tmod b) := by
  unfold cdmL
  rw [jL_div a1 a2 b1 b2, jL_mul, jL_sub]
  congr 1
  have := Int.mul_tdiv_add_tmod a b
  rw [Int.mul_comm] at this
  omega
theorem jI_l {a : Int} (h1 : -2147483648 ≤ a) (h2 : a < 2147483648) : (jI a).toInt64 = jL a := by
  rw [← Int64.toInt_inj, Int32.toInt_toInt64, jI_toInt h1 h2, jL_toInt (by omega) (by omega)]
theorem jL_i {a : Int} (h1 : -2147483648 ≤ a) (h2 : a < 2147483648) : (jL a).toInt32 = jI a := by
  rw [← jI_l h1 h2, Int32.toInt32_toInt64]
theorem lg_cmp_j {a b : Int} (a1 : -9223372036854775808 ≤ a) (a2 : a < 9223372036854775808) (b1 : -9223372036854775808 ≤ b) (b2 : b < 9223372036854775808) : lg_cmp (jL a) (jL b) = jI (if a > b then 1 else if a = b then 0 else -1) := by
  unfold lg_cmp
  show (if jL b < jL a then (1 : Int32) else if jL a = jL b then 0 else -1) = _
  by_cases h : b < a
  · rw [if_pos ((jL_lt b1 b2 a1 a2).mpr h), if_pos h]; rfl
  · rw [if_neg (fun q => h ((jL_lt b1 b2 a1 a2).mp q)), if_neg h]
    by_cases h2 : a = b
    · rw [if_pos ((jL_eq a1 a2 b1 b2).mpr h2), if_pos h2]; rfl
    · rw [if_neg (fun q => h2 ((jL_eq a1 a2 b1 b2).mp q)), if_neg h2]; rfl
-- reads of a written state
theorem cdU_s {σ : cdS} {k j : Nat} {v : Int32} : (cdU σ k j v).1 k j = v := by simp [cdU]
theorem cdU_k {σ : cdS} {k j a b : Nat} {v : Int32} (h : a ≠ k) : (cdU σ k j v).1 a b = σ.1 a b := by simp [cdU, h]
theorem cdU_j {σ : cdS} {k j a b : Nat} {v : Int32} (h : b ≠ j) : (cdU σ k j v).1 a b = σ.1 a b := by simp [cdU, h]
theorem cdU_2 {σ : cdS} {k j : Nat} {v : Int32} : (cdU σ k j v).2 = σ.2 := rfl
theorem cdJ_1 {σ : cdS} {j : Nat} {v : Int64} : (cdJ σ j v).1 = σ.1 := rfl
theorem cdJ_s {σ : cdS} {j : Nat} {v : Int64} : (cdJ σ j v).2 j = v := by simp [cdJ]
theorem cdJ_n {σ : cdS} {j b : Nat} {v : Int64} (h : b ≠ j) : (cdJ σ j v).2 b = σ.2 b := by simp [cdJ, h]
