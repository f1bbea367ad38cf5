/-! A HEAD of the class: reach r, depths d. -/
def dOK (r : Int) (d : Int → Int → Int) : Prop := 1 ≤ r ∧ r ≤ 3 ∧ (∀ x y, (x < -r ∨ r < x ∨ y < -r ∨ r < y) → d x y = 0) ∧ ∀ x y, 0 ≤ d x y ∧ d x y ≤ 35
def hOK (σ : cdS) (h : Nat) (r : Int) (d : Int → Int → Int) : Prop :=
  h < 5 ∧ dOK r d ∧ σ.1 (9 + h) 1 = jI (2 * r + 1) ∧ ∀ x y, -r ≤ x → x ≤ r → -r ≤ y → y ≤ r → σ.1 (14 + h) ((r - y) * (2 * r + 1) + r + x).toNat = jI (d x y)
theorem L_isWithin {a b c : Int} {σ : cdS} {Q : Int32 → Prop} (a1 : -2147483648 ≤ a) (a2 : a < 2147483648) (b1 : -2147483648 ≤ b) (b2 : b < 2147483648) (c1 : -2147483648 ≤ c) (c2 : c < 2147483648)
    (h1 : (b ≤ a ∧ a ≤ c) → Q 1) (h0 : ¬ (b ≤ a ∧ a ≤ c) → Q 0) : wp_X5_isWithin (jI a) (jI b) (jI c) σ Q := by
  unfold wp_X5_isWithin
  simp only [jI_lt a1 a2 b1 b2, jI_lt c1 c2 a1 a2]
  refine ⟨fun h => h0 (by omega), fun h => ⟨fun h2 => h0 (by omega), fun h2 => h1 (by omega)⟩⟩
theorem L_reach {σ : cdS} {h : Nat} {r : Int} {d : Int → Int → Int} (H : hOK σ h r d) {Q : Int32 → Prop} (hQ : Q (jI r)) : wp_X2_reach h σ Q := by
  obtain ⟨h5, ⟨r1, r3, -, -⟩, hs, -⟩ := H
  refine ⟨h5, ?_⟩
  rw [hs]
  simp only [jI_n, jI_neg, jI_add, jI_sub, jI_mul]
  rw [jI_divP (by omega) (by omega) (by omega) (by omega)]
  rwa [show (2 * r + 1 - 1) / 2 = r by omega]
theorem L_depthAt {σ : cdS} {h : Nat} {r : Int} {d : Int → Int → Int} (H : hOK σ h r d) {x y : Int} (x1 : -2000000 ≤ x) (x2 : x ≤ 2000000) (y1 : -2000000 ≤ y) (y2 : y ≤ 2000000) {Q : Int32 → Prop} (hQ : Q (jI (d x y))) : wp_X2_depthAt h (jI x) (jI y) σ Q := by
  obtain ⟨h5, ⟨r1, r3, hz, -⟩, hs, hd⟩ := H
  refine ⟨h5, fun v hv => ?_⟩
  have hv : v = jI r := by
    rw [hv, hs]
    simp only [jI_n, jI_neg, jI_add, jI_sub, jI_mul]
    rw [jI_divP (by omega) (by omega) (by omega) (by omega), show (2 * r + 1 - 1) / 2 = r by omega]
  subst hv
  rw [hs]
  simp only [jI_n, jI_neg, jI_add, jI_sub, jI_mul]
  have out : (x < -r ∨ r < x ∨ y < -r ∨ r < y) → Q (jI 0) := fun k => by
    rw [hz x y k] at hQ
    exact hQ
  refine ⟨fun k => out (Or.inl ((jI_lt (by omega) (by omega) (by omega) (by omega)).mp k)), fun k1 => ⟨fun k => out (Or.inr (Or.inl ((jI_lt (by omega) (by omega) (by omega) (by omega)).mp k))), fun k2 => ⟨fun k => out (Or.inr (Or.inr (Or.inl ((jI_lt (by omega) (by omega) (by omega) (by omega)).mp k)))), fun k3 => ⟨fun k4 => ?_, fun k => out (Or.inr (Or.inr (Or.inr ?_)))⟩⟩⟩⟩
  · rw [jI_lt (by omega) (by omega) (by omega) (by omega)] at k1 k2 k3
    rw [jI_le (by omega) (by omega) (by omega) (by omega)] at k4
    have b1 : 0 ≤ (r - y) * (2 * r + 1) + r + x ∧ (r - y) * (2 * r + 1) + r + x < 49 := by
      rcases (show r = 1 ∨ r = 2 ∨ r = 3 by omega) with rfl | rfl | rfl <;> omega
    refine ⟨(jI_in (by omega) (by omega)).mpr b1, ?_⟩
    rw [jI_cl (by omega) (by omega), hd x y (by omega) (by omega) (by omega) (by omega)]
    exact hQ
  · rw [jI_le (by omega) (by omega) (by omega) (by omega)] at k
    omega
