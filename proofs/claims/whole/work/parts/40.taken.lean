/-! A HEAD IS TAKEN, by the reference. -/
theorem tkA {q k : Int} (q3 : q = 1 ∨ q = 2 ∨ q = 3) (k0 : 0 ≤ k) (k1 : k < (2 * q + 1) * (2 * q + 1)) : -q ≤ k % (2 * q + 1) - q ∧ k % (2 * q + 1) - q ≤ q ∧ -q ≤ q - k / (2 * q + 1) ∧ q - k / (2 * q + 1) ≤ q ∧ k / (2 * q + 1) * (2 * q + 1 + 1) + k % (2 * q + 1) = (q - (q - k / (2 * q + 1))) * (2 * q + 2) + q + (k % (2 * q + 1) - q) ∧ 0 ≤ k / (2 * q + 1) ∧ k / (2 * q + 1) ≤ 6 := by
  rcases q3 with rfl | rfl | rfl <;> omega
/-- the cells of the rows told before the k-th figure -/
def tkB (q : Int) (k i : Int) : Prop := (-q ≤ i % 7 - 3 ∧ i % 7 - 3 ≤ q ∧ -q ≤ i / 7 - 3 ∧ i / 7 - 3 ≤ q) ∧ (q - (i / 7 - 3)) * (2 * q + 1) + (i % 7 - 3 + q) < k
theorem tkB_s {q k i : Int} (q3 : q = 1 ∨ q = 2 ∨ q = 3) (k0 : 0 ≤ k) (k1 : k < (2 * q + 1) * (2 * q + 1)) (i0 : 0 ≤ i) (i1 : i < 49) (h : i ≠ 7 * (q - k / (2 * q + 1) + 3) + (k % (2 * q + 1) - q) + 3) : tkB q (k + 1) i ↔ tkB q k i := by
  unfold tkB
  rcases q3 with rfl | rfl | rfl <;> omega
theorem tkB_k {q k i : Int} (q3 : q = 1 ∨ q = 2 ∨ q = 3) (k0 : 0 ≤ k) (k1 : k < (2 * q + 1) * (2 * q + 1)) (h : i = 7 * (q - k / (2 * q + 1) + 3) + (k % (2 * q + 1) - q) + 3) : tkB q (k + 1) i := by
  unfold tkB
  rcases q3 with rfl | rfl | rfl <;> omega
section TK
variable {σ : cdS} {n : Nat} {c : Nat → Int} {L : Nat} {r : Nat → Int} {d : Nat → Int → Int → Int} {t u g : Int32}
theorem R_take (I : IM σ n c L r d t u g) {Q : Int32 → cdS → Prop} (h1 : ∀ (s : Nat) (q : Int), isD c L s → (s : Int) = 2 * q + 1 → n < 4 → ∀ σ1, loE σ σ1 → IM σ1 (n + 1) c 0 (fun k => if k = n then q else r k) (fun k => if k = n then dT c q else d k) (t + 1) u g → Q (jI n) σ1) (hF : (∃ s, isD c L s) → ¬ n < 4 → ∀ σ1, frP σ σ1 → Q (jI (-1000005)) σ1) (hS : (∀ s, ¬ isD c L s) → ∀ σ1, frP σ σ1 → Q (jI (-1000004)) σ1) : wp_X6_take σ Q := by
  have I0 := I
  obtain ⟨i1, i2, i3, i4, i5, i6, i8⟩ := I
  intro P58 P96 c58 c96
  refine M_goAlong i6 (fun p σ2 sg rw ns f2 pL aj sa m => ?_)
  have l60 := i6.1
  obtain ⟨d1, d2⟩ := aJ_D aj pL m
  have I2 := IM_P I0 f2
  obtain ⟨_, j2, j3, j4, j5, j6, j8⟩ := I2
  have s0 := j6.2.1
  obtain ⟨s8, s9, s10⟩ := sa
  have bd : 0 ≤ sg ∧ sg ≤ 100 ∧ 0 ≤ rw ∧ rw ≤ 100 ∧ 0 ≤ ns ∧ ns ≤ 100 := by have := aJ_b aj; omega
  rw [s0, s8, s9, s10, j2]
  simp only [jI_n, jI_add]
  rw [jI_lt (by omega) (by omega) (by omega) (by omega), jI_eq (by omega) (by omega) (by omega) (by omega), jI_eq (by omega) (by omega) (by omega) (by omega), jI_eq (by omega) (by omega) (by omega) (by omega), jI_eq (by omega) (by omega) (by omega) (by omega)]
  refine ⟨fun k => hS (fun s D => by have := d2 s D; omega) σ2 f2, fun k1 => ⟨fun k => hS (fun s D => by have := d2 s D; rcases D.1 with rfl | rfl | rfl <;> omega) σ2 f2, fun k2 => ⟨fun k => hS (fun s D => by have := d2 s D; omega) σ2 f2, fun k3 => ⟨fun k4 => ?_, fun k => hS (fun s D => by have := d2 s D; omega) σ2 f2⟩⟩⟩⟩
  have D : isD c L ns.toNat := d1 ns.toNat (by omega) (by omega) k2 k3 k4
  refine ⟨fun n4 => ?_, fun n4 => hF ⟨_, D⟩ (by omega) σ2 f2⟩
  obtain ⟨q, hq⟩ : ∃ q : Int, ns = 2 * q + 1 := by
    rcases D.1 with e | e | e
    · exact ⟨1, by omega⟩
    · exact ⟨2, by omega⟩
    · exact ⟨3, by omega⟩
  have hs : ((ns.toNat : Nat) : Int) = 2 * q + 1 := by omega
  have q3 : q = 1 ∨ q = 2 ∨ q = 3 := by rcases D.1 with e | e | e <;> omega
  subst hq
  have nn : (n : Int) < 4 := by omega
  -- the figures, one behind another
  have key : ∀ (m : Nat) (k : Int) (σ' : cdS), k + m = (2 * q + 1) * (2 * q + 1) → 0 ≤ k → frV n σ2 σ' → (∀ i, 0 ≤ i → i < 49 → (tkB q k i → σ'.1 22 (49 * n + i).toNat = jI (dT c q (i % 7 - 3) (i / 7 - 3))) ∧ (¬ tkB q k i → σ'.1 22 (49 * n + i).toNat = jI 0)) → P96 (jI q) (jI k) σ' := by
    intro m
    induction m with
    | zero =>
      intro k σ' hk k0 f hB
      refine c96 _ _ _ ?_
      rw [f.1 19 (by decide), s10, j2]
      have sq : (2 * q + 1) * (2 * q + 1) ≤ 49 := by rcases q3 with rfl | rfl | rfl <;> decide
      simp only [jI_n, jI_mul, jI_add]
      refine ⟨fun _ => ⟨(jI_in (by omega) (by omega)).mpr (by omega), fun σ15 e15 σ16 e16 σ17 e17 σ18 e18 => ?_⟩, fun z => absurd ((jI_le (by omega) (by omega) (by omega) (by omega)).mpr (by omega)) z⟩
      rw [jI_cl (by omega) (by omega), show ((n : Int)).toNat = n by omega] at e15
      have t2 : σ18.1 19 2 = jI (n + 1 : Nat) := by rw [e18, cdU_j (by decide), e17, cdU_j (by decide), e16, cdU_s, e15, cdU_k (by decide), f.1 19 (by decide), j2, jI_add]; rfl
      rw [t2, jI_sub, show ((n + 1 : Nat) : Int) - 1 = n by omega]
      have ea : ∀ a, a ≠ 19 → a ≠ 21 → σ18.1 a = σ'.1 a := fun a q1 q2 => by rw [e18, cdU_ne q1, e17, cdU_ne q1, e16, cdU_ne q1, e15, cdU_ne q2]
      have e19 : ∀ j, j ≠ 2 → j ≠ 5 → j ≠ 0 → σ18.1 19 j = σ2.1 19 j := fun j q1 q2 q3 => by rw [e18, cdU_j q3, e17, cdU_j q2, e16, cdU_j q1, e15, cdU_k (by decide), f.1 19 (by decide)]
      refine h1 _ q D hs (by omega) σ18 (fun a ha => by rw [ea a (by omega) (by omega), f.1 a (by omega), f2.1 a (by omega)]) (IM_come (σ1 := σ15) I0 (by omega) ?_ ?_ ?_ ?_ t2 ?_ ?_ ?_ ?_ ?_ ?_)
      · rw [e15, cdU_ne (by decide), f.1 20 (by decide), f2.1 20 (by decide)]
      · intro j hj
        rw [e15, cdU_j hj, f.1 21 (by decide), f2.1 21 (by decide)]
      · intro j hj
        rw [e15, cdU_k (by decide), ← f2.1 22 (by decide)]
        exact f.2.1 j hj
      · refine mOK_of (by omega) (by omega) (dT_ok D hs) ?_ (fun i i0 i9 => ?_)
        · rw [e15, show ((n : Int)).toNat = n by omega, cdU_s]
        · rw [e15, cdU_k (by decide)]
          by_cases z : tkB q k i
          · exact (hB i i0 i9).1 z
          · rw [(hB i i0 i9).2 z]
            have z2 : ¬ (-q ≤ i % 7 - 3 ∧ i % 7 - 3 ≤ q ∧ -q ≤ i / 7 - 3 ∧ i / 7 - 3 ≤ q) := fun y => z (by
              refine ⟨y, ?_⟩
              rcases q3 with rfl | rfl | rfl <;> omega)
            unfold dT
            rw [if_neg z2]
      · rw [e18, cdU_j (by decide), e17, cdU_s, e16, cdU_j (by decide), e15, cdU_k (by decide), f.1 19 (by decide), j3]; rfl
      · rw [e19 6 (by decide) (by decide) (by decide)]; exact j4
      · rw [e19 7 (by decide) (by decide) (by decide)]; exact j5
      · exact ⟨by omega, by rw [e18, cdU_s]; rfl, fun j hj => absurd hj (by omega)⟩
      · rw [e18, cdU_ne (by decide), e17, cdU_ne (by decide), e16, cdU_ne (by decide)]
      · rw [e18, cdU_ne (by decide), e17, cdU_ne (by decide), e16, cdU_ne (by decide)]
    | succ m ih =>
      intro k σ' hk k0 f hB
      refine c96 _ _ _ ?_
      rw [f.1 19 (by decide), f.1 20 (by decide), s10, j2]
      have sq : (2 * q + 1) * (2 * q + 1) ≤ 49 := by rcases q3 with rfl | rfl | rfl <;> decide
      have kb : k < (2 * q + 1) * (2 * q + 1) := by omega
      obtain ⟨a1, a2, a3, a4, a5, a6, a7⟩ := tkA q3 k0 kb
      obtain ⟨b1, b2⟩ := dT_at D hs a1 a2 a3 a4
      simp only [jI_n, jI_mul, jI_add]
      rw [jI_divP (by omega) (by omega) (by omega) (by omega), cdm_jP (by omega) (by omega) (by omega) (by omega)]
      simp only [jI_mul, jI_add, jI_sub]
      rw [a5]
      have i0 : 0 ≤ (q - (q - k / (2 * q + 1))) * (2 * q + 2) + q + (k % (2 * q + 1) - q) := by
        rw [← a5]
        have := Int.mul_nonneg a6 (show 0 ≤ 2 * q + 1 + 1 by omega)
        omega
      have nz : ¬ jI (2 * q + 1) = jI 0 := fun z => by rw [jI_eq (by omega) (by omega) (by omega) (by omega)] at z; omega
      refine ⟨fun z => absurd ((jI_le (by omega) (by omega) (by omega) (by omega)).mp z) (by omega), fun _ => ⟨nz, nz, (jI_in (by omega) (by omega)).mpr (by omega), fun x3 e3 => ⟨nz, nz, ?_⟩⟩⟩
      have pj := j6.2.2 _ b1
      rw [jI_cl (by omega) (by omega), pj.1] at e3
      unfold wp_X6_cell
      rw [e3]
      simp only [jI_n, jI_mul, jI_add, jI_sub]
      refine M_depthOf (by omega) (by omega) (fun _ => ⟨(jI_in (by omega) (by omega)).mpr (by omega), fun σ30 e30 x e => ?_⟩) (fun z => absurd b2 z)
      rw [e]
      rw [jI_cl (by omega) (by omega), show 49 * (n : Int) + 7 * (q - k / (2 * q + 1) + 3) + (k % (2 * q + 1) - q) + 3 = 49 * n + (7 * (q - k / (2 * q + 1) + 3) + (k % (2 * q + 1) - q) + 3) by omega] at e30
      refine ih (k + 1) σ30 (by omega) (by omega) (by rw [e30]; exact frV_U f (by omega) (by omega) (by omega)) (fun i i0 i9 => ?_)
      by_cases z : i = 7 * (q - k / (2 * q + 1) + 3) + (k % (2 * q + 1) - q) + 3
      · refine ⟨fun _ => ?_, fun y => absurd (tkB_k q3 k0 kb z) y⟩
        rw [e30, ← z, cdU_s]
        have x7 : i % 7 - 3 = k % (2 * q + 1) - q := by omega
        have y7 : i / 7 - 3 = q - k / (2 * q + 1) := by omega
        rw [x7, y7]
        unfold dT
        rw [if_pos ⟨a1, a2, a3, a4⟩]
      · rw [e30, cdU_j (by omega), tkB_s q3 k0 kb i0 i9 z]
        exact hB i i0 i9
  refine fill49 (to := n) (by omega) (e := fun _ => 0) (σ0 := σ2) (P := fun i σ => P58 (jI i) σ) ?_ ?_
  · intro i σ' i0 i9 f h
    refine c58 _ _ ?_
    rw [f.1 19 (by decide), j2]
    simp only [jI_n, jI_mul, jI_add]
    refine ⟨fun k => absurd ((jI_le (by omega) (by omega) (by omega) (by omega)).mp k) (by omega), fun _ => ⟨(jI_in (by omega) (by omega)).mpr (by omega), fun σ11 e11 x e => ?_⟩⟩
    rw [jI_cl (by omega) (by omega)] at e11
    rw [e, e11]
    exact h
  · intro σ' f h
    refine c58 _ _ ?_
    rw [f.1 19 (by decide), s10]
    simp only [jI_n, jI_sub]
    rw [jI_divP (by omega) (by omega) (by omega) (by omega), show (2 * q + 1 - 1) / 2 = q by omega]
    refine ⟨fun _ x e => ?_, fun k => absurd ((jI_le (by omega) (by omega) (by omega) (by omega)).mpr (by omega)) k⟩
    rw [e]
    refine key ((2 * q + 1) * (2 * q + 1)).toNat 0 σ' (by rcases q3 with rfl | rfl | rfl <;> decide) (by omega) f (fun i i0 i9 => ?_)
    refine ⟨fun z => ?_, fun _ => h i i0 i9⟩
    exfalso
    unfold tkB at z
    rcases q3 with rfl | rfl | rfl <;> omega
end TK
