/-! THE REFERENCE's HEAD k: reach r, depths d, in a square of seven. -/
def mOK (σ : cdS) (k : Int) (r : Int) (d : Int → Int → Int) : Prop :=
  0 ≤ k ∧ k < 5 ∧ dOK r d ∧ σ.1 21 k.toNat = jI (2 * r + 1) ∧ ∀ x y, -3 ≤ x → x ≤ 3 → -3 ≤ y → y ≤ 3 → σ.1 22 (49 * k + 7 * (y + 3) + x + 3).toNat = jI (d x y)
theorem M_within {a b c : Int} {σ : cdS} {Q : Int32 → Prop} (a1 : -2147483648 ≤ a) (a2 : a < 2147483648) (b1 : -2147483648 ≤ b) (b2 : b < 2147483648) (c1 : -2147483648 ≤ c) (c2 : c < 2147483648)
    (h1 : (b ≤ a ∧ a ≤ c) → Q 1) (h0 : ¬ (b ≤ a ∧ a ≤ c) → Q 0) : wp_X6_within (jI a) (jI b) (jI c) σ Q := by
  unfold wp_X6_within
  simp only [jI_lt a1 a2 b1 b2, jI_lt c1 c2 a1 a2]
  refine ⟨fun h => h0 (by omega), fun h => ⟨fun h2 => h0 (by omega), fun h2 => h1 (by omega)⟩⟩
theorem M_depthAt {σ : cdS} {k r : Int} {d : Int → Int → Int} (H : mOK σ k r d) {x y : Int} (x1 : -2000000 ≤ x) (x2 : x ≤ 2000000) (y1 : -2000000 ≤ y) (y2 : y ≤ 2000000) {Q : Int32 → Prop} (hQ : Q (jI (d x y))) : wp_X6_depthAt (jI k) (jI x) (jI y) σ Q := by
  obtain ⟨k0, k5, ⟨r1, r3, hz, -⟩, hs, hd⟩ := H
  unfold wp_X6_depthAt
  simp only [jI_n, jI_neg, jI_add, jI_sub, jI_mul]
  refine M_within (by omega) (by omega) (by omega) (by omega) (by omega) (by omega) (fun hx => ⟨fun h => absurd h (by decide), fun _ => ?_⟩) (fun hx => ⟨fun _ => ?_, fun h => absurd rfl h⟩)
  · refine M_within (by omega) (by omega) (by omega) (by omega) (by omega) (by omega) (fun hy => ⟨fun h => absurd h (by decide), fun _ => ?_⟩) (fun hy => ⟨fun _ => ?_, fun h => absurd rfl h⟩)
    · show vp_in _ 245 ∧ Q _
      simp only [jI_n, jI_neg, jI_add, jI_sub, jI_mul]
      refine ⟨(jI_in (by omega) (by omega)).mpr (by omega), ?_⟩
      rw [jI_cl (by omega) (by omega), hd x y hx.1 hx.2 hy.1 hy.2]
      exact hQ
    · rw [hz x y (by omega)] at hQ
      exact hQ
  · rw [hz x y (by omega)] at hQ
    exact hQ
theorem M_turnedAt {σ : cdS} {k r : Int} {d : Int → Int → Int} (H : mOK σ k r d) {q x y : Int} (q0 : 0 ≤ q) (q3 : q ≤ 3) (x1 : -2000000 ≤ x) (x2 : x ≤ 2000000) (y1 : -2000000 ≤ y) (y2 : y ≤ 2000000) {Q : Int32 → Prop} (hQ : Q (jI (tq d q x y))) : wp_X6_turnedAt (jI k) (jI q) (jI x) (jI y) σ Q := by
  unfold wp_X6_turnedAt
  simp only [jI_n, jI_neg, jI_add, jI_sub, jI_mul]
  unfold tq at hQ
  rw [jI_eq (by omega) (by omega) (by omega) (by omega), jI_eq (by omega) (by omega) (by omega) (by omega), jI_eq (by omega) (by omega) (by omega) (by omega)]
  refine ⟨fun e0 => ⟨fun e1 => ⟨fun e2 => ?_, fun e2 => ?_⟩, fun e1 => ?_⟩, fun e0 => ?_⟩
  · rw [if_neg e1, if_neg e2, if_pos (by omega)] at hQ
    exact M_depthAt H (by omega) (by omega) (by omega) (by omega) hQ
  · rw [if_neg e1, if_pos e2] at hQ
    exact M_depthAt H (by omega) (by omega) (by omega) (by omega) hQ
  · rw [if_pos e1] at hQ
    exact M_depthAt H (by omega) (by omega) (by omega) (by omega) hQ
  · rw [if_neg (by omega), if_neg (by omega), if_neg (by omega)] at hQ
    exact M_depthAt H (by omega) (by omega) (by omega) (by omega) hQ
theorem mOK_at {σ : cdS} {k r : Int} {d : Int → Int → Int} (H : mOK σ k r d) {i : Int} (i0 : 0 ≤ i) (i1 : i < 49) : σ.1 22 (49 * k + i).toNat = jI (d (i % 7 - 3) (i / 7 - 3)) := by
  have := H.2.2.2.2 (i % 7 - 3) (i / 7 - 3) (by omega) (by omega) (by omega) (by omega)
  rwa [show 49 * k + 7 * (i / 7 - 3 + 3) + (i % 7 - 3) + 3 = 49 * k + i by omega] at this
theorem M_thrownBy {σ : cdS} {k r : Int} {d : Int → Int → Int} (H : mOK σ k r d) {Q : Int32 → Prop} (hQ : Q (jI (TH d))) : wp_X6_thrownBy (jI k) σ Q := by
  have H0 := H
  obtain ⟨k0, k5, hD, hs, hd⟩ := H
  intro P hP
  have key : ∀ (n i : Nat), i + n = 49 → P (jI (sm i (fun i => d ((i : Int) % 7 - 3) ((i : Int) / 7 - 3)))) (jI i) := by
    intro n
    induction n with
    | zero =>
      intro i hi
      refine hP _ _ ?_
      simp only [jI_n, jI_neg, jI_add, jI_sub, jI_mul]
      refine ⟨fun _ => ?_, fun q => absurd ((jI_le (by omega) (by omega) (by omega) (by omega)).mpr (by omega)) q⟩
      rw [show i = 7 * 7 by omega, sm_mul, show sm 7 (fun i => sm 7 (fun j => d (((i * 7 + j : Nat) : Int) % 7 - 3) (((i * 7 + j : Nat) : Int) / 7 - 3))) = TH d by
        unfold TH
        rw [← S7_r (r := 3) (f := fun y => S7 (fun x => d x y)) (by omega) (by omega) (fun y hy => by
          have : ∀ x, d x y = 0 := fun x => hD.2.2.1 x y (by have := hD.2.1; omega)
          simp [S7, this])]
        show sm 7 _ = sm 7 _
        refine sm_c (fun a ha => ?_)
        rw [← S7_r (r := 3) (f := fun x => d x (a - 3)) (by omega) (by omega) (fun x hx => hD.2.2.1 _ _ (by have := hD.2.1; omega))]
        show sm 7 _ = sm 7 _
        refine sm_c (fun b hb => ?_)
        rw [show ((a * 7 + b : Nat) : Int) % 7 - 3 = b - 3 by omega, show ((a * 7 + b : Nat) : Int) / 7 - 3 = a - 3 by omega]]
      exact hQ
    | succ n ih =>
      intro i hi
      have ih := ih (i + 1) (by omega)
      refine hP _ _ ?_
      simp only [jI_n, jI_neg, jI_add, jI_sub, jI_mul]
      refine ⟨fun q => absurd ((jI_le (by omega) (by omega) (by omega) (by omega)).mp q) (by omega), fun _ => ?_⟩
      refine ⟨(jI_in (by omega) (by omega)).mpr (by omega), fun x1 e1 x2 e2 => ?_⟩
      rw [jI_cl (by omega) (by omega), mOK_at H0 (by omega) (by omega), jI_add] at e1
      rw [e1, e2]
      exact ih
  exact key 49 0 rfl
theorem M_deepest {σ : cdS} {k r : Int} {d : Int → Int → Int} (H : mOK σ k r d) {Q : Int32 → Prop} (hQ : Q (jI (MX d))) : wp_X6_deepest (jI k) σ Q := by
  have H0 := H
  obtain ⟨k0, k5, hD, hs, hd⟩ := H
  have h35 := hD.2.2.2
  intro P P40 hP h40
  have key : ∀ (n i : Nat) (M : Int), i + n = 49 → 0 ≤ M → M ≤ 35 → (∀ j : Nat, j < i → d ((j : Int) % 7 - 3) ((j : Int) / 7 - 3) ≤ M) → (M = 0 ∨ ∃ x y, d x y = M) → P (jI M) (jI i) := by
    intro n
    induction n with
    | zero =>
      intro i M hi m0 m1 hM hE
      refine hP _ _ ?_
      simp only [jI_n, jI_neg, jI_add, jI_sub, jI_mul]
      refine ⟨fun _ => ?_, fun q => absurd ((jI_le (by omega) (by omega) (by omega) (by omega)).mpr (by omega)) q⟩
      rw [MX_e (fun x y => (h35 x y).1) (M := M) ⟨fun x y => ?_, hE⟩] at hQ
      · exact hQ
      · by_cases hx : -3 ≤ x ∧ x ≤ 3 ∧ -3 ≤ y ∧ y ≤ 3
        · have := hM (7 * (y + 3) + x + 3).toNat (by omega)
          rwa [show (((7 * (y + 3) + x + 3).toNat : Nat) : Int) % 7 - 3 = x by omega, show (((7 * (y + 3) + x + 3).toNat : Nat) : Int) / 7 - 3 = y by omega] at this
        · rw [hD.2.2.1 x y (by have := hD.2.1; omega)]
          exact m0
    | succ n ih =>
      intro i M hi m0 m1 hM hE
      have go : ∀ M', M ≤ M' → d ((i : Int) % 7 - 3) ((i : Int) / 7 - 3) ≤ M' → M' ≤ 35 → (M' = 0 ∨ ∃ x y, d x y = M') → P40 (jI i) (jI M') := by
        intro M' q1 q2 q3 q4
        refine h40 _ _ (fun z hz => ?_)
        rw [jI_n, jI_add] at hz
        rw [hz]
        refine ih (i + 1) M' (by omega) (by omega) q3 (fun j hj => ?_) q4
        by_cases hji : j = i
        · rw [hji]; exact q2
        · exact Int.le_trans (hM j (by omega)) q1
      have hv := h35 ((i : Int) % 7 - 3) ((i : Int) / 7 - 3)
      refine hP _ _ ?_
      simp only [jI_n, jI_neg, jI_add, jI_sub, jI_mul]
      refine ⟨fun q => absurd ((jI_le (by omega) (by omega) (by omega) (by omega)).mp q) (by omega), fun _ => ?_⟩
      refine ⟨(jI_in (by omega) (by omega)).mpr (by omega), ?_⟩
      rw [jI_cl (by omega) (by omega), mOK_at H0 (by omega) (by omega), jI_le (by omega) (by omega) (by omega) (by omega)]
      exact ⟨fun q => go M (by omega) (by omega) (by omega) hE, fun q => ⟨(jI_in (by omega) (by omega)).mpr (by omega), go _ (by omega) (by omega) (by omega) (Or.inr ⟨_, _, rfl⟩)⟩⟩
  exact key 49 0 0 rfl (by omega) (by omega) (fun j hj => absurd hj (by omega)) (Or.inl rfl)
/-- a run over the 49 cells that says whether all are alike -/
theorem M_isSameTurned {σ : cdS} {k r : Int} {d : Int → Int → Int} (H : mOK σ k r d) {q : Int} (q0 : 0 ≤ q) (q3 : q ≤ 3) {Q : Int32 → Prop} (h1 : smQ d q → Q 1) (h0 : ¬ smQ d q → Q 0) : wp_X6_isSameTurned (jI k) (jI q) σ Q := by
  have H0 := H
  obtain ⟨k0, k5, hD, hs, hd⟩ := H
  have h35 := hD.2.2.2
  have hr := hD.2.1
  intro P5 P55 P56 c5 c55 c56
  have key : ∀ (n i : Nat), i + n = 49 → ((∀ j : Nat, j < i → d ((j : Int) % 7 - 3) ((j : Int) / 7 - 3) = tq d q ((j : Int) % 7 - 3) ((j : Int) / 7 - 3)) → P5 (jI 1) (jI i)) ∧ (¬ smQ d q → P5 (jI 0) (jI i)) := by
    intro n
    induction n with
    | zero =>
      intro i hi
      have hle : (49 : Int32) ≤ jI i := by rw [jI_n]; exact (jI_le (by omega) (by omega) (by omega) (by omega)).mpr (by omega)
      refine ⟨fun hB => c5 _ _ ⟨fun _ => ⟨Or.inr rfl, h1 (smQ_in hD (R := 3) hr (fun x y a b c e => ?_))⟩, fun k => absurd hle k⟩,
        fun hB => c5 _ _ ⟨fun _ => ⟨Or.inl rfl, h0 hB⟩, fun k => absurd hle k⟩⟩
      have := hB (7 * (y + 3) + x + 3).toNat (by omega)
      rwa [show (((7 * (y + 3) + x + 3).toNat : Nat) : Int) % 7 - 3 = x by omega, show (((7 * (y + 3) + x + 3).toNat : Nat) : Int) / 7 - 3 = y by omega] at this
    | succ n ih =>
      intro i hi
      have ih := ih (i + 1) (by omega)
      have hle : ¬ (49 : Int32) ≤ jI i := by rw [jI_n, jI_le (by omega) (by omega) (by omega) (by omega)]; omega
      have bad : ¬ smQ d q → P55 (jI i) := fun hB => c55 _ (c56 _ _ (fun z hz => by rw [jI_n, jI_add] at hz; rw [hz]; exact ih.2 hB))
      refine ⟨fun hB => c5 _ _ ⟨fun k => absurd k hle, fun _ => ⟨fun k => absurd k (by decide), fun _ => ?_⟩⟩,
        fun hB => c5 _ _ ⟨fun k => absurd k hle, fun _ => ⟨fun _ => bad hB, fun k => absurd rfl k⟩⟩⟩
      simp only [jI_n, jI_neg, jI_add, jI_sub, jI_mul]
      refine ⟨(jI_in (by omega) (by omega)).mpr (by omega), ?_⟩
      rw [cdm_jP (by omega) (by omega) (by omega) (by omega), jI_divP (by omega) (by omega) (by omega) (by omega), jI_sub, jI_sub]
      refine M_turnedAt H0 q0 q3 (by omega) (by omega) (by omega) (by omega) ?_
      have b1 := h35 ((i : Int) % 7 - 3) ((i : Int) / 7 - 3)
      have b2 : 0 ≤ tq d q ((i : Int) % 7 - 3) ((i : Int) / 7 - 3) ∧ tq d q ((i : Int) % 7 - 3) ((i : Int) / 7 - 3) ≤ 35 := by
        unfold tq
        split
        · exact h35 _ _
        · split
          · exact h35 _ _
          · split
            · exact h35 _ _
            · exact h35 _ _
      rw [jI_cl (by omega) (by omega), mOK_at H0 (by omega) (by omega), jI_eq (by omega) (by omega) (by omega) (by omega)]
      refine ⟨fun e => bad (fun k => e (k _ _)), fun e => c56 _ _ (fun z hz => ?_)⟩
      rw [jI_n, jI_add] at hz
      rw [hz]
      refine ih.1 (fun j hj => ?_)
      by_cases hji : j = i
      · rw [hji]; exact e
      · exact hB j (by omega)
  exact (key 49 0 rfl).1 (fun j hj => absurd hj (by omega))
theorem M_isSameMirrored {σ : cdS} {k r : Int} {d : Int → Int → Int} (H : mOK σ k r d) {Q : Int32 → Prop} (h1 : smM d → Q 1) (h0 : ¬ smM d → Q 0) : wp_X6_isSameMirrored (jI k) σ Q := by
  have H0 := H
  obtain ⟨k0, k5, hD, hs, hd⟩ := H
  have h35 := hD.2.2.2
  have hr := hD.2.1
  intro P5 P55 P56 c5 c55 c56
  have key : ∀ (n i : Nat), i + n = 49 → ((∀ j : Nat, j < i → d ((j : Int) % 7 - 3) ((j : Int) / 7 - 3) = d (3 - (j : Int) % 7) ((j : Int) / 7 - 3)) → P5 (jI 1) (jI i)) ∧ (¬ smM d → P5 (jI 0) (jI i)) := by
    intro n
    induction n with
    | zero =>
      intro i hi
      have hle : (49 : Int32) ≤ jI i := by rw [jI_n]; exact (jI_le (by omega) (by omega) (by omega) (by omega)).mpr (by omega)
      refine ⟨fun hB => c5 _ _ ⟨fun _ => ⟨Or.inr rfl, h1 (smM_in hD (R := 3) hr (fun x y a b c e => ?_))⟩, fun k => absurd hle k⟩,
        fun hB => c5 _ _ ⟨fun _ => ⟨Or.inl rfl, h0 hB⟩, fun k => absurd hle k⟩⟩
      have := hB (7 * (y + 3) + x + 3).toNat (by omega)
      rwa [show (((7 * (y + 3) + x + 3).toNat : Nat) : Int) % 7 - 3 = x by omega, show (((7 * (y + 3) + x + 3).toNat : Nat) : Int) / 7 - 3 = y by omega, show 3 - (((7 * (y + 3) + x + 3).toNat : Nat) : Int) % 7 = -x by omega] at this
    | succ n ih =>
      intro i hi
      have ih := ih (i + 1) (by omega)
      have hle : ¬ (49 : Int32) ≤ jI i := by rw [jI_n, jI_le (by omega) (by omega) (by omega) (by omega)]; omega
      have bad : ¬ smM d → P55 (jI i) := fun hB => c55 _ (c56 _ _ (fun z hz => by rw [jI_n, jI_add] at hz; rw [hz]; exact ih.2 hB))
      refine ⟨fun hB => c5 _ _ ⟨fun k => absurd k hle, fun _ => ⟨fun k => absurd k (by decide), fun _ => ?_⟩⟩,
        fun hB => c5 _ _ ⟨fun k => absurd k hle, fun _ => ⟨fun _ => bad hB, fun k => absurd rfl k⟩⟩⟩
      simp only [jI_n, jI_neg, jI_add, jI_sub, jI_mul]
      refine ⟨(jI_in (by omega) (by omega)).mpr (by omega), ?_⟩
      rw [cdm_jP (by omega) (by omega) (by omega) (by omega), jI_divP (by omega) (by omega) (by omega) (by omega), jI_sub, jI_sub]
      refine M_depthAt H0 (by omega) (by omega) (by omega) (by omega) ?_
      have b1 := h35 ((i : Int) % 7 - 3) ((i : Int) / 7 - 3)
      have b2 := h35 (3 - (i : Int) % 7) ((i : Int) / 7 - 3)
      rw [jI_cl (by omega) (by omega), mOK_at H0 (by omega) (by omega), jI_eq (by omega) (by omega) (by omega) (by omega)]
      refine ⟨fun e => bad (fun k => e (by rw [k]; congr 1; omega)), fun e => c56 _ _ (fun z hz => ?_)⟩
      rw [jI_n, jI_add] at hz
      rw [hz]
      refine ih.1 (fun j hj => ?_)
      by_cases hji : j = i
      · rw [hji]; exact e
      · exact hB j (by omega)
  exact (key 49 0 rfl).1 (fun j hj => absurd hj (by omega))
theorem M_sameTurn {σ : cdS} {k r : Int} {d : Int → Int → Int} (H : mOK σ k r d) {Q : Int32 → Prop} (hQ : Q (jI (LT d))) : wp_X6_sameTurn (jI k) σ Q := by
  intro P hP
  unfold LT at hQ
  refine hP _ ⟨fun k => absurd k (by decide), fun _ => M_isSameTurned H (q := 1) (by omega) (by omega) (fun k => ⟨fun _ => ?_, fun e => absurd e (by decide)⟩) (fun k => ⟨fun e => absurd rfl e, fun _ z hz => ?_⟩)⟩
  · rw [cIf_p k] at hQ; exact hQ
  rw [cIf_n k] at hQ
  rw [hz]
  refine hP _ ⟨fun k => absurd k (by decide), fun _ => M_isSameTurned H (q := 2) (by omega) (by omega) (fun k => ⟨fun _ => ?_, fun e => absurd e (by decide)⟩) (fun k => ⟨fun e => absurd rfl e, fun _ z hz => ?_⟩)⟩
  · rw [cIf_p k] at hQ; exact hQ
  rw [cIf_n k] at hQ
  rw [hz]
  refine hP _ ⟨fun k => absurd k (by decide), fun _ => M_isSameTurned H (q := 3) (by omega) (by omega) (fun k => ⟨fun _ => ?_, fun e => absurd e (by decide)⟩) (fun k => ⟨fun e => absurd rfl e, fun _ z hz => ?_⟩)⟩
  · rw [cIf_p k] at hQ; exact hQ
  rw [cIf_n k] at hQ
  rw [hz]
  exact hP _ ⟨fun _ => hQ, fun k => absurd (by decide) k⟩
theorem M_headNow {σ : cdS} {k r : Int} {d : Int → Int → Int} (H : mOK σ k r d) {w : Int} (w0 : 0 ≤ w) (w4 : w ≤ 4) {Q : Int32 → Prop} (hQ : Q (jI (HT r d w))) : wp_X6_headNow (jI k) (jI w) σ Q := by
  have H0 := H
  obtain ⟨k0, k5, hD, hs, -⟩ := H
  unfold wp_X6_headNow
  simp only [jI_n, jI_neg, jI_add, jI_sub, jI_mul]
  unfold HT at hQ
  rw [jI_eq (by omega) (by omega) (by omega) (by omega), jI_eq (by omega) (by omega) (by omega) (by omega), jI_eq (by omega) (by omega) (by omega) (by omega), jI_eq (by omega) (by omega) (by omega) (by omega)]
  refine ⟨fun e => ?_, fun e => ⟨fun e1 => ?_, fun e1 => ⟨fun e2 => ?_, fun e2 => ⟨fun e3 => ?_, fun e3 => ?_⟩⟩⟩⟩
  · rw [if_pos e] at hQ
    refine ⟨(jI_in (by omega) (by omega)).mpr (by omega), ?_⟩
    rw [jI_cl (by omega) (by omega), hs]
    exact hQ
  · rw [if_neg e, if_pos e1] at hQ
    exact M_thrownBy H0 hQ
  · rw [if_neg e, if_neg e1, if_pos e2] at hQ
    exact M_deepest H0 hQ
  · rw [if_neg e, if_neg e1, if_neg e2, if_pos e3] at hQ
    exact M_sameTurn H0 hQ
  · rw [if_neg e, if_neg e1, if_neg e2, if_neg e3] at hQ
    refine M_isSameMirrored H0 (fun k => ⟨fun z => absurd z (by decide), fun _ => ?_⟩) (fun k => ⟨fun _ => ?_, fun z => absurd rfl z⟩)
    · rw [cIf_p k] at hQ; exact hQ
    · rw [cIf_n k] at hQ; exact hQ
