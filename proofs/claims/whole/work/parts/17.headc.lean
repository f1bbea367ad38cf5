/-! THE CLASS's HEAD: what its reads answer. -/
theorem tN1 : (2 * 1 + 1 : Int).toNat = 3 := rfl
theorem tN2 : (2 * 2 + 1 : Int).toNat = 5 := rfl
theorem tN3 : (2 * 3 + 1 : Int).toNat = 7 := rfl
theorem hOK_rng {σ : cdS} {h : Nat} {r : Int} {d : Int → Int → Int} (H : hOK σ h r d) (i : Nat) (hi : (i : Int) < (2 * r + 1) * (2 * r + 1)) : ∃ x y : Int, -r ≤ x ∧ x ≤ r ∧ -r ≤ y ∧ y ≤ r ∧ i = ((r - y) * (2 * r + 1) + r + x).toNat ∧ σ.1 (14 + h) i = jI (d x y) := by
  obtain ⟨-, ⟨r1, r3, -, -⟩, -, hd⟩ := H
  have key : ∃ x y : Int, -r ≤ x ∧ x ≤ r ∧ -r ≤ y ∧ y ≤ r ∧ i = ((r - y) * (2 * r + 1) + r + x).toNat := by
    refine ⟨(i : Int) % (2 * r + 1) - r, r - (i : Int) / (2 * r + 1), ?_⟩
    rcases (show r = 1 ∨ r = 2 ∨ r = 3 by omega) with rfl | rfl | rfl <;> (refine ⟨?_, ?_, ?_, ?_, ?_⟩ <;> omega)
  obtain ⟨x, y, h1, h2, h3, h4, h5⟩ := key
  exact ⟨x, y, h1, h2, h3, h4, h5, by rw [h5]; exact hd x y h1 h2 h3 h4⟩
theorem sq_b {r : Int} (r1 : 1 ≤ r) (r3 : r ≤ 3) : (2 * r + 1) * (2 * r + 1) ≤ 49 ∧ 9 ≤ (2 * r + 1) * (2 * r + 1) := by
  rcases (show r = 1 ∨ r = 2 ∨ r = 3 by omega) with rfl | rfl | rfl <;> omega
theorem L_thrown {σ : cdS} {h : Nat} {r : Int} {d : Int → Int → Int} (H : hOK σ h r d) {Q : Int32 → Prop} (hQ : Q (jI (TH d))) : wp_X2_thrown h σ Q := by
  have H0 := H
  obtain ⟨h5, hD, hs, hd⟩ := H
  have hD0 := hD
  obtain ⟨r1, r3, hz, h35⟩ := hD
  have hb := sq_b r1 r3
  intro P hP
  have key : ∀ (n i : Nat), (i : Int) + n = (2 * r + 1) * (2 * r + 1) → P (jI (sm i (fun i => (σ.1 (14 + h) i).toInt))) (jI i) := by
    intro n
    induction n with
    | zero =>
      intro i hi
      refine hP _ _ ⟨h5, ?_⟩
      rw [hs]
      simp only [jI_n, jI_neg, jI_add, jI_sub, jI_mul]
      refine ⟨fun _ => ?_, fun q => absurd ((jI_le (by omega) (by omega) (by omega) (by omega)).mpr (by omega)) q⟩
      have e : sm i (fun i => (σ.1 (14 + h) i).toInt) = TH d := by
        have hi2 : i = (2 * r + 1).toNat * (2 * r + 1).toNat := by
          rcases (show r = 1 ∨ r = 2 ∨ r = 3 by omega) with rfl | rfl | rfl <;> simp only [tN1, tN2, tN3] <;> omega
        rw [hi2, sm_mul]
        unfold TH
        rw [← S7_rev (r := r) (f := fun y => S7 (fun x => d x y)) r1 r3 (fun y hy => by
          have : ∀ x, d x y = 0 := fun x => hz x y (by omega)
          simp [S7, this])]
        refine sm_c (fun i hi => ?_)
        rw [← S7_r (r := r) (f := fun x => d x (r - i)) r1 r3 (fun x hx => hz _ _ (by omega))]
        refine sm_c (fun j hj => ?_)
        have hx := hd ((j : Int) - r) (r - i) (by omega) (by omega) (by omega) (by omega)
        have hp : ((r - (r - (i : Int))) * (2 * r + 1) + r + ((j : Int) - r)).toNat = i * (2 * r + 1).toNat + j := by
          rcases (show r = 1 ∨ r = 2 ∨ r = 3 by omega) with rfl | rfl | rfl <;> simp only [tN1, tN2, tN3] <;> omega
        rw [hp] at hx
        have hv := h35 ((j : Int) - r) (r - i)
        rw [hx, jI_toInt (by omega) (by omega)]
      rw [e]
      exact hQ
    | succ n ih =>
      intro i hi
      refine hP _ _ ⟨h5, ?_⟩
      rw [hs]
      simp only [jI_n, jI_neg, jI_add, jI_sub, jI_mul]
      refine ⟨fun q => absurd ((jI_le (by omega) (by omega) (by omega) (by omega)).mp q) (by omega), fun _ => ?_⟩
      refine ⟨(jI_in (by omega) (by omega)).mpr ⟨by omega, by omega⟩, fun x1 e1 x2 e2 => ?_⟩
      have := ih (i + 1) (by omega)
      rw [jI_cl (by omega) (by omega)] at e1
      rw [e1, e2]
      simp only [sm] at this
      rw [← jI_add, jI_of] at this
      exact this
  have := key ((2 * r + 1) * (2 * r + 1)).toNat 0 (by omega)
  exact this
theorem L_greatest {σ : cdS} {h : Nat} {r : Int} {d : Int → Int → Int} (H : hOK σ h r d) {Q : Int32 → Prop} (hQ : Q (jI (MX d))) : wp_X2_greatest h σ Q := by
  have H0 := H
  obtain ⟨h5, hD, hs, hd⟩ := H
  obtain ⟨r1, r3, hz, h35⟩ := hD
  have hb := sq_b r1 r3
  intro P hP
  have key : ∀ (n i : Nat) (M : Int), (i : Int) + n = (2 * r + 1) * (2 * r + 1) → 0 ≤ M → M ≤ 35 → (∀ j, j < i → (σ.1 (14 + h) j).toInt ≤ M) → (M = 0 ∨ ∃ x y, d x y = M) → P (jI M) (jI i) := by
    intro n
    induction n with
    | zero =>
      intro i M hi m0 m1 hM hE
      refine hP _ _ ⟨h5, ?_⟩
      rw [hs]
      simp only [jI_n, jI_neg, jI_add, jI_sub, jI_mul]
      refine ⟨fun _ => ?_, fun q => absurd ((jI_le (by omega) (by omega) (by omega) (by omega)).mpr (by omega)) q⟩
      rw [MX_e (fun x y => (h35 x y).1) (M := M) ⟨fun x y => ?_, hE⟩] at hQ
      · exact hQ
      · by_cases hx : -r ≤ x ∧ x ≤ r ∧ -r ≤ y ∧ y ≤ r
        · have e := hd x y hx.1 hx.2.1 hx.2.2.1 hx.2.2.2
          have hj := hM ((r - y) * (2 * r + 1) + r + x).toNat (by
            rcases (show r = 1 ∨ r = 2 ∨ r = 3 by omega) with rfl | rfl | rfl <;> omega)
          have hv := h35 x y
          rw [e, jI_toInt (by omega) (by omega)] at hj
          exact hj
        · rw [hz x y (by omega)]
          exact m0
    | succ n ih =>
      intro i M hi m0 m1 hM hE
      refine hP _ _ ⟨h5, ?_⟩
      rw [hs]
      simp only [jI_n, jI_neg, jI_add, jI_sub, jI_mul]
      refine ⟨fun q => absurd ((jI_le (by omega) (by omega) (by omega) (by omega)).mp q) (by omega), fun _ => ?_⟩
      refine ⟨(jI_in (by omega) (by omega)).mpr ⟨by omega, by omega⟩, fun x1 e1 x2 e2 => ?_⟩
      rw [jI_cl (by omega) (by omega)] at e1
      obtain ⟨x, y, -, -, -, -, -, ev⟩ := hOK_rng H0 i (by omega)
      have hv := h35 x y
      rw [show ((i : Int).toNat) = i by omega, ev] at e1
      rw [e1, e2]
      have hlast : ∀ M', M ≤ M' → d x y ≤ M' → ∀ j, j < i + 1 → (σ.1 (14 + h) j).toInt ≤ M' := by
        intro M' q1 q2 j hj
        by_cases hji : j = i
        · rw [hji, ev, jI_toInt (by omega) (by omega)]; exact q2
        · exact Int.le_trans (hM j (by omega)) q1
      by_cases hlt : M < d x y
      · rw [if_pos ((jI_lt (by omega) (by omega) (by omega) (by omega)).mpr hlt)]
        exact ih (i + 1) (d x y) (by omega) (by omega) (by omega) (hlast _ (by omega) (by omega)) (Or.inr ⟨x, y, rfl⟩)
      · rw [if_neg (fun q => hlt ((jI_lt (by omega) (by omega) (by omega) (by omega)).mp q))]
        exact ih (i + 1) M (by omega) m0 m1 (hlast _ (by omega) (by omega)) hE
  exact key ((2 * r + 1) * (2 * r + 1)).toNat 0 0 (by omega) (by omega) (by omega) (fun j hj => absurd hj (by omega)) (Or.inl rfl)
theorem L_turnedAt {σ : cdS} {h : Nat} {r : Int} {d : Int → Int → Int} (H : hOK σ h r d) {q x y : Int} (q0 : 0 ≤ q) (q3 : q ≤ 3) (x1 : -2000000 ≤ x) (x2 : x ≤ 2000000) (y1 : -2000000 ≤ y) (y2 : y ≤ 2000000) {Q : Int32 → Prop} (hQ : Q (jI (tq d q x y))) : wp_X2_turnedAt h (jI q) (jI x) (jI y) σ Q := by
  have h5 := H.1
  unfold wp_X2_turnedAt
  simp only [jI_n, jI_neg, jI_add, jI_sub, jI_mul]
  unfold tq at hQ
  rw [jI_eq (by omega) (by omega) (by omega) (by omega), jI_eq (by omega) (by omega) (by omega) (by omega), jI_eq (by omega) (by omega) (by omega) (by omega)]
  refine ⟨fun e => ?_, fun e => ⟨fun e2 => ?_, fun e2 => ⟨fun e3 => ?_, fun e3 => ?_⟩⟩⟩
  · rw [if_pos e] at hQ
    exact ⟨h5, L_depthAt H (by omega) (by omega) (by omega) (by omega) hQ⟩
  · rw [if_neg e, if_pos e2] at hQ
    exact ⟨h5, L_depthAt H (by omega) (by omega) (by omega) (by omega) hQ⟩
  · rw [if_neg e, if_neg e2, if_pos e3] at hQ
    exact ⟨h5, L_depthAt H (by omega) (by omega) (by omega) (by omega) hQ⟩
  · rw [if_neg e, if_neg e2, if_neg e3] at hQ
    exact ⟨h5, L_depthAt H (by omega) (by omega) (by omega) (by omega) hQ⟩

/-- two runs, one within the other, both from -r to r, that may end early -/
theorem L_isSame {σ : cdS} {h : Nat} {r : Int} {d : Int → Int → Int} (H : hOK σ h r d) {q m : Int} (q0 : 0 ≤ q) (q3 : q ≤ 3) (hm : m = 0 ∨ m = 1) {Q : Int32 → Prop}
    (h1 : (∀ x y, -r ≤ x → x ≤ r → -r ≤ y → y ≤ r → d x y = tq d q (if m = 0 then x else -x) y) → Q 1) (h0 : ¬ (∀ x y, -r ≤ x → x ≤ r → -r ≤ y → y ≤ r → d x y = tq d q (if m = 0 then x else -x) y) → Q 0) : wp_X2_isSame h (jI q) (jI m) σ Q := by
  have H0 := H
  obtain ⟨h5, ⟨r1, r3, hz, h35⟩, hs, hd⟩ := H
  intro P9 P19 P47 c9 c19 c47
  refine ⟨h5, L_reach H0 (fun x4 e4 => ?_)⟩
  rw [e4, jI_neg]
  have inner : ∀ (y : Int), -r ≤ y → y ≤ r → ((∀ x, -r ≤ x → x ≤ r → d x y = tq d q (if m = 0 then x else -x) y) → P9 (jI r) (jI (y + 1))) → ∀ (n : Nat) (x : Int), x + n = r + 1 → -r ≤ x → (∀ x', -r ≤ x' → x' < x → d x' y = tq d q (if m = 0 then x' else -x') y) → P19 (jI r) (jI y) (jI x) := by
    intro y y1 y2 hn n
    induction n with
    | zero =>
      intro x hx hx1 hB
      refine c19 _ _ _ ⟨fun _ z hz => ?_, fun k => absurd ((jI_lt (by omega) (by omega) (by omega) (by omega)).mpr (by omega)) k⟩
      simp only [jI_n, jI_neg, jI_add, jI_sub, jI_mul] at hz
      rw [hz]
      exact hn (fun x' a b => hB x' a (by omega))
    | succ n ih =>
      intro x hx hx1 hB
      refine c19 _ _ _ ⟨fun k => absurd ((jI_lt (by omega) (by omega) (by omega) (by omega)).mp k) (by omega), fun _ => ⟨h5, L_depthAt H0 (by omega) (by omega) (by omega) (by omega) ?_⟩⟩
      have fin : P47 (jI r) (jI y) (jI x) (jI (if m = 0 then x else -x)) (jI q) (jI (d x y)) := by
        refine c47 _ _ _ _ _ _ ⟨h5, ?_⟩
        have hb : -3 ≤ (if m = 0 then x else -x) ∧ (if m = 0 then x else -x) ≤ 3 := by split <;> omega
        refine L_turnedAt H0 q0 q3 (by omega) (by omega) (by omega) (by omega) ?_
        have b1 := h35 x y
        have b2 : 0 ≤ tq d q (if m = 0 then x else -x) y ∧ tq d q (if m = 0 then x else -x) y ≤ 35 := by
          unfold tq
          split
          · exact h35 _ _
          · split
            · exact h35 _ _
            · split
              · exact h35 _ _
              · exact h35 _ _
        rw [jI_eq (by omega) (by omega) (by omega) (by omega)]
        refine ⟨fun e z hz => ?_, fun e => h0 (fun k => e (k x y (by omega) (by omega) y1 y2))⟩
        simp only [jI_n, jI_neg, jI_add, jI_sub, jI_mul] at hz
        rw [hz]
        refine ih (x + 1) (by omega) (by omega) (fun x' a b => ?_)
        by_cases hxx : x' = x
        · rw [hxx]; exact e
        · exact hB x' a (by omega)
      rcases hm with rfl | rfl
      · rw [if_pos rfl] at fin
        exact ⟨fun _ => fin, fun k => absurd rfl k⟩
      · rw [if_neg (by decide)] at fin
        simp only [jI_n, jI_neg, jI_add, jI_sub, jI_mul]
        exact ⟨fun k => absurd k (by decide), fun _ => fin⟩
  have outer : ∀ (n : Nat) (y : Int), y + n = r + 1 → -r ≤ y → (∀ x y', -r ≤ x → x ≤ r → -r ≤ y' → y' < y → d x y' = tq d q (if m = 0 then x else -x) y') → P9 (jI r) (jI y) := by
    intro n
    induction n with
    | zero =>
      intro y hy y1 hB
      exact c9 _ _ ⟨fun _ => h1 (fun x y' a b c e => hB x y' a b c (by omega)), fun k => absurd ((jI_lt (by omega) (by omega) (by omega) (by omega)).mpr (by omega)) k⟩
    | succ n ih =>
      intro y hy y1 hB
      refine c9 _ _ ⟨fun k => absurd ((jI_lt (by omega) (by omega) (by omega) (by omega)).mp k) (by omega), fun _ z hz => ?_⟩
      rw [hz, jI_neg]
      refine inner y y1 (by omega) (fun hrow => ih (y + 1) (by omega) (by omega) (fun x y' a b c e => ?_)) (2 * r + 1).toNat (-r) (by omega) (by omega) (fun x' a b => absurd a (by omega))
      by_cases hyy : y' = y
      · rw [hyy]; exact hrow x a b
      · exact hB x y' a b c (by omega)
  exact outer (2 * r + 1).toNat (-r) (by omega) (by omega) (fun x y' _ _ a b => absurd a (by omega))
theorem L_leastTurn {σ : cdS} {h : Nat} {r : Int} {d : Int → Int → Int} (H : hOK σ h r d) {Q : Int32 → Prop} (hQ : Q (jI (LT d))) : wp_X2_leastTurn h σ Q := by
  have h5 := H.1
  have step : ∀ (q : Int), 1 ≤ q → q ≤ 3 → ∀ (Q' : Int32 → Prop), (smQ d q → Q' 1) → (¬ smQ d q → Q' 0) → wp_X2_isSame h (jI q) (jI 0) σ Q' := fun q a b Q' h1 h0 => by
    refine L_isSame H (by omega) (by omega) (Or.inl rfl) (fun k => h1 (smQ_in H.2.1 (Int.le_refl r) (fun x y u v w z => k x y u v w z))) (fun k => h0 (fun k2 => k (fun x y _ _ _ _ => k2 x y)))
  intro P hP
  unfold LT at hQ
  refine hP _ ⟨fun k => absurd k (by decide), fun _ => ⟨h5, step 1 (by omega) (by omega) _ (fun k => ⟨fun e => absurd e (by decide), fun _ => ?_⟩) (fun k => ⟨fun _ z hz => ?_, fun e => absurd rfl e⟩)⟩⟩
  · rw [cIf_p k] at hQ; exact hQ
  rw [cIf_n k] at hQ
  rw [hz]
  refine hP _ ⟨fun k => absurd k (by decide), fun _ => ⟨h5, step 2 (by omega) (by omega) _ (fun k => ⟨fun e => absurd e (by decide), fun _ => ?_⟩) (fun k => ⟨fun _ z hz => ?_, fun e => absurd rfl e⟩)⟩⟩
  · rw [cIf_p k] at hQ; exact hQ
  rw [cIf_n k] at hQ
  rw [hz]
  refine hP _ ⟨fun k => absurd k (by decide), fun _ => ⟨h5, step 3 (by omega) (by omega) _ (fun k => ⟨fun e => absurd e (by decide), fun _ => ?_⟩) (fun k => ⟨fun _ z hz => ?_, fun e => absurd rfl e⟩)⟩⟩
  · rw [cIf_p k] at hQ; exact hQ
  rw [cIf_n k] at hQ
  rw [hz]
  exact hP _ ⟨fun _ => hQ, fun k => absurd (by decide) k⟩
theorem L_headtell {σ : cdS} {h : Nat} {r : Int} {d : Int → Int → Int} (H : hOK σ h r d) {w : Int} (w0 : 0 ≤ w) (w4 : w ≤ 4) {Q : Int32 → Prop} (hQ : Q (jI (HT r d w))) : wp_X2_tell h (jI w) σ Q := by
  have H0 := H
  obtain ⟨h5, hD, hs, -⟩ := H
  unfold wp_X2_tell
  simp only [jI_n, jI_neg, jI_add, jI_sub, jI_mul]
  unfold HT at hQ
  rw [jI_eq (by omega) (by omega) (by omega) (by omega), jI_eq (by omega) (by omega) (by omega) (by omega), jI_eq (by omega) (by omega) (by omega) (by omega), jI_eq (by omega) (by omega) (by omega) (by omega), jI_eq (by omega) (by omega) (by omega) (by omega)]
  refine ⟨fun e => ?_, fun e => ⟨fun e1 => ?_, fun e1 => ⟨fun e2 => ?_, fun e2 => ⟨fun e3 => ?_, fun e3 => ⟨fun e4 => ?_, fun e4 => absurd e4 (by omega)⟩⟩⟩⟩⟩
  · rw [if_pos e] at hQ
    exact ⟨h5, by rw [hs]; exact hQ⟩
  · rw [if_neg e, if_pos e1] at hQ
    exact ⟨h5, L_thrown H0 hQ⟩
  · rw [if_neg e, if_neg e1, if_pos e2] at hQ
    exact ⟨h5, L_greatest H0 hQ⟩
  · rw [if_neg e, if_neg e1, if_neg e2, if_pos e3] at hQ
    exact ⟨h5, L_leastTurn H0 hQ⟩
  · rw [if_neg e, if_neg e1, if_neg e2, if_neg e3] at hQ
    refine ⟨h5, L_isSame H0 (q := 0) (m := 1) (by omega) (by omega) (Or.inr rfl) (fun k => ⟨fun z => absurd z (by decide), fun _ => ?_⟩) (fun k => ⟨fun _ => ?_, fun z => absurd rfl z⟩)⟩
    · rw [cIf_p (smM_in hD (Int.le_refl r) (fun x y a b c e => k x y a b c e))] at hQ
      exact hQ
    · rw [cIf_n (fun k2 => k (fun x y _ _ _ _ => k2 x y))] at hQ
      exact hQ
