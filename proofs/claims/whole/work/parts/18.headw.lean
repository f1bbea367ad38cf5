/-! THE CLASS's HEAD: what its writes do. fr n σ σ': but for the cells of head n nothing has changed. -/
def frH (n : Nat) (σ σ' : cdS) : Prop := (∀ a, a ≠ 9 + n → a ≠ 14 + n → σ'.1 a = σ.1 a) ∧ σ'.2 = σ.2
def frC (c : Nat) (σ σ' : cdS) : Prop := (∀ a, a ≠ c → σ'.1 a = σ.1 a) ∧ σ'.2 = σ.2
theorem frC_rf {c : Nat} {σ : cdS} : frC c σ σ := ⟨fun _ _ => rfl, rfl⟩
theorem frC_U {c j : Nat} {v : Int32} {σ σ' : cdS} (h : frC c σ σ') : frC c σ (cdU σ' c j v) := ⟨fun a ha => by rw [cdU_ne ha]; exact h.1 a ha, h.2⟩
def ix (r x y : Int) : Nat := ((r - y) * (2 * r + 1) + r + x).toNat
theorem ix_b {r x y : Int} (r1 : 1 ≤ r) (r3 : r ≤ 3) (x1 : -r ≤ x) (x2 : x ≤ r) (y1 : -r ≤ y) (y2 : y ≤ r) : 0 ≤ (r - y) * (2 * r + 1) + r + x ∧ (r - y) * (2 * r + 1) + r + x < 49 := by
  rcases (show r = 1 ∨ r = 2 ∨ r = 3 by omega) with rfl | rfl | rfl <;> omega
theorem ix_i {r x y x' y' : Int} (r1 : 1 ≤ r) (r3 : r ≤ 3) (x1 : -r ≤ x) (x2 : x ≤ r) (y1 : -r ≤ y) (y2 : y ≤ r) (x1' : -r ≤ x') (x2' : x' ≤ r) (y1' : -r ≤ y') (y2' : y' ≤ r) (h : ix r x y = ix r x' y') : x = x' ∧ y = y' := by
  unfold ix at h
  rcases (show r = 1 ∨ r = 2 ∨ r = 3 by omega) with rfl | rfl | rfl <;> omega
theorem L_put {σ : cdS} {h : Nat} {r x y : Int} {v : Int32} (h5 : h < 5) (hs : σ.1 (9 + h) 1 = jI (2 * r + 1)) (r1 : 1 ≤ r) (r3 : r ≤ 3) (x1 : -r ≤ x) (x2 : x ≤ r) (y1 : -r ≤ y) (y2 : y ≤ r) {Q : cdS → Prop} (hQ : Q (cdU σ (14 + h) (ix r x y) v)) : wp_X2_put h (jI x) (jI y) v σ Q := by
  refine ⟨h5, h5, ?_⟩
  rw [hs]
  simp only [jI_n, jI_neg, jI_add, jI_sub, jI_mul]
  rw [jI_divP (by omega) (by omega) (by omega) (by omega), show (2 * r + 1 - 1) / 2 = r by omega]
  simp only [jI_n, jI_neg, jI_add, jI_sub, jI_mul]
  refine L_isWithin (by omega) (by omega) (by omega) (by omega) (by omega) (by omega) (fun hx => ⟨fun h => absurd h (by decide), fun _ => ?_⟩) (fun hx => absurd ⟨x1, x2⟩ hx)
  refine L_isWithin (by omega) (by omega) (by omega) (by omega) (by omega) (by omega) (fun hx => ⟨fun h => absurd h (by decide), fun _ => ?_⟩) (fun hx => absurd ⟨y1, y2⟩ hx)
  have hb := ix_b r1 r3 x1 x2 y1 y2
  refine ⟨(jI_in (by omega) (by omega)).mpr hb, fun σ1 e => ?_⟩
  rw [jI_cl (by omega) (by omega)] at e
  rw [e]
  exact hQ
theorem L_resize {σ : cdS} {h : Nat} {s : Int} (h5 : h < 5) (s1 : 1 ≤ s) (s7 : s ≤ 7) {Q : cdS → Prop} (hQ : Q (cdU σ (9 + h) 1 (jI s))) : wp_X2_resize h (jI s) σ Q := by
  refine ⟨h5, fun σ1 e => ?_⟩
  simp only [jI_n, jI_neg, jI_add, jI_sub, jI_mul] at e
  rw [show (if jI s < jI 7 then jI s else jI 7) = jI s by
    by_cases q : s < 7
    · rw [if_pos ((jI_lt (by omega) (by omega) (by omega) (by omega)).mpr q)]
    · rw [if_neg (fun k => q ((jI_lt (by omega) (by omega) (by omega) (by omega)).mp k)), show s = 7 by omega]] at e
  rw [show (if jI 1 < jI s then jI s else jI 1) = jI s by
    by_cases q : 1 < s
    · rw [if_pos ((jI_lt (by omega) (by omega) (by omega) (by omega)).mpr q)]
    · rw [if_neg (fun k => q ((jI_lt (by omega) (by omega) (by omega) (by omega)).mp k)), show s = 1 by omega]] at e
  rw [e]
  exact hQ
/-- a square is written, row by row from the lowest -/
theorem fillsq {n0 : Nat} {r : Int} (r1 : 1 ≤ r) (r3 : r ≤ 3) {e : Int → Int → Int} {σ0 : cdS} {P19 : Int → cdS → Prop} {P31 : Int → Int → cdS → Prop}
    (hin : ∀ y x σ, -r ≤ y → y ≤ r → -r ≤ x → x ≤ r → frC (14 + n0) σ0 σ → P31 y (x + 1) (cdU σ (14 + n0) (ix r x y) (jI (e x y))) → P31 y x σ)
    (hrow : ∀ y σ, -r ≤ y → y ≤ r → P19 (y + 1) σ → P31 y (r + 1) σ) (hst : ∀ y σ, -r ≤ y → y ≤ r → P31 y (-r) σ → P19 y σ)
    (hend : ∀ σ, frC (14 + n0) σ0 σ → (∀ x y, -r ≤ x → x ≤ r → -r ≤ y → y ≤ r → σ.1 (14 + n0) (ix r x y) = jI (e x y)) → P19 (r + 1) σ) : P19 (-r) σ0 := by
  have inner : ∀ (y : Int), -r ≤ y → y ≤ r → (∀ σ, frC (14 + n0) σ0 σ → (∀ x' y', -r ≤ x' → x' ≤ r → -r ≤ y' → y' < y + 1 → σ.1 (14 + n0) (ix r x' y') = jI (e x' y')) → P19 (y + 1) σ) →
      ∀ (n : Nat) (x : Int) (σ : cdS), x + n = r + 1 → -r ≤ x → frC (14 + n0) σ0 σ → (∀ x' y', -r ≤ x' → x' ≤ r → -r ≤ y' → y' ≤ y → (y' < y ∨ x' < x) → σ.1 (14 + n0) (ix r x' y') = jI (e x' y')) → P31 y x σ := by
    intro y y1 y2 hn n
    induction n with
    | zero =>
      intro x σ hx hx1 hf hB
      rw [show x = r + 1 by omega]
      exact hrow y σ y1 y2 (hn σ hf (fun x' y' a b c d => hB x' y' a b c (by omega) (by omega)))
    | succ n ih =>
      intro x σ hx hx1 hf hB
      refine hin y x σ y1 y2 hx1 (by omega) hf (ih (x + 1) _ (by omega) (by omega) (frC_U hf) (fun x' y' a b c d k => ?_))
      by_cases hp : ix r x' y' = ix r x y
      · obtain ⟨rfl, rfl⟩ := ix_i r1 r3 a b c (by omega) hx1 (by omega) y1 y2 hp
        rw [cdU_s]
      · rw [cdU_j hp]
        refine hB x' y' a b c d ?_
        by_cases hxx : x' = x
        · by_cases hyy : y' = y
          · exact absurd (by rw [hxx, hyy]) hp
          · omega
        · omega
  have outer : ∀ (n : Nat) (y : Int) (σ : cdS), y + n = r + 1 → -r ≤ y → frC (14 + n0) σ0 σ → (∀ x' y', -r ≤ x' → x' ≤ r → -r ≤ y' → y' < y → σ.1 (14 + n0) (ix r x' y') = jI (e x' y')) → P19 y σ := by
    intro n
    induction n with
    | zero =>
      intro y σ hy y1 hf hB
      rw [show y = r + 1 by omega]
      exact hend σ hf (fun x' y' a b c d => hB x' y' a b c (by omega))
    | succ n ih =>
      intro y σ hy y1 hf hB
      exact hst y σ y1 (by omega) (inner y y1 (by omega) (fun σ' hf' hB' => ih (y + 1) σ' (by omega) (by omega) hf' hB') (2 * r + 1).toNat (-r) σ (by omega) (by omega) hf (fun x' y' a b c d k => hB x' y' a b c (by omega)))
  exact outer (2 * r + 1).toNat (-r) σ0 (by omega) (by omega) frC_rf (fun x' y' _ _ a b => absurd a (by omega))
theorem hOK_fr {σ σ' : cdS} {h n : Nat} {r : Int} {d : Int → Int → Int} (H : hOK σ h r d) (hn : h ≠ n) (h5 : n < 5) (f : frH n σ σ') : hOK σ' h r d := by
  obtain ⟨a, b, c, e⟩ := H
  exact ⟨a, b, by rw [f.1 _ (by omega) (by omega)]; exact c, by rw [f.1 _ (by omega) (by omega)]; exact e⟩
theorem frH_of {n : Nat} {s : Int32} {σ σ' : cdS} (h : frC (14 + n) (cdU σ (9 + n) 1 s) σ') : frH n σ σ' := ⟨fun a h1 h2 => by rw [h.1 a h2, cdU_ne h1], h.2⟩
theorem dOK_tq {r : Int} {d : Int → Int → Int} (H : dOK r d) (q : Int) (m : Prop) (hm : Decidable m) : dOK r (fun x y => tq d q (if m then x else -x) y) := by
  obtain ⟨r1, r3, hz, h35⟩ := H
  refine ⟨r1, r3, fun x y hx => ?_, fun x y => ?_⟩
  · show tq d q (if m then x else -x) y = 0
    have : ∀ x' y' : Int, (x' < -r ∨ r < x' ∨ y' < -r ∨ r < y') → tq d q x' y' = 0 := fun x' y' h => by
      unfold tq
      split
      · exact hz _ _ (by omega)
      · split
        · exact hz _ _ (by omega)
        · split
          · exact hz _ _ (by omega)
          · exact hz _ _ (by omega)
    exact this _ _ (by split <;> omega)
  · show 0 ≤ tq d q (if m then x else -x) y ∧ tq d q (if m then x else -x) y ≤ 35
    unfold tq
    split
    · exact h35 _ _
    · split
      · exact h35 _ _
      · split
        · exact h35 _ _
        · exact h35 _ _
theorem L_copyTurned {σ : cdS} {n0 n1 : Nat} {r : Int} {d : Int → Int → Int} (H : hOK σ n1 r d) (h5 : n0 < 5) (hne : n1 ≠ n0) {q : Int} (q0 : 0 ≤ q) (q3 : q ≤ 3) {m : Int32} {Q : cdS → Prop}
    (hQ : ∀ σ', frH n0 σ σ' → hOK σ' n0 r (fun x y => tq d q (if m = 0 then x else -x) y) → Q σ') : wp_X2_copyTurned n0 n1 (jI q) m σ Q := by
  have H0 := H
  obtain ⟨h5', hD, hs, hd⟩ := H
  have hD0 := hD
  obtain ⟨r1, r3, hz, h35⟩ := hD
  intro P19 P31 P57 c19 c31 c57
  refine ⟨h5', h5, ?_⟩
  rw [hs]
  refine L_resize h5 (by omega) (by omega) ?_
  have hr : wp_X2_reach n0 (cdU σ (9 + n0) 1 (jI (2 * r + 1))) (fun r_5 => ∀ x5_7 : Int32, x5_7 = -r_5 → P19 r_5 x5_7 (cdU σ (9 + n0) 1 (jI (2 * r + 1)))) := by
    refine ⟨h5, ?_⟩
    rw [cdU_s]
    simp only [jI_n, jI_neg, jI_add, jI_sub, jI_mul]
    rw [jI_divP (by omega) (by omega) (by omega) (by omega), show (2 * r + 1 - 1) / 2 = r by omega]
    intro x5 e5
    rw [e5, jI_neg]
    refine fillsq (n0 := n0) (e := fun x y => tq d q (if m = 0 then x else -x) y) (P19 := fun y σ => P19 (jI r) (jI y) σ) (P31 := fun y x σ => P31 (jI r) (jI y) (jI x) σ) r1 r3 ?_ ?_ ?_ ?_
    · intro y x σ' y1 y2 x1 x2 hf k
      refine c31 _ _ _ _ ⟨fun k => absurd ((jI_lt (by omega) (by omega) (by omega) (by omega)).mp k) (by omega), fun _ => ?_⟩
      have fin : P57 (jI r) (jI y) (jI x) (jI (if m = 0 then x else -x)) (jI q) (jI y) (jI x) σ' := by
        have H1 : hOK σ' n1 r d := hOK_fr H0 hne h5 (frH_of hf)
        have hb : -3 ≤ (if m = 0 then x else -x) ∧ (if m = 0 then x else -x) ≤ 3 := by split <;> omega
        refine c57 _ _ _ _ _ _ _ _ ⟨h5', L_turnedAt H1 q0 q3 (by omega) (by omega) (by omega) (by omega) ⟨h5, L_put h5 (by rw [hf.1 _ (by omega), cdU_s]) r1 r3 x1 x2 y1 y2 (fun z hz => ?_)⟩⟩
        simp only [jI_n, jI_neg, jI_add, jI_sub, jI_mul] at hz
        rw [hz]
        exact k
      by_cases hm : m = 0
      · rw [if_pos hm] at fin
        exact ⟨fun _ => fin, fun z => absurd hm z⟩
      · rw [if_neg hm] at fin
        rw [jI_neg]
        exact ⟨fun z => absurd z hm, fun _ => fin⟩
    · intro y σ' y1 y2 k
      refine c31 _ _ _ _ ⟨fun _ z hz => ?_, fun k => absurd ((jI_lt (by omega) (by omega) (by omega) (by omega)).mpr (by omega)) k⟩
      simp only [jI_n, jI_neg, jI_add, jI_sub, jI_mul] at hz
      rw [hz]
      exact k
    · intro y σ' y1 y2 k
      refine c19 _ _ _ ⟨fun k => absurd ((jI_lt (by omega) (by omega) (by omega) (by omega)).mp k) (by omega), fun _ z hz => ?_⟩
      rw [hz, jI_neg]
      exact k
    · intro σ' hf hall
      refine c19 _ _ _ ⟨fun _ => hQ σ' (frH_of hf) ⟨h5, dOK_tq hD0 q _ _, by rw [hf.1 _ (by omega), cdU_s], hall⟩, fun k => absurd ((jI_lt (by omega) (by omega) (by omega) (by omega)).mpr (by omega)) k⟩
  exact hr
def bd (r : Int) (d : Int → Int → Int) (p q : Int) : Int → Int → Int := fun x y => if -r ≤ x ∧ x ≤ r ∧ -r ≤ y ∧ y ≤ r then d (x - p) (y - q) else 0
theorem dOK_bd {r : Int} {d : Int → Int → Int} (H : dOK r d) (p q : Int) : dOK r (bd r d p q) := by
  obtain ⟨r1, r3, hz, h35⟩ := H
  refine ⟨r1, r3, fun x y hx => if_neg (by omega), fun x y => ?_⟩
  unfold bd
  split
  · exact h35 _ _
  · omega
theorem L_copyBent {σ : cdS} {n0 n1 : Nat} {r : Int} {d : Int → Int → Int} (H : hOK σ n1 r d) (h5 : n0 < 5) (hne : n1 ≠ n0) {p q : Int} (p0 : -2 ≤ p) (p3 : p ≤ 2) (q0 : -2 ≤ q) (q3 : q ≤ 2) {Q : cdS → Prop}
    (hQ : ∀ σ', frH n0 σ σ' → hOK σ' n0 r (bd r d p q) → Q σ') : wp_X2_copyBent n0 n1 (jI p) (jI q) σ Q := by
  have H0 := H
  obtain ⟨h5', hD, hs, hd⟩ := H
  have hD0 := hD
  obtain ⟨r1, r3, hz, h35⟩ := hD
  intro P19 P31 c19 c31
  refine ⟨h5', h5, ?_⟩
  rw [hs]
  refine L_resize h5 (by omega) (by omega) ⟨h5, ?_⟩
  rw [cdU_s]
  simp only [jI_n, jI_neg, jI_add, jI_sub, jI_mul]
  rw [jI_divP (by omega) (by omega) (by omega) (by omega), show (2 * r + 1 - 1) / 2 = r by omega]
  intro x5 e5
  rw [jI_neg] at e5
  rw [e5]
  refine fillsq (n0 := n0) (e := bd r d p q) (P19 := fun y σ => P19 (jI r) (jI y) σ) (P31 := fun y x σ => P31 (jI r) (jI y) (jI x) σ) r1 r3 ?_ ?_ ?_ ?_
  · intro y x σ' y1 y2 x1 x2 hf k
    refine c31 _ _ _ _ ⟨fun k => absurd ((jI_lt (by omega) (by omega) (by omega) (by omega)).mp k) (by omega), fun _ => ⟨h5', ?_⟩⟩
    have H1 : hOK σ' n1 r d := hOK_fr H0 hne h5 (frH_of hf)
    rw [jI_sub, jI_sub]
    refine L_depthAt H1 (by omega) (by omega) (by omega) (by omega) ⟨h5, L_put h5 (by rw [hf.1 _ (by omega), cdU_s]) r1 r3 x1 x2 y1 y2 (fun z hz => ?_)⟩
    simp only [jI_n, jI_neg, jI_add, jI_sub, jI_mul] at hz
    rw [hz]
    have e : bd r d p q x y = d (x - p) (y - q) := if_pos (by omega)
    rw [e] at k
    exact k
  · intro y σ' y1 y2 k
    refine c31 _ _ _ _ ⟨fun _ z hz => ?_, fun k => absurd ((jI_lt (by omega) (by omega) (by omega) (by omega)).mpr (by omega)) k⟩
    simp only [jI_n, jI_neg, jI_add, jI_sub, jI_mul] at hz
    rw [hz]
    exact k
  · intro y σ' y1 y2 k
    refine c19 _ _ _ ⟨fun k => absurd ((jI_lt (by omega) (by omega) (by omega) (by omega)).mp k) (by omega), fun _ z hz => ?_⟩
    rw [hz, jI_neg]
    exact k
  · intro σ' hf hall
    exact c19 _ _ _ ⟨fun _ => hQ σ' (frH_of hf) ⟨h5, dOK_bd hD0 p q, by rw [hf.1 _ (by omega), cdU_s], hall⟩, fun k => absurd ((jI_lt (by omega) (by omega) (by omega) (by omega)).mpr (by omega)) k⟩
