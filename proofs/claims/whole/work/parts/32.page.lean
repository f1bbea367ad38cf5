/-! THE PAGE: L letters c. A head of side s: rows of s figures, a slash between. -/
def fg (c : Int) : Prop := (48 ≤ c ∧ c ≤ 57) ∨ (97 ≤ c ∧ c ≤ 122)
def fv (c : Int) : Int := if c ≤ 57 then c - 48 else c - 97 + 10
def ft (c : Nat → Int) (s p : Nat) : Prop := (p % (s + 1) = s → c p = 47) ∧ (¬ p % (s + 1) = s → fg (c p))
def isS (s : Nat) : Prop := s = 3 ∨ s = 5 ∨ s = 7
def eF (L s : Nat) : Nat := if s * (s + 1) - 1 < L then s * (s + 1) - 1 else L
def isF (c : Nat → Int) (L s R : Nat) : Prop := R ≤ eF L s ∧ (∀ p, p < R → ft c s p) ∧ (R = eF L s ∨ ¬ ft c s R)
def isM (c : Nat → Int) (L p : Nat) : Prop := (∀ s, isS s → ∀ R, isF c L s R → R ≤ p) ∧ ∃ s, isS s ∧ isF c L s p
def isD (c : Nat → Int) (L s : Nat) : Prop := isS s ∧ L = s * (s + 1) - 1 ∧ ∀ p, p < L → ft c s p
def pgC (σ : cdS) (c : Nat → Int) (L : Nat) : Prop := L ≤ 60 ∧ σ.1 1 1 = jI L ∧ ∀ j : Nat, j < L → σ.1 2 j = jI (c j) ∧ 32 ≤ c j ∧ c j ≤ 126
def pgM (σ : cdS) (c : Nat → Int) (L : Nat) : Prop := L ≤ 60 ∧ σ.1 19 0 = jI L ∧ ∀ j : Nat, j < L → σ.1 20 j = jI (c j) ∧ 32 ≤ c j ∧ c j ≤ 126
theorem isM_u {c : Nat → Int} {L p q : Nat} (h : isM c L p) (k : isM c L q) : p = q := by
  obtain ⟨s, s1, s2⟩ := h.2
  obtain ⟨t, t1, t2⟩ := k.2
  have := h.1 t t1 q t2
  have := k.1 s s1 p s2
  omega
theorem L_figure {σ : cdS} {c : Int} (c1 : -1000 ≤ c) (c2 : c ≤ 1000) {Q : Int32 → Prop} (h1 : fg c → Q (jI (fv c))) (h0 : ¬ fg c → Q (jI (-1))) : wp_X3_figure (jI c) σ Q := by
  intro P17 c17
  simp only [jI_n, jI_neg, jI_add, jI_sub, jI_mul] at c17 ⊢
  rw [jI_lt (by omega) (by omega) (by omega) (by omega), jI_lt (by omega) (by omega) (by omega) (by omega)] at c17 ⊢
  unfold fg fv at h1
  unfold fg at h0
  have fin : (c < 48 ∨ 57 < c) → P17 := by
    intro h
    refine c17 ⟨fun u => h0 (by omega), fun u => ⟨fun v => h0 (by omega), fun v => ?_⟩⟩
    have := h1 (by omega)
    rw [if_neg (by omega)] at this
    exact this
  refine ⟨fun u => fin (Or.inl u), fun u => ⟨fun v => fin (Or.inr v), fun v => ?_⟩⟩
  have := h1 (by omega)
  rw [if_pos (by omega)] at this
  exact this
theorem M_depthOf {σ : cdS} {c : Int} (c1 : -1000 ≤ c) (c2 : c ≤ 1000) {Q : Int32 → Prop} (h1 : fg c → Q (jI (fv c))) (h0 : ¬ fg c → Q (jI (-1000001))) : wp_X6_depthOf (jI c) σ Q := by
  unfold wp_X6_depthOf
  simp only [jI_n, jI_neg, jI_add, jI_sub, jI_mul]
  unfold fg fv at h1
  unfold fg at h0
  refine M_within (by omega) (by omega) (by omega) (by omega) (by omega) (by omega) (fun u => ⟨fun k => absurd k (by decide), fun _ => ?_⟩) (fun u => ⟨fun _ => ?_, fun k => absurd rfl k⟩)
  · have := h1 (by omega)
    rw [if_pos (by omega)] at this
    exact this
  · refine M_within (by omega) (by omega) (by omega) (by omega) (by omega) (by omega) (fun v => ⟨fun k => absurd k (by decide), fun _ => ?_⟩) (fun v => ⟨fun _ => h0 (by omega), fun k => absurd rfl k⟩)
    have := h1 (by omega)
    rw [if_neg (by omega)] at this
    exact this
theorem L_fitting {σ : cdS} {c : Nat → Int} {L s : Nat} (H : pgC σ c L) (hs : isS s) {Q : Int32 → Prop} (hQ : ∀ R, isF c L s R → Q (jI R)) : wp_X3_fitting (jI s) σ Q := by
  obtain ⟨l60, hl, hc⟩ := H
  have s37 : 3 ≤ s ∧ s ≤ 7 ∧ s * (s + 1) ≤ 56 ∧ 12 ≤ s * (s + 1) := by
    rcases hs with rfl | rfl | rfl <;> omega
  intro P17 P66 P88 c17 c66 c88
  unfold wp_X3_lettersOf
  intro x2 e2
  have e2' : x2 = jI (eF L s) := by
    rw [e2, hl, jI_n, jI_add, jI_mul, jI_sub]
    unfold eF
    have e : (s : Int) * ((s : Int) + 1) - 1 = ((s * (s + 1) - 1 : Nat) : Int) := by
      rw [show (s : Int) * ((s : Int) + 1) = ((s * (s + 1) : Nat) : Int) by simp]
      omega
    rw [e]
    by_cases q : s * (s + 1) - 1 < L
    · rw [if_pos ((jI_lt (by omega) (by omega) (by omega) (by omega)).mpr (by omega)), if_pos q]
    · rw [if_neg (fun k => q (by have := (jI_lt (by omega) (by omega) (by omega) (by omega)).mp k; omega)), if_neg q]
  have eb : eF L s ≤ 60 ∧ eF L s ≤ L := by unfold eF; split <;> omega
  rw [e2']
  have key : ∀ (t p : Nat), p + t = eF L s → (∀ q, q < p → ft c s q) → P17 (jI (eF L s)) (jI (p % (s + 1) : Nat)) (jI p) := by
    intro t
    induction t with
    | zero =>
      intro p hp hB
      exact c17 _ _ _ ⟨fun _ => hQ _ ⟨Nat.le_refl _, fun q hq => hB q (by omega), Or.inl rfl⟩, fun k => absurd ((jI_le (by omega) (by omega) (by omega) (by omega)).mpr (by omega)) k⟩
    | succ t ih =>
      intro p hp hB
      have hcp := hc p (by omega)
      have ml := Nat.mod_lt p (show 0 < s + 1 by omega)
      have bad : ¬ ft c s p → P66 (jI (eF L s)) (jI (p % (s + 1) : Nat)) (jI p) 0 := fun h => c66 _ _ _ _ ⟨fun k => absurd rfl k, fun _ => hQ p ⟨by omega, hB, Or.inr h⟩⟩
      have good : ft c s p → P66 (jI (eF L s)) (jI (p % (s + 1) : Nat)) (jI p) 1 := by
        intro h
        have ih := ih (p + 1) (by omega) (fun q hq => by
          by_cases e : q = p
          · rw [e]; exact h
          · exact hB q (by omega))
        refine c66 _ _ _ _ ⟨fun _ => ?_, fun k => absurd k (by decide)⟩
        rw [jI_eq (by omega) (by omega) (by omega) (by omega)]
        refine ⟨fun u => c88 _ _ _ (fun z hz => ?_), fun u => c88 _ _ _ (fun z hz => ?_)⟩
        · rw [jI_n, jI_add] at hz
          rw [hz, jI_n, jI_add, show (((p % (s + 1) : Nat) : Int) + 1) = (((p + 1) % (s + 1) : Nat) : Int) by
            have : (p + 1) % (s + 1) = p % (s + 1) + 1 := by
              rw [Nat.add_mod, Nat.mod_eq_of_lt (a := 1) (by omega), Nat.mod_eq_of_lt (by omega)]
            omega]
          exact ih
        · rw [jI_n, jI_add] at hz
          rw [hz]
          have : (p + 1) % (s + 1) = 0 := by
            rw [Nat.add_mod, Nat.mod_eq_of_lt (a := 1) (by omega), show p % (s + 1) + 1 = s + 1 by omega, Nat.mod_self]
          rw [this] at ih
          exact ih
      refine c17 _ _ _ ⟨fun k => absurd ((jI_le (by omega) (by omega) (by omega) (by omega)).mp k) (by omega), fun _ => ?_⟩
      rw [jI_eq (by omega) (by omega) (by omega) (by omega), jI_cl (by omega) (by omega), show ((p : Int)).toNat = p by omega, hcp.1]
      have hin : vp_in (jI p) 60 := (jI_in (by omega) (by omega)).mpr (by omega)
      refine ⟨fun u => ⟨hin, L_figure (by omega) (by omega) (fun h => ?_) (fun h => ?_)⟩, fun u => ⟨hin, ?_⟩⟩
      · have fb : 0 ≤ fv (c p) ∧ fv (c p) ≤ 35 := by unfold fg at h; unfold fv; split <;> omega
        rw [jI_n, jI_lt (by omega) (by omega) (by omega) (by omega)]
        exact ⟨fun k => absurd k (by omega), fun _ => good ⟨fun k => absurd k (by omega), fun _ => h⟩⟩
      · rw [jI_n, jI_lt (by omega) (by omega) (by omega) (by omega)]
        exact ⟨fun _ => bad (fun k => h (k.2 (by omega))), fun k => absurd (by omega) k⟩
      · rw [jI_n, jI_eq (by omega) (by omega) (by omega) (by omega)]
        exact ⟨fun k => bad (fun z => k (z.1 (by omega))), fun k => good ⟨fun _ => k, fun z => absurd (by omega) z⟩⟩
  have := key (eF L s) 0 (by omega) (fun q hq => absurd hq (by omega))
  rw [Nat.zero_mod] at this
  exact this
theorem isF_ex {c : Nat → Int} {L s : Nat} {Q : Prop} (h : ∀ R, isF c L s R → Q) : Q := by
  have key : ∀ t p, p + t = eF L s → (∀ q, q < p → ft c s q) → Q := by
    intro t
    induction t with
    | zero => intro p hp hB; exact h p ⟨by omega, hB, Or.inl (by omega)⟩
    | succ t ih =>
      intro p hp hB
      by_cases k : ft c s p
      · exact ih (p + 1) (by omega) (fun q hq => by
          by_cases e : q = p
          · rw [e]; exact k
          · exact hB q (by omega))
      · exact h p ⟨by omega, hB, Or.inr k⟩
  exact key (eF L s) 0 (by omega) (fun q hq => absurd hq (by omega))
theorem isF_u {c : Nat → Int} {L s R R' : Nat} (h : isF c L s R) (k : isF c L s R') : R = R' := by
  obtain ⟨a1, a2, a3⟩ := h
  obtain ⟨b1, b2, b3⟩ := k
  rcases Nat.lt_trichotomy R R' with q | q | q
  · rcases a3 with e | e
    · omega
    · exact absurd (b2 R q) e
  · exact q
  · rcases b3 with e | e
    · omega
    · exact absurd (a2 R' q) e
theorem L_firstFault {σ : cdS} {c : Nat → Int} {L : Nat} (H : pgC σ c L) {Q : Int32 → Prop} (hQ : ∀ p, isM c L p → Q (jI p)) : wp_X3_firstFault σ Q := by
  have l60 := H.1
  have eb : ∀ s, eF L s ≤ 60 := fun s => by unfold eF; split <;> omega
  intro P12 c12
  refine c12 _ _ _ ⟨fun k => absurd k (by decide), fun _ => ⟨(jI_in (a := 0) (by omega) (by omega)).mpr (by omega), fun x e => ?_⟩⟩
  rw [e, show cdSides (Int32.toNatClampNeg 0) = jI (3 : Nat) from rfl]
  refine L_fitting H (Or.inl rfl) (fun R3 F3 x1 e1 x4 e4 => ?_)
  have b3 := Nat.le_trans F3.1 (eb 3)
  have e1 : x1 = jI R3 := by
    rw [e1, jI_n]
    by_cases q : 0 < R3
    · rw [if_pos ((jI_lt (by omega) (by omega) (by omega) (by omega)).mpr (by omega))]
    · rw [if_neg (fun k => q (by have := (jI_lt (by omega) (by omega) (by omega) (by omega)).mp k; omega)), show R3 = 0 by omega]; rfl
  rw [e1, e4]
  refine c12 _ _ _ ⟨fun k => absurd k (by decide), fun _ => ⟨(jI_in (a := 1) (by omega) (by omega)).mpr (by omega), fun x e => ?_⟩⟩
  rw [e, show cdSides (Int32.toNatClampNeg (0 + 1)) = jI (5 : Nat) from rfl]
  refine L_fitting H (Or.inr (Or.inl rfl)) (fun R5 F5 x1 e1 x4 e4 => ?_)
  have b5 := Nat.le_trans F5.1 (eb 5)
  have e1 : x1 = jI (max R3 R5 : Nat) := by
    rw [e1]
    by_cases q : R3 < R5
    · rw [if_pos ((jI_lt (by omega) (by omega) (by omega) (by omega)).mpr (by omega)), Nat.max_eq_right (by omega)]
    · rw [if_neg (fun k => q (by have := (jI_lt (by omega) (by omega) (by omega) (by omega)).mp k; omega)), Nat.max_eq_left (by omega)]
  rw [e1, e4]
  refine c12 _ _ _ ⟨fun k => absurd k (by decide), fun _ => ⟨(jI_in (a := 2) (by omega) (by omega)).mpr (by omega), fun x e => ?_⟩⟩
  rw [e, show cdSides (Int32.toNatClampNeg (0 + 1 + 1)) = jI (7 : Nat) from rfl]
  refine L_fitting H (Or.inr (Or.inr rfl)) (fun R7 F7 x1 e1 x4 e4 => ?_)
  have b7 := Nat.le_trans F7.1 (eb 7)
  have e1 : x1 = jI (max (max R3 R5) R7 : Nat) := by
    rw [e1]
    by_cases q : max R3 R5 < R7
    · rw [if_pos ((jI_lt (by omega) (by omega) (by omega) (by omega)).mpr (by omega)), Nat.max_eq_right (a := max R3 R5) (b := R7) (by omega)]
    · rw [if_neg (fun k => q (by have := (jI_lt (by omega) (by omega) (by omega) (by omega)).mp k; omega)), Nat.max_eq_left (a := max R3 R5) (b := R7) (by omega)]
  rw [e1, e4]
  refine c12 _ _ _ ⟨fun _ => hQ _ ⟨fun s hs R hR => ?_, ?_⟩, fun k => absurd (by decide) k⟩
  · rcases hs with rfl | rfl | rfl
    · rw [isF_u hR F3]; omega
    · rw [isF_u hR F5]; omega
    · rw [isF_u hR F7]; omega
  · by_cases q : max R3 R5 < R7
    · rw [Nat.max_eq_right (a := max R3 R5) (b := R7) (by omega)]
      exact ⟨7, Or.inr (Or.inr rfl), F7⟩
    · rw [Nat.max_eq_left (a := max R3 R5) (b := R7) (by omega)]
      by_cases q2 : R3 < R5
      · rw [Nat.max_eq_right (by omega)]
        exact ⟨5, Or.inr (Or.inl rfl), F5⟩
      · rw [Nat.max_eq_left (by omega)]
        exact ⟨3, Or.inl rfl, F3⟩
theorem isD_F {c : Nat → Int} {L s R : Nat} (hs : isS s) (hl : L = s * (s + 1) - 1) (F : isF c L s R) : R = L ↔ isD c L s := by
  have e : eF L s = L := by unfold eF; rw [if_neg (by omega)]
  refine ⟨fun h => ⟨hs, hl, fun p hp => F.2.1 p (by omega)⟩, fun h => ?_⟩
  rcases F.2.2 with q | q
  · rw [q, e]
  · have := F.1
    rw [e] at this
    rcases Nat.lt_or_ge R L with z | z
    · exact absurd (h.2.2 R z) q
    · omega
theorem L_sideOfHead {σ : cdS} {c : Nat → Int} {L : Nat} (H : pgC σ c L) {Q : Int32 → Prop} (h1 : ∀ s, isD c L s → Q (jI s)) (h0 : (∀ s, ¬ isD c L s) → Q 0) : wp_X3_sideOfHead σ Q := by
  have l60 := H.1
  have hl := H.2.1
  intro P9 P47 c9 c47
  have lo : ∀ (s : Nat), isS s → ∀ Q' : Int32 → Prop, Q' (jI (s * (s + 1) - 1 : Nat)) → wp_X3_lettersOf (jI s) σ Q' := by
    intro s hs Q' h
    unfold wp_X3_lettersOf
    rw [jI_n, jI_add, jI_mul, jI_sub]
    have e : (s : Int) * ((s : Int) + 1) - 1 = ((s * (s + 1) - 1 : Nat) : Int) := by
      rcases hs with rfl | rfl | rfl <;> rfl
    rw [e]
    exact h
  -- one side
  have one : ∀ (s i : Nat), isS s → i < 3 → cdSides i = jI s → (¬ isD c L s → P47 3 (jI i)) → P9 3 (jI i) := by
    intro s i hs hi he hn
    have s56 : s * (s + 1) ≤ 56 := by rcases hs with rfl | rfl | rfl <;> omega
    refine c9 _ _ ⟨fun k => absurd k (by rw [jI_n, jI_le (by omega) (by omega) (by omega) (by omega)]; omega), fun _ => ⟨(jI_in (by omega) (by omega)).mpr (by omega), fun x e => ?_⟩⟩
    rw [jI_cl (by omega) (by omega), show ((i : Int)).toNat = i by omega, he] at e
    rw [e]
    refine lo s hs _ ?_
    rw [hl, jI_eq (by omega) (by omega) (by omega) (by omega)]
    refine ⟨fun k => hn (fun D => k (by have := D.2.1; omega)), fun k => L_fitting H hs (fun R F => ?_)⟩
    have eb : eF L s ≤ 60 := by unfold eF; split <;> omega
    have rb := F.1
    rw [jI_eq (by omega) (by omega) (by omega) (by omega)]
    have dd := isD_F hs (by omega) F
    exact ⟨fun z => hn (fun D => z (by have := dd.mpr D; omega)), fun z => h1 s (dd.mp (by omega))⟩
  have nx : ∀ (i : Nat), P9 3 (jI (i + 1 : Nat)) → P47 3 (jI i) := by
    intro i h
    refine c47 _ _ (fun z hz => ?_)
    rw [jI_n, jI_add] at hz
    rw [hz]
    exact h
  refine one 3 0 (Or.inl rfl) (by omega) rfl (fun n3 => nx 0 (one 5 1 (Or.inr (Or.inl rfl)) (by omega) rfl (fun n5 => nx 1 (one 7 2 (Or.inr (Or.inr rfl)) (by omega) rfl (fun n7 => nx 2 ?_)))))
  refine c9 _ _ ⟨fun _ => h0 (fun s D => ?_), fun k => absurd (by decide) k⟩
  rcases D.1 with rfl | rfl | rfl
  · exact n3 D
  · exact n5 D
  · exact n7 D
