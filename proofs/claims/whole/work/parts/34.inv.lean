/-! THE STATE OF BOTH: n heads (reach r, depths d), a page of L letters c, three counts. -/
def hd (σ : cdS) (k : Nat) : Nat := cdh (σ.1 3 k)
def pm (σ : cdS) : Prop := (∀ k, k < 4 → hd σ k < 5) ∧ cdh (σ.1 0 4) < 5 ∧ (∀ j k, j < 4 → k < 4 → hd σ j = hd σ k → j = k) ∧ ∀ k, k < 4 → ¬ hd σ k = cdh (σ.1 0 4)
def IC (σ : cdS) (n : Nat) (c : Nat → Int) (L : Nat) (r : Nat → Int) (d : Nat → Int → Int → Int) (t u g : Int32) : Prop :=
  n ≤ 4 ∧ σ.1 0 5 = jI n ∧ σ.1 0 6 = t ∧ σ.1 0 7 = u ∧ σ.1 0 8 = g ∧ pgC σ c L ∧ pm σ ∧ ∀ k, k < n → hOK σ (hd σ k) (r k) (d k)
def IM (σ : cdS) (n : Nat) (c : Nat → Int) (L : Nat) (r : Nat → Int) (d : Nat → Int → Int → Int) (t u g : Int32) : Prop :=
  n ≤ 4 ∧ σ.1 19 2 = jI n ∧ σ.1 19 5 = t ∧ σ.1 19 6 = u ∧ σ.1 19 7 = g ∧ pgM σ c L ∧ ∀ k : Nat, k < n → mOK σ k (r k) (d k)
section IV
variable {σ σ' : cdS} {n : Nat} {c : Nat → Int} {L : Nat} {r : Nat → Int} {d : Nat → Int → Int → Int} {t u g : Int32}
theorem IC_e (h : IC σ n c L r d t u g) (e : ∀ a, (a ≤ 3 ∨ (9 ≤ a ∧ a ≤ 18)) → σ'.1 a = σ.1 a) : IC σ' n c L r d t u g := by
  obtain ⟨h1, h2, h3, h4, h5, ⟨p1, p2, p3⟩, ⟨m1, m2, m3, m4⟩, h8⟩ := h
  have e0 := e 0 (by omega)
  have e3 := e 3 (by omega)
  have eh : ∀ k, hd σ' k = hd σ k := fun k => by unfold hd; rw [e3]
  refine ⟨h1, by rw [e0]; exact h2, by rw [e0]; exact h3, by rw [e0]; exact h4, by rw [e0]; exact h5, ⟨p1, by rw [e 1 (by omega)]; exact p2, by rw [e 2 (by omega)]; exact p3⟩, ⟨fun k hk => by rw [eh]; exact m1 k hk, by rw [e0]; exact m2, fun j k hj hk q => m3 j k hj hk (by rw [eh, eh] at q; exact q), fun k hk => by rw [eh, e0]; exact m4 k hk⟩, fun k hk => ?_⟩
  rw [eh]
  obtain ⟨a1, a2, a3, a4⟩ := h8 k hk
  exact ⟨a1, a2, by rw [e _ (by omega)]; exact a3, by rw [e _ (by omega)]; exact a4⟩
theorem IM_e (h : IM σ n c L r d t u g) (e : ∀ a, 20 ≤ a → a ≤ 22 → σ'.1 a = σ.1 a) (e0 : σ'.1 19 0 = σ.1 19 0) (e2 : σ'.1 19 2 = σ.1 19 2) (e5 : σ'.1 19 5 = σ.1 19 5) (e6 : σ'.1 19 6 = σ.1 19 6) (e7 : σ'.1 19 7 = σ.1 19 7) : IM σ' n c L r d t u g := by
  obtain ⟨h1, h2, h3, h4, h5, ⟨p1, p2, p3⟩, h8⟩ := h
  refine ⟨h1, by rw [e2]; exact h2, by rw [e5]; exact h3, by rw [e6]; exact h4, by rw [e7]; exact h5, ⟨p1, by rw [e0]; exact p2, by rw [e 20 (by omega) (by omega)]; exact p3⟩, fun k hk => ?_⟩
  obtain ⟨a1, a2, a3, a4, a5⟩ := h8 k hk
  exact ⟨a1, a2, a3, by rw [e 21 (by omega) (by omega)]; exact a4, by rw [e 22 (by omega) (by omega)]; exact a5⟩
theorem IC_hi (h : IC σ n c L r d t u g) (e : ∀ a, a < 19 → σ'.1 a = σ.1 a) : IC σ' n c L r d t u g := IC_e h (fun a ha => e a (by omega))
theorem IM_lo (h : IM σ n c L r d t u g) (e : ∀ a, 19 ≤ a → σ'.1 a = σ.1 a) : IM σ' n c L r d t u g := IM_e h (fun a a1 _ => e a (by omega)) (by rw [e 19 (by omega)]) (by rw [e 19 (by omega)]) (by rw [e 19 (by omega)]) (by rw [e 19 (by omega)]) (by rw [e 19 (by omega)])
theorem IC_S (h : IC σ n c L r d t u g) (f : frS σ σ') : IC σ' n c L r d t u g := IC_e h (fun a ha => f.1 a (by omega))
theorem IM_M (h : IM σ n c L r d t u g) (f : frM σ σ') : IM σ' n c L r d t u g := IM_e h (fun a a1 a2 => f.1 a (by omega) (by omega)) (f.2.1 0 (by decide) (by decide) (by decide) (by decide) (by decide)) (f.2.1 2 (by decide) (by decide) (by decide) (by decide) (by decide)) (f.2.1 5 (by decide) (by decide) (by decide) (by decide) (by decide)) (f.2.1 6 (by decide) (by decide) (by decide) (by decide) (by decide)) (f.2.1 7 (by decide) (by decide) (by decide) (by decide) (by decide))
theorem IM_P (h : IM σ n c L r d t u g) (f : frP σ σ') : IM σ' n c L r d t u g := IM_e h (fun a a1 a2 => f.1 a (by omega)) (f.2.1 0 (by decide) (by decide) (by decide)) (f.2.1 2 (by decide) (by decide) (by decide)) (f.2.1 5 (by decide) (by decide) (by decide)) (f.2.1 6 (by decide) (by decide) (by decide)) (f.2.1 7 (by decide) (by decide) (by decide))
theorem L_isKnown (h : IC σ n c L r d t u g) {z : Int} (z1 : -2147483648 ≤ z) (z2 : z < 2147483648) {Q : Int32 → Prop} (h1 : 0 ≤ z ∧ z < n → Q 1) (h0 : ¬ (0 ≤ z ∧ z < n) → Q 0) : wp_X5_isKnown (jI z) σ Q := by
  have n4 := h.1
  unfold wp_X5_isKnown
  rw [h.2.1, show (0 : Int32) = jI 0 from rfl, jI_lt z1 z2 (by omega) (by omega), jI_le (by omega) (by omega) z1 z2]
  exact ⟨fun k => h0 (by omega), fun k => ⟨fun k2 => h0 (by omega), fun k2 => h1 (by omega)⟩⟩
theorem M_isHead (h : IM σ n c L r d t u g) {z : Int} (z1 : -2147483648 ≤ z) (z2 : z < 2147483648) {Q : Int32 → Prop} (h1 : 0 ≤ z ∧ z < n → Q 1) (h0 : ¬ (0 ≤ z ∧ z < n) → Q 0) : wp_X6_isHead (jI z) σ Q := by
  have n4 := h.1
  unfold wp_X6_isHead
  rw [h.2.1]
  simp only [jI_n, jI_neg, jI_add, jI_sub, jI_mul]
  exact M_within z1 z2 (by omega) (by omega) (by omega) (by omega) (fun k => ⟨Or.inr rfl, h1 (by omega)⟩) (fun k => ⟨Or.inl rfl, h0 (by omega)⟩)
theorem IC_at (h : IC σ n c L r d t u g) {z : Int} (hz : 0 ≤ z ∧ z < n) : vp_in (jI z) 4 ∧ hOK σ (cdh (σ.1 3 (jI z).toNatClampNeg)) (r z.toNat) (d z.toNat) := by
  have n4 := h.1
  refine ⟨(jI_in (by omega) (by omega)).mpr (by omega), ?_⟩
  rw [jI_cl (by omega) (by omega)]
  exact h.2.2.2.2.2.2.2 z.toNat (by omega)
theorem IM_at (h : IM σ n c L r d t u g) {z : Int} (hz : 0 ≤ z ∧ z < n) : mOK σ z (r z.toNat) (d z.toNat) := by
  have := h.2.2.2.2.2.2 z.toNat (by omega)
  rwa [show ((z.toNat : Nat) : Int) = z by omega] at this
theorem L_isSpacing {z : Int} (z1 : -2147483648 ≤ z) (z2 : z < 2147483648) {Q : Int32 → Prop} (h1 : 2 ≤ z ∧ z ≤ 9 → Q 1) (h0 : ¬ (2 ≤ z ∧ z ≤ 9) → Q 0) : wp_X5_isSpacing (jI z) σ Q := by
  unfold wp_X5_isSpacing
  simp only [jI_n]
  exact L_isWithin z1 z2 (by omega) (by omega) (by omega) (by omega) (fun k => ⟨Or.inr rfl, h1 k⟩) (fun k => ⟨Or.inl rfl, h0 k⟩)
def laid (lay a b : Int) : Prop := (0 ≤ lay ∧ lay ≤ 1) ∧ (2 ≤ a ∧ a ≤ 9) ∧ (2 ≤ b ∧ b ≤ 9)
theorem L_isLaidOut {lay a b : Int} (l1 : -2147483648 ≤ lay) (l2 : lay < 2147483648) (a1 : -2147483648 ≤ a) (a2 : a < 2147483648) (b1 : -2147483648 ≤ b) (b2 : b < 2147483648) {Q : Int32 → Prop} (h1 : laid lay a b → Q 1) (h0 : ¬ laid lay a b → Q 0) : wp_X5_isLaidOut (jI lay) (jI a) (jI b) σ Q := by
  unfold wp_X5_isLaidOut
  simp only [jI_n 0, jI_n 1]
  refine L_isWithin l1 l2 (by decide) (by decide) (by decide) (by decide) (fun k1 => ⟨fun q => absurd q (by decide), fun _ => ?_⟩) (fun k1 => ⟨fun _ => h0 (fun q => k1 q.1), fun q => absurd rfl q⟩)
  refine L_isSpacing a1 a2 (fun k2 => ⟨fun q => absurd q (by decide), fun _ => ?_⟩) (fun k2 => ⟨fun _ => h0 (fun q => k2 q.2.1), fun q => absurd rfl q⟩)
  exact L_isSpacing b1 b2 (fun k3 => ⟨fun q => absurd q (by decide), fun _ => h1 ⟨k1, k2, k3⟩⟩) (fun k3 => ⟨fun _ => h0 (fun q => k3 q.2.2), fun q => absurd rfl q⟩)
theorem M_isLaid {lay a b : Int} (l1 : -2147483648 ≤ lay) (l2 : lay < 2147483648) (a1 : -2147483648 ≤ a) (a2 : a < 2147483648) (b1 : -2147483648 ≤ b) (b2 : b < 2147483648) {Q : Int32 → Prop} (h1 : laid lay a b → Q 1) (h0 : ¬ laid lay a b → Q 0) : wp_X6_isLaid (jI lay) (jI a) (jI b) σ Q := by
  unfold wp_X6_isLaid
  simp only [jI_n]
  refine M_within l1 l2 (by decide) (by decide) (by decide) (by decide) (fun k1 => ⟨fun q => absurd q (by decide), fun _ => ?_⟩) (fun k1 => ⟨fun _ => h0 (fun q => k1 q.1), fun q => absurd rfl q⟩)
  refine M_within a1 a2 (by decide) (by decide) (by decide) (by decide) (fun k2 => ⟨fun q => absurd q (by decide), fun _ => ?_⟩) (fun k2 => ⟨fun _ => h0 (fun q => k2 q.2.1), fun q => absurd rfl q⟩)
  exact M_within b1 b2 (by decide) (by decide) (by decide) (by decide) (fun k3 => ⟨fun q => absurd q (by decide), fun _ => h1 ⟨k1, k2, k3⟩⟩) (fun k3 => ⟨fun _ => h0 (fun q => k3 q.2.2), fun q => absurd rfl q⟩)
end IV
