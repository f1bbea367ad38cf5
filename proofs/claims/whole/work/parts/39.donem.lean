/-! WHAT IS DONE, by the reference. -/
def loE (σ σ' : cdS) : Prop := ∀ a, a < 19 → σ'.1 a = σ.1 a
def frV (to : Int) (σ σ' : cdS) : Prop := (∀ a, a ≠ 22 → σ'.1 a = σ.1 a) ∧ (∀ j : Nat, ¬ (49 * to ≤ j ∧ (j : Int) < 49 * to + 49) → σ'.1 22 j = σ.1 22 j) ∧ σ'.2 = σ.2
theorem frV_rf {to : Int} {σ : cdS} : frV to σ σ := ⟨fun _ _ => rfl, fun _ _ => rfl, rfl⟩
theorem frV_U {to : Int} {σ σ' : cdS} {k : Int} {v : Int32} (h : frV to σ σ') (t0 : 0 ≤ to) (k0 : 0 ≤ k) (k1 : k < 49) : frV to σ (cdU σ' 22 (49 * to + k).toNat v) :=
  ⟨fun a ha => by rw [cdU_ne ha]; exact h.1 a ha, fun j hj => by rw [cdU_j (by omega)]; exact h.2.1 j hj, h.2.2⟩
/-- the 49 cells of a head are written, one behind another -/
theorem fill49 {to : Int} (t0 : 0 ≤ to) {e : Int → Int} {σ0 : cdS} {P : Int → cdS → Prop}
    (hin : ∀ k σ, 0 ≤ k → k < 49 → frV to σ0 σ → P (k + 1) (cdU σ 22 (49 * to + k).toNat (jI (e k))) → P k σ)
    (hend : ∀ σ, frV to σ0 σ → (∀ k, 0 ≤ k → k < 49 → σ.1 22 (49 * to + k).toNat = jI (e k)) → P 49 σ) : P 0 σ0 := by
  have key : ∀ (m : Nat) (k : Int) (σ : cdS), k + m = 49 → 0 ≤ k → frV to σ0 σ → (∀ j, 0 ≤ j → j < k → σ.1 22 (49 * to + j).toNat = jI (e j)) → P k σ := by
    intro m
    induction m with
    | zero =>
      intro k σ hk k0 f hB
      rw [show k = 49 by omega]
      exact hend σ f (fun j j0 j1 => hB j j0 (by omega))
    | succ m ih =>
      intro k σ hk k0 f hB
      refine hin k σ k0 (by omega) f (ih (k + 1) _ (by omega) (by omega) (frV_U f t0 k0 (by omega)) (fun j j0 j1 => ?_))
      by_cases q : j = k
      · rw [q, cdU_s]
      · rw [cdU_j (by omega)]
        exact hB j j0 (by omega)
  exact key 49 0 σ0 (by omega) (by omega) frV_rf (fun j j0 j1 => absurd j1 (by omega))
theorem mOK_V {σ σ' : cdS} {k to r : Int} {d : Int → Int → Int} (H : mOK σ k r d) (t0 : 0 ≤ to) (hk : k ≠ to) (f : frV to σ σ') : mOK σ' k r d := by
  obtain ⟨a, b, c, e, g⟩ := H
  exact ⟨a, b, c, by rw [f.1 21 (by decide)]; exact e, fun x y x1 x2 y1 y2 => by rw [f.2.1 _ (by omega)]; exact g x y x1 x2 y1 y2⟩
theorem mOK_e {σ σ' : cdS} {k r : Int} {d : Int → Int → Int} (H : mOK σ k r d) (e21 : σ'.1 21 k.toNat = σ.1 21 k.toNat) (e22 : σ'.1 22 = σ.1 22) : mOK σ' k r d := by
  obtain ⟨a, b, c, e, g⟩ := H
  exact ⟨a, b, c, by rw [e21]; exact e, by rw [e22]; exact g⟩
/-- the 49 cells as (x, y) -/
theorem mOK_of {σ : cdS} {k r : Int} {d : Int → Int → Int} (k0 : 0 ≤ k) (k5 : k < 5) (D : dOK r d) (s : σ.1 21 k.toNat = jI (2 * r + 1)) (h : ∀ i, 0 ≤ i → i < 49 → σ.1 22 (49 * k + i).toNat = jI (d (i % 7 - 3) (i / 7 - 3))) : mOK σ k r d := by
  refine ⟨k0, k5, D, s, fun x y x1 x2 y1 y2 => ?_⟩
  have := h (7 * (y + 3) + x + 3) (by omega) (by omega)
  rwa [show (7 * (y + 3) + x + 3) % 7 - 3 = x by omega, show (7 * (y + 3) + x + 3) / 7 - 3 = y by omega, show 49 * k + (7 * (y + 3) + x + 3) = 49 * k + 7 * (y + 3) + x + 3 by omega] at this
/-- a head is copied to the place 'to' -/
theorem M_copy {σ : cdS} {k to r : Int} {d : Int → Int → Int} (H : mOK σ k r d) (t0 : 0 ≤ to) (t5 : to < 5) (hk : k ≠ to) {Q : cdS → Prop} (hQ : ∀ σ', frV to (cdU σ 21 to.toNat (σ.1 21 k.toNat)) σ' → mOK σ' to r d → Q σ') : wp_X6_copy (jI k) (jI to) σ Q := by
  have H0 := H
  obtain ⟨k0, k5, D, s, g⟩ := H
  intro P14 c14
  refine ⟨(jI_in (by omega) (by omega)).mpr (by omega), (jI_in (by omega) (by omega)).mpr (by omega), fun σ3 e3 => ?_⟩
  rw [jI_cl (by omega) (by omega), jI_cl (by omega) (by omega)] at e3
  have H3 : mOK σ3 k r d := mOK_e H0 (by rw [e3, cdU_j (by omega)]) (by rw [e3, cdU_ne (by decide)])
  rw [← e3] at hQ
  refine fill49 (to := to) t0 (e := fun i => d (i % 7 - 3) (i / 7 - 3)) (σ0 := σ3) (P := fun i σ => P14 (jI i) σ) ?_ ?_
  · intro i σ' i0 i1 f h
    refine c14 _ _ ?_
    simp only [jI_n, jI_mul, jI_add]
    refine ⟨fun q => absurd ((jI_le (by omega) (by omega) (by omega) (by omega)).mp q) (by omega), fun _ => ⟨(jI_in (by omega) (by omega)).mpr (by omega), (jI_in (by omega) (by omega)).mpr (by omega), fun σ7 e7 x e => ?_⟩⟩
    rw [jI_cl (by omega) (by omega), jI_cl (by omega) (by omega), mOK_at (mOK_V H3 t0 hk f) i0 i1] at e7
    rw [e, e7]
    exact h
  · intro σ' f h
    refine c14 _ _ ?_
    simp only [jI_n]
    refine ⟨fun _ => hQ σ' f (mOK_of t0 t5 D ?_ h), fun q => absurd ((jI_le (by omega) (by omega) (by omega) (by omega)).mpr (by omega)) q⟩
    rw [f.1 21 (by decide), e3, cdU_s, s]
section DM
variable {σ : cdS} {n : Nat} {c : Nat → Int} {L : Nat} {r : Nat → Int} {d : Nat → Int → Int → Int} {t u g : Int32}
theorem R_letter (I : IM σ n c L r d t u g) {z : Int} (hz : rI z) {Q : Int32 → cdS → Prop} (h1 : (32 ≤ z ∧ z ≤ 126) → L < 60 → ∀ σ1, loE σ σ1 → IM σ1 n (fun j => if j = L then z else c j) (L + 1) r d t u g → Q (jI (L + 1 : Nat)) σ1) (hF : (32 ≤ z ∧ z ≤ 126) → ¬ L < 60 → Q (jI (-1000005)) σ) (hO : ¬ (32 ≤ z ∧ z ≤ 126) → Q (jI (-1000003)) σ) : wp_X6_letter (jI z) σ Q := by
  obtain ⟨i1, i2, i3, i4, i5, ⟨p1, p2, p3⟩, i8⟩ := I
  unfold wp_X6_letter
  refine M_within (b := 32) (c := 126) hz.1 hz.2 (by decide) (by decide) (by decide) (by decide) (fun k => ⟨fun _ => ?_, fun q => absurd q (by decide)⟩) (fun k => ⟨fun q => absurd rfl q, fun _ => hO k⟩)
  rw [p2, jI_n, jI_eq (by omega) (by omega) (by omega) (by omega)]
  refine ⟨fun l => ⟨(jI_in (by omega) (by omega)).mpr (by omega), fun σ3 e3 σ4 e4 => ?_⟩, fun l => hF k (by omega)⟩
  rw [jI_cl (by omega) (by omega), show ((L : Int)).toNat = L by omega] at e3
  have s11 : σ4.1 19 0 = jI (L + 1 : Nat) := by rw [e4, cdU_s, e3, cdU_k (by decide), p2, jI_n, jI_add]; rfl
  rw [s11]
  have ea : ∀ a, a ≠ 19 → a ≠ 20 → σ4.1 a = σ.1 a := fun a q1 q2 => by rw [e4, cdU_ne q1, e3, cdU_ne q2]
  have e19 : ∀ j, j ≠ 0 → σ4.1 19 j = σ.1 19 j := fun j q => by rw [e4, cdU_j q, e3, cdU_k (by decide)]
  refine h1 k (by omega) σ4 (fun a ha => ea a (by omega) (by omega)) ⟨i1, by rw [e19 2 (by decide)]; exact i2, by rw [e19 5 (by decide)]; exact i3, by rw [e19 6 (by decide)]; exact i4, by rw [e19 7 (by decide)]; exact i5, ⟨by omega, s11, fun j hj => ?_⟩, fun k hk => mOK_e (i8 k hk) (by rw [ea 21 (by decide) (by decide)]) (ea 22 (by decide) (by decide))⟩
  rw [e4, cdU_k (by decide), e3]
  dsimp only
  by_cases q : j = L
  · rw [q, cdU_s, if_pos rfl]
    exact ⟨rfl, k.1, k.2⟩
  · rw [cdU_j q, if_neg q]
    exact p3 j (by omega)
theorem R_blank (I : IM σ n c L r d t u g) {Q : Int32 → cdS → Prop} (hQ : ∀ σ1, loE σ σ1 → IM σ1 n c 0 r d t u g → Q (jI L) σ1) : wp_X6_blank σ Q := by
  obtain ⟨i1, i2, i3, i4, i5, ⟨p1, p2, p3⟩, i8⟩ := I
  intro x e1 σ2 e2
  rw [e1, p2]
  have e19 : ∀ j, j ≠ 0 → σ2.1 19 j = σ.1 19 j := fun j q => by rw [e2, cdU_j q]
  have ea : ∀ a, a ≠ 19 → σ2.1 a = σ.1 a := fun a q => by rw [e2, cdU_ne q]
  exact hQ σ2 (fun a ha => ea a (by omega)) ⟨i1, by rw [e19 2 (by decide)]; exact i2, by rw [e19 5 (by decide)]; exact i3, by rw [e19 6 (by decide)]; exact i4, by rw [e19 7 (by decide)]; exact i5, ⟨by omega, by rw [e2, cdU_s]; rfl, fun j hj => absurd hj (by omega)⟩, fun k hk => mOK_e (i8 k hk) (by rw [ea 21 (by decide)]) (ea 22 (by decide))⟩
theorem R_drop (I : IM σ n c L r d t u g) {z : Int} (hz : rI z) {Q : Int32 → cdS → Prop} (h1 : (0 ≤ z ∧ z < n) → ∀ σ1, loE σ σ1 → IM σ1 (n - 1) c L (fun k => if k < z.toNat then r k else r (k + 1)) (fun k => if k < z.toNat then d k else d (k + 1)) t u (g + 1) → Q (jI (n - 1 : Nat)) σ1) (hU : ¬ (0 ≤ z ∧ z < n) → Q (jI (-1000002)) σ) : wp_X6_drop (jI z) σ Q := by
  have I0 := I
  obtain ⟨i1, i2, i3, i4, i5, ⟨p1, p2, p3⟩, i8⟩ := I
  intro P33 c33
  refine M_isHead I0 hz.1 hz.2 (fun kn => ⟨fun _ σ4 e4 σ5 e5 => ?_, fun q => absurd q (by decide)⟩) (fun kn => ⟨fun q => absurd rfl q, fun _ => hU kn⟩)
  have ea : ∀ a, a ≠ 19 → σ5.1 a = σ.1 a := fun a q => by rw [e5, cdU_ne q, e4, cdU_ne q]
  have e19 : ∀ j, j ≠ 2 → j ≠ 7 → σ5.1 19 j = σ.1 19 j := fun j q1 q2 => by rw [e5, cdU_j q2, e4, cdU_j q1]
  have s2 : σ5.1 19 2 = jI (n - 1 : Nat) := by rw [e5, cdU_j (by decide), e4, cdU_s, i2, jI_n, jI_sub, show ((n - 1 : Nat) : Int) = (n : Int) - 1 by omega]
  have s7 : σ5.1 19 7 = g + 1 := by rw [e5, cdU_s, e4, cdU_j (by decide), i5]
  have key : ∀ (m : Nat) (i : Int) (σ' : cdS), i + m = n - 1 → z ≤ i → (∀ a, a ≠ 21 → a ≠ 22 → σ'.1 a = σ5.1 a) → (∀ k : Nat, (k : Int) < n → (i < k → mOK σ' k (r k) (d k)) ∧ ((k : Int) < z → mOK σ' k (r k) (d k)) ∧ (z ≤ k → (k : Int) < i → mOK σ' k (r (k + 1)) (d (k + 1)))) → P33 (jI i) σ' := by
    intro m
    induction m with
    | zero =>
      intro i σ' hi zi f hB
      refine c33 _ _ ?_
      rw [f 19 (by decide) (by decide), s2]
      refine ⟨fun _ => h1 kn σ' (fun a ha => by rw [f a (by omega) (by omega), ea a (by omega)]) ⟨by omega, by rw [f 19 (by decide) (by decide)]; exact s2, ?_, ?_, ?_, ⟨p1, ?_, ?_⟩, fun k hk => ?_⟩, fun q => absurd ((jI_le (by omega) (by omega) (by omega) (by omega)).mpr (by omega)) q⟩
      · rw [f 19 (by decide) (by decide), e19 5 (by decide) (by decide)]; exact i3
      · rw [f 19 (by decide) (by decide), e19 6 (by decide) (by decide)]; exact i4
      · rw [f 19 (by decide) (by decide)]; exact s7
      · rw [f 19 (by decide) (by decide), e19 0 (by decide) (by decide)]; exact p2
      · rw [f 20 (by decide) (by decide), ea 20 (by decide)]; exact p3
      · dsimp only
        have b := hB k (by omega)
        by_cases a : k < z.toNat
        · rw [if_pos a, if_pos a]
          exact b.2.1 (by omega)
        · rw [if_neg a, if_neg a]
          exact b.2.2 (by omega) (by omega)
    | succ m ih =>
      intro i σ' hi zi f hB
      refine c33 _ _ ?_
      rw [f 19 (by decide) (by decide), s2, jI_n, jI_add]
      refine ⟨fun q => absurd ((jI_le (by omega) (by omega) (by omega) (by omega)).mp q) (by omega), fun _ => ?_⟩
      have b1 := (hB (i.toNat + 1) (by omega)).1 (by omega)
      rw [show ((i.toNat + 1 : Nat) : Int) = i + 1 by omega] at b1
      refine M_copy b1 (by omega) (by omega) (by omega) (fun σ8 f8 H8 x e => ?_)
      rw [e]
      have old : ∀ k : Nat, (k : Int) ≠ i → ∀ rr dd, mOK σ' k rr dd → mOK σ8 k rr dd := by
        intro k hk rr dd M
        refine mOK_V (mOK_e (σ' := cdU σ' 21 i.toNat (σ'.1 21 (i + 1).toNat)) M (by rw [cdU_j (by omega)]) (by rw [cdU_ne (by decide)])) (by omega) hk f8
      refine ih (i + 1) σ8 (by omega) (by omega) (fun a q1 q2 => by rw [f8.1 a q2, cdU_ne q1, f a q1 q2]) (fun k hk => ⟨fun a => old k (by omega) _ _ ((hB k hk).1 (by omega)), fun a => old k (by omega) _ _ ((hB k hk).2.1 a), fun a1 a2 => ?_⟩)
      by_cases e : (k : Int) = i
      · rw [show i.toNat + 1 = k + 1 by omega] at H8
        rw [← e] at H8
        exact H8
      · exact old k e _ _ ((hB k hk).2.2 a1 (by omega))
  refine key (n - 1 - z.toNat) z σ5 (by omega) (by omega) (fun a _ _ => rfl) (fun k hk => ?_)
  have M : mOK σ5 k (r k) (d k) := mOK_e (i8 k (by omega)) (by rw [ea 21 (by decide)]) (ea 22 (by decide))
  exact ⟨fun _ => M, fun _ => M, fun a b => absurd b (by omega)⟩
/-- a head is written where none stood: it comes -/
theorem IM_come (I : IM σ n c L r d t u g) (n4 : n < 4) {σ1 σ2 : cdS} {rn : Int} {dn : Int → Int → Int} (f20 : σ1.1 20 = σ.1 20) (f21 : ∀ j, j ≠ n → σ1.1 21 j = σ.1 21 j) (f22 : ∀ j : Nat, ¬ (49 * (n : Int) ≤ j ∧ (j : Int) < 49 * n + 49) → σ1.1 22 j = σ.1 22 j) (hn : mOK σ1 n rn dn) {L' : Nat} {t' u' : Int32}
    (e2 : σ2.1 19 2 = jI (n + 1 : Nat)) (e5 : σ2.1 19 5 = t') (e6 : σ2.1 19 6 = u') (e7 : σ2.1 19 7 = g) (ep : pgM σ2 c L') (e21 : σ2.1 21 = σ1.1 21) (e22 : σ2.1 22 = σ1.1 22) :
    IM σ2 (n + 1) c L' (fun k => if k = n then rn else r k) (fun k => if k = n then dn else d k) t' u' g := by
  obtain ⟨i1, i2, i3, i4, i5, i6, i8⟩ := I
  refine ⟨by omega, e2, e5, e6, e7, ep, fun k hk => ?_⟩
  dsimp only
  by_cases q : k = n
  · subst q
    rw [if_pos rfl, if_pos rfl]
    exact mOK_e hn (by rw [e21]) e22
  · rw [if_neg q, if_neg q]
    obtain ⟨a, b, D, s, h⟩ := i8 k (by omega)
    refine ⟨a, b, D, by rw [e21, f21 _ (by omega)]; exact s, fun x y x1 x2 y1 y2 => ?_⟩
    rw [e22, f22 _ (by omega)]
    exact h x y x1 x2 y1 y2
theorem R_turn (I : IM σ n c L r d t u g) {z q : Int} {m : Int32} (hz : rI z) (hq : rI q) {Q : Int32 → cdS → Prop} (h1 : (0 ≤ z ∧ z < n) → (0 ≤ q ∧ q ≤ 3) → n < 4 → ∀ σ1, loE σ σ1 → IM σ1 (n + 1) c L (fun k => if k = n then r z.toNat else r k) (fun k => if k = n then (fun x y => tq (d z.toNat) q (if m = 0 then x else -x) y) else d k) t (u + 1) g → Q (jI n) σ1) (hF : (0 ≤ z ∧ z < n) → (0 ≤ q ∧ q ≤ 3) → ¬ n < 4 → Q (jI (-1000005)) σ) (hO : (0 ≤ z ∧ z < n) → ¬ (0 ≤ q ∧ q ≤ 3) → Q (jI (-1000003)) σ) (hU : ¬ (0 ≤ z ∧ z < n) → Q (jI (-1000002)) σ) : wp_X6_turn (jI z) (jI q) m σ Q := by
  have I0 := I
  obtain ⟨i1, i2, i3, i4, i5, ⟨p1, p2, p3⟩, i8⟩ := I
  intro P37 P91 c37 c91
  refine M_isHead I0 hz.1 hz.2 (fun kn => ⟨fun _ => ?_, fun q => absurd q (by decide)⟩) (fun kn => ⟨fun q => absurd rfl q, fun _ => hU kn⟩)
  refine M_within (b := 0) (c := 3) hq.1 hq.2 (by decide) (by decide) (by decide) (by decide) (fun ok => ⟨fun _ => ?_, fun q => absurd q (by decide)⟩) (fun ok => ⟨fun q => absurd rfl q, fun _ => hO kn ok⟩)
  rw [i2, jI_n, jI_eq (by omega) (by omega) (by omega) (by omega)]
  refine ⟨fun n4 => ?_, fun n4 => hF kn ok (by omega)⟩
  have H := IM_at I0 kn
  have D := dOK_tq H.2.2.1 q (m = 0) inferInstance
  refine fill49 (to := n) (by omega) (e := fun i => tq (d z.toNat) q (if m = 0 then i % 7 - 3 else -(i % 7 - 3)) (i / 7 - 3)) (σ0 := σ) (P := fun i σ => P37 (jI i) σ) ?_ ?_
  · intro i σ' i0 i9 f h
    refine c37 _ _ ?_
    rw [f.1 19 (by decide), i2]
    simp only [jI_n, jI_mul, jI_add]
    refine ⟨fun k => absurd ((jI_le (by omega) (by omega) (by omega) (by omega)).mp k) (by omega), fun _ x5 e5 x6 e6 => ?_⟩
    rw [cdm_jP (by omega) (by omega) (by omega) (by omega), jI_sub] at e5
    rw [jI_divP (by omega) (by omega) (by omega) (by omega), jI_sub] at e6
    have fin : P91 (jI i) (jI (i / 7 - 3)) (jI (if m = 0 then i % 7 - 3 else -(i % 7 - 3))) (jI q) (jI z) (jI (49 * n + i)) σ' := by
      refine c91 _ _ _ _ _ _ _ ?_
      have xb : -3 ≤ (if m = 0 then i % 7 - 3 else -(i % 7 - 3)) ∧ (if m = 0 then i % 7 - 3 else -(i % 7 - 3)) ≤ 3 := by split <;> omega
      refine M_turnedAt (mOK_V H (by omega) (by omega) f) ok.1 ok.2 (by omega) (by omega) (by omega) (by omega) ⟨(jI_in (by omega) (by omega)).mpr (by omega), fun σ20 e20 x e => ?_⟩
      rw [jI_n, jI_add] at e
      rw [jI_cl (by omega) (by omega)] at e20
      rw [e, e20]
      exact h
    rw [e5, e6, jI_neg]
    refine ⟨fun k => ?_, fun k => ?_⟩
    · rw [if_pos (show m = 0 from k)] at fin; exact fin
    · rw [if_neg (show ¬ m = 0 from k)] at fin; exact fin
  · intro σ' f h
    refine c37 _ _ ?_
    rw [f.1 19 (by decide), i2]
    simp only [jI_n]
    refine ⟨fun _ => ⟨(jI_in (by omega) (by omega)).mpr (by omega), (jI_in (by omega) (by omega)).mpr (by omega), fun σ11 e11 σ12 e12 σ13 e13 => ?_⟩, fun k => absurd ((jI_le (by omega) (by omega) (by omega) (by omega)).mpr (by omega)) k⟩
    rw [jI_cl (by omega) (by omega), jI_cl (by omega) (by omega), show ((n : Int)).toNat = n by omega, f.1 21 (by decide), H.2.2.2.1] at e11
    have s2 : σ13.1 19 2 = jI (n + 1 : Nat) := by rw [e13, cdU_j (by decide), e12, cdU_s, e11, cdU_k (by decide), f.1 19 (by decide), i2, jI_add]; rfl
    rw [s2, jI_sub, show ((n + 1 : Nat) : Int) - 1 = n by omega]
    have ea : ∀ a, a ≠ 19 → a ≠ 21 → σ13.1 a = σ'.1 a := fun a q1 q2 => by rw [e13, cdU_ne q1, e12, cdU_ne q1, e11, cdU_ne q2]
    have e19 : ∀ j, j ≠ 2 → j ≠ 6 → σ13.1 19 j = σ.1 19 j := fun j q1 q2 => by rw [e13, cdU_j q2, e12, cdU_j q1, e11, cdU_k (by decide), f.1 19 (by decide)]
    refine h1 kn ok (by omega) σ13 (fun a ha => by rw [ea a (by omega) (by omega), f.1 a (by omega)]) (IM_come (σ1 := σ11) I0 (by omega) ?_ ?_ ?_ ?_ s2 ?_ ?_ ?_ ?_ ?_ ?_)
    · rw [e11, cdU_ne (by decide), f.1 20 (by decide)]
    · intro j hj
      rw [e11, cdU_j hj, f.1 21 (by decide)]
    · intro j hj
      rw [e11, cdU_k (by decide)]
      exact f.2.1 j hj
    · refine mOK_of (by omega) (by omega) D ?_ (fun i i0 i9 => ?_)
      · rw [e11, show ((n : Int)).toNat = n by omega, cdU_s]
      · rw [e11, cdU_k (by decide)]
        exact h i i0 i9
    · rw [e19 5 (by decide) (by decide)]; exact i3
    · rw [e13, cdU_s, e12, cdU_j (by decide), e11, cdU_k (by decide), f.1 19 (by decide), i4]; rfl
    · rw [e19 7 (by decide) (by decide)]; exact i5
    · exact ⟨p1, by rw [e19 0 (by decide) (by decide)]; exact p2, by rw [ea 20 (by decide) (by decide), f.1 20 (by decide)]; exact p3⟩
    · rw [e13, cdU_ne (by decide), e12, cdU_ne (by decide)]
    · rw [e13, cdU_ne (by decide), e12, cdU_ne (by decide)]
theorem R_bend (I : IM σ n c L r d t u g) {z p q : Int} (hz : rI z) (hp : rI p) (hq : rI q) {Q : Int32 → cdS → Prop} (h1 : (0 ≤ z ∧ z < n) → ((-2 ≤ p ∧ p ≤ 2) ∧ (-2 ≤ q ∧ q ≤ 2)) → ∀ σ1, loE σ σ1 → IM σ1 n c L r (fun k => if k = z.toNat then bd (r z.toNat) (d z.toNat) p q else d k) t u g → Q (jI (TH (bd (r z.toNat) (d z.toNat) p q))) σ1) (hO : (0 ≤ z ∧ z < n) → ¬ ((-2 ≤ p ∧ p ≤ 2) ∧ (-2 ≤ q ∧ q ≤ 2)) → Q (jI (-1000003)) σ) (hU : ¬ (0 ≤ z ∧ z < n) → Q (jI (-1000002)) σ) : wp_X6_bend (jI z) (jI p) (jI q) σ Q := by
  have I0 := I
  obtain ⟨i1, i2, i3, i4, i5, ⟨p1, p2, p3⟩, i8⟩ := I
  intro P55 P110 P111 P146 c55 c110 c111 c146
  refine M_isHead I0 hz.1 hz.2 (fun kn => ⟨fun _ => ?_, fun q => absurd q (by decide)⟩) (fun kn => ⟨fun q => absurd rfl q, fun _ => hU kn⟩)
  simp only [jI_n, jI_neg]
  refine M_within hp.1 hp.2 (by decide) (by decide) (by decide) (by decide) (fun k1 => ⟨fun q => absurd q (by decide), fun _ => ?_⟩) (fun k1 => ⟨fun _ => hO kn (fun q => k1 q.1), fun q => absurd rfl q⟩)
  refine M_within hq.1 hq.2 (by decide) (by decide) (by decide) (by decide) (fun k2 => ⟨fun _ => ?_, fun q => absurd q (by decide)⟩) (fun k2 => ⟨fun q => absurd rfl q, fun _ => hO kn (fun q => k2 q.2)⟩)
  have H := IM_at I0 kn
  obtain ⟨_, _, D0, hs0, _⟩ := id H
  have rb := D0
  obtain ⟨rb1, rb3, _, _⟩ := rb
  refine M_copy H (to := 4) (by omega) (by omega) (by omega) (fun σ11 f11 H11 => ?_)
  have s21 : σ11.1 21 z.toNat = jI (2 * r z.toNat + 1) := by rw [f11.1 21 (by decide), cdU_j (by omega), hs0]
  refine ⟨(jI_in (by omega) (by omega)).mpr (by omega), fun x4 e4 => ?_⟩
  rw [jI_cl hz.1 hz.2, s21, jI_sub, jI_divP (by omega) (by omega) (by omega) (by omega), show (2 * r z.toNat + 1 - 1) / 2 = r z.toNat by omega] at e4
  rw [e4]
  have Db := dOK_bd D0 p q
  refine fill49 (to := z) (by omega) (e := fun i => bd (r z.toNat) (d z.toNat) p q (i % 7 - 3) (i / 7 - 3)) (σ0 := σ11) (P := fun i σ => P55 (jI (r z.toNat)) (jI i) σ) ?_ ?_
  · intro i σ' i0 i9 f h
    refine c55 _ _ _ ?_
    simp only [jI_n, jI_neg]
    refine ⟨fun k => absurd ((jI_le (by omega) (by omega) (by omega) (by omega)).mp k) (by omega), fun _ x6 e6 x7 e7 => ?_⟩
    rw [cdm_jP (by omega) (by omega) (by omega) (by omega), jI_sub] at e6
    rw [jI_divP (by omega) (by omega) (by omega) (by omega), jI_sub] at e7
    rw [e6, e7]
    have wr : ∀ v, bd (r z.toNat) (d z.toNat) p q (i % 7 - 3) (i / 7 - 3) = v → P146 (jI (r z.toNat)) (jI i) (jI v) (jI (49 * z + i)) σ' := by
      intro v hv
      refine c146 _ _ _ _ _ ⟨(jI_in (by omega) (by omega)).mpr (by omega), fun σ29 e29 x e => ?_⟩
      rw [jI_n, jI_add] at e
      rw [jI_cl (by omega) (by omega), ← hv] at e29
      rw [e, e29]
      exact h
    have out : ¬ (-(r z.toNat) ≤ i % 7 - 3 ∧ i % 7 - 3 ≤ r z.toNat ∧ -(r z.toNat) ≤ i / 7 - 3 ∧ i / 7 - 3 ≤ r z.toNat) → P110 (jI (r z.toNat)) (jI i) (jI (i % 7 - 3)) (jI (i / 7 - 3)) σ' := by
      intro ho
      refine c110 _ _ _ _ _ (c111 _ _ _ _ _ _ ⟨fun _ => ?_, fun k => absurd rfl k⟩)
      simp only [jI_n, jI_mul, jI_add]
      exact wr 0 (if_neg ho)
    refine M_within (by omega) (by omega) (by omega) (by omega) (by omega) (by omega) (fun w1 => ⟨fun k => absurd k (by decide), fun _ => ?_⟩) (fun w1 => ⟨fun _ => out (fun k => w1 ⟨k.1, k.2.1⟩), fun k => absurd rfl k⟩)
    refine M_within (by omega) (by omega) (by omega) (by omega) (by omega) (by omega) (fun w2 => ⟨fun k => absurd k (by decide), fun _ => ?_⟩) (fun w2 => ⟨fun _ => out (fun k => w2 k.2.2), fun k => absurd rfl k⟩)
    refine c111 _ _ _ _ _ _ ⟨fun k => absurd k (by decide), fun _ => ?_⟩
    simp only [jI_n, jI_mul, jI_add, jI_sub]
    refine M_depthAt (mOK_V H11 (by omega) (by omega) f) (by omega) (by omega) (by omega) (by omega) (wr _ ?_)
    unfold bd
    rw [if_pos ⟨w1.1, w1.2, w2.1, w2.2⟩]
  · intro σ' f h
    refine c55 _ _ _ ?_
    simp only [jI_n]
    have Mz : mOK σ' z (r z.toNat) (bd (r z.toNat) (d z.toNat) p q) := mOK_of (by omega) (by omega) Db (by rw [f.1 21 (by decide), s21]) h
    refine ⟨fun _ => M_thrownBy Mz (h1 kn ⟨k1, k2⟩ σ' (fun a ha => ?_) ⟨i1, ?_, ?_, ?_, ?_, ⟨p1, ?_, ?_⟩, fun k hk => ?_⟩), fun k => absurd ((jI_le (by omega) (by omega) (by omega) (by omega)).mpr (by omega)) k⟩
    · rw [f.1 a (by omega), f11.1 a (by omega), cdU_ne (by omega)]
    · rw [f.1 19 (by decide), f11.1 19 (by decide), cdU_ne (by decide)]; exact i2
    · rw [f.1 19 (by decide), f11.1 19 (by decide), cdU_ne (by decide)]; exact i3
    · rw [f.1 19 (by decide), f11.1 19 (by decide), cdU_ne (by decide)]; exact i4
    · rw [f.1 19 (by decide), f11.1 19 (by decide), cdU_ne (by decide)]; exact i5
    · rw [f.1 19 (by decide), f11.1 19 (by decide), cdU_ne (by decide)]; exact p2
    · rw [f.1 20 (by decide), f11.1 20 (by decide), cdU_ne (by decide)]; exact p3
    · dsimp only
      by_cases e : k = z.toNat
      · rw [if_pos e, e, show ((z.toNat : Nat) : Int) = z by omega]
        exact Mz
      · rw [if_neg e]
        exact mOK_V (mOK_V (mOK_e (i8 k hk) (σ' := cdU σ 21 (4 : Int).toNat (σ.1 21 z.toNat)) (by rw [cdU_j (by omega)]) (by rw [cdU_ne (by decide)])) (by omega) (by omega) f11) (by omega) (by omega) f
end DM
