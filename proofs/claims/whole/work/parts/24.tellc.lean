/-! THE CLASS tells of its ground. -/
theorem L_fill {σ : cdS} {Q : cdS → Prop} (hQ : ∀ σ', frC 6 σ σ' → (∀ j : Nat, j < 561 → σ'.1 6 j = jI 0) → Q σ') : wp_J7_fill_53178 (jI 0) σ Q := by
  intro P hP
  have key : ∀ (n i : Nat) (σ' : cdS), i + n = 561 → frC 6 σ σ' → (∀ j, j < i → σ'.1 6 j = jI 0) → P (jI i) (jI 561) σ' := by
    intro n
    induction n with
    | zero =>
      intro i σ' hi f hB
      exact hP _ _ _ ⟨fun _ => hQ σ' f (fun j hj => hB j (by omega)), fun k => absurd ((jI_le (by omega) (by omega) (by omega) (by omega)).mpr (by omega)) k⟩
    | succ n ih =>
      intro i σ' hi f hB
      refine hP _ _ _ ⟨fun k => absurd ((jI_le (by omega) (by omega) (by omega) (by omega)).mp k) (by omega), fun _ => ⟨(jI_in (by omega) (by omega)).mpr (by omega), fun σ3 e3 z hz => ?_⟩⟩
      rw [jI_n, jI_add] at hz
      rw [jI_cl (by omega) (by omega), show ((i : Int)).toNat = i by omega] at e3
      rw [hz, e3]
      refine ih (i + 1) _ (by omega) (frC_U f) (fun j hj => ?_)
      by_cases q : j = i
      · rw [q, cdU_s]
      · rw [cdU_j q]; exact hB j (by omega)
  exact key 561 0 σ rfl frC_rf (fun j hj => absurd hj (by omega))
theorem L_tallyDepths {σ : cdS} {w h : Int} {F : Nat → Int} (G : gOK σ w h F) (B : bR (w * h).toNat F) {Q : cdS → Prop} (hQ : ∀ σ', frC 6 σ σ' → (∀ v : Nat, v < 561 → σ'.1 6 v = jI (cn (w * h).toNat F v)) → Q σ') : wp_X1_tallyDepths σ Q := by
  have n1 := B.2.1
  intro P10 P49 c10 c49
  refine L_fill (fun σ0 f0 hz0 => ?_)
  have gf : ∀ {σ' : cdS}, frC 6 σ σ' → gOK σ' w h F := fun f => gOK_K G ⟨fun a u _ => f.1 a u, f.2⟩
  have key : ∀ (n i : Nat) (σ' : cdS), i + n = (w * h).toNat → frC 6 σ σ' → (∀ v : Nat, v < 561 → σ'.1 6 v = jI (cn i F v)) → P10 (jI i) σ' := by
    intro n
    induction n with
    | zero =>
      intro i σ' hi f hB
      refine c10 _ _ (L_many (gf f) ⟨fun _ => hQ σ' f ?_, fun k => absurd ((jI_le (by omega) (by omega) (by omega) (by omega)).mpr (by omega)) k⟩)
      rw [show (w * h).toNat = i by omega]
      exact hB
    | succ n ih =>
      intro i σ' hi f hB
      have b := B.2.2 i (by omega)
      have c := cn_b i F (F i)
      refine c10 _ _ (L_many (gf f) ⟨fun k => absurd ((jI_le (by omega) (by omega) (by omega) (by omega)).mp k) (by omega), fun _ => ⟨(jI_in (by omega) (by omega)).mpr (by omega), ?_⟩⟩)
      rw [jI_cl (by omega) (by omega), show ((i : Int)).toNat = i by omega, gOK_at (gf f) (by omega)]
      refine L_isWithin (b := 0) (c := 560) (by omega) (by omega) (by omega) (by omega) (by omega) (by omega) (fun _ => ⟨fun k => absurd k (by decide), fun _ => ?_⟩) (fun k => absurd ⟨by omega, by omega⟩ k)
      refine ⟨(jI_in (by omega) (by omega)).mpr (by omega), (jI_in (by omega) (by omega)).mpr (by omega), (jI_in (by omega) (by omega)).mpr (by omega), fun σ13 e13 => c49 _ _ (fun z hz => ?_)⟩
      rw [jI_n, jI_add] at hz
      rw [jI_cl (by omega) (by omega), hB _ (by omega), jI_n, jI_add] at e13
      rw [hz]
      refine ih (i + 1) σ13 (by omega) (by rw [e13]; exact frC_U f) (fun v hv => ?_)
      rw [e13]
      unfold cn
      simp only [sm]
      by_cases q : (v : Int) = F i
      · rw [show v = (F i).toNat by omega, cdU_s, if_pos (by omega)]
      · rw [cdU_j (by omega), hB v hv, if_neg (fun e => q e.symm), Int.add_zero]
        rfl
  exact key (w * h).toNat 0 σ0 (by omega) f0 (fun v hv => by rw [hz0 v hv]; rfl)
theorem L_driestTogether {σ : cdS} {w h : Int} {F : Nat → Int} (G : gOK σ w h F) (B : bR (w * h).toNat F) {Q : Int32 → cdS → Prop} (hQ : ∀ σ', frC 6 σ σ' → Q (jI (DR (w * h).toNat F)) σ') : wp_X1_driestTogether (jI (qu (w * h).toNat)) σ Q := by
  have qb := qu_b B
  intro P11 c11
  refine L_tallyDepths G B (fun σ1 f1 hT => ?_)
  have key : ∀ (k : Nat) (v s l : Int), v + k = 561 → 0 ≤ v → 0 ≤ l → l ≤ 91 → s + dy (w * h).toNat F k v l = DR (w * h).toNat F → P11 (jI s) (jI l) (jI v) σ1 := by
    intro k
    induction k with
    | zero =>
      intro v s l hv v0 l0 l1 hs
      refine c11 _ _ _ _ ?_
      simp only [jI_n, jI_neg, jI_add, jI_sub, jI_mul]
      simp only [dy, Int.add_zero] at hs
      rw [hs]
      exact ⟨fun _ => hQ σ1 f1, fun k => absurd ((jI_lt (by omega) (by omega) (by omega) (by omega)).mpr (by omega)) k⟩
    | succ k ih =>
      intro v s l hv v0 l0 l1 hs
      refine c11 _ _ _ _ ?_
      simp only [jI_n, jI_neg, jI_add, jI_sub, jI_mul]
      simp only [dy] at hs
      have cb := cn_b (w * h).toNat F v
      have n1 := B.2.1
      refine ⟨fun k => absurd ((jI_lt (by omega) (by omega) (by omega) (by omega)).mp k) (by omega), fun _ => ?_⟩
      rw [jI_le (by omega) (by omega) (by omega) (by omega)]
      refine ⟨fun q => ?_, fun q => ⟨(jI_in (by omega) (by omega)).mpr (by omega), fun x5 e5 x2 e2 x3 e3 x4 e4 => ?_⟩⟩
      · rw [if_pos q, Int.add_zero] at hs
        rw [hs]
        exact hQ σ1 f1
      · rw [if_neg q] at hs
        have mb := mi_b (n := (w * h).toNat) (F := F) (v := v) (l := l) l0
        rw [jI_cl (by omega) (by omega), hT _ (by omega), show ((v.toNat : Nat) : Int) = v by omega] at e5
        have e5' : x5 = jI (mi (cn (w * h).toNat F v) l) := by
          rw [e5]
          unfold mi
          by_cases q2 : cn (w * h).toNat F v < l
          · rw [if_pos ((jI_lt (by omega) (by omega) (by omega) (by omega)).mpr q2), if_pos q2]
          · rw [if_neg (fun k => q2 ((jI_lt (by omega) (by omega) (by omega) (by omega)).mp k)), if_neg q2]
        rw [e5', jI_mul, jI_add] at e2
        rw [e5', jI_sub] at e3
        rw [e2, e3, e4]
        exact ih (v + 1) _ _ (by omega) (by omega) (by omega) (by omega) (by omega)
  exact key 561 0 0 (qu (w * h).toNat) (by omega) (by omega) (by omega) (by omega) (by unfold DR; omega)
theorem L_low {σ : cdS} {w h : Int} {F : Nat → Int} (G : gOK σ w h F) (B : bR (w * h).toNat F) (hT : ¬ sm (w * h).toNat F = 0) {Q : cdS → Prop}
    (hQ : ∀ σ', frK σ σ' → σ'.1 7 0 = jI (rq ((w * h).toNat * DR (w * h).toNat F) (qu (w * h).toNat * sm (w * h).toNat F) ((w * h).toNat * DR (w * h).toNat F)) → σ'.1 7 1 = jI (rq ((w * h).toNat * DR (w * h).toNat F) (qu (w * h).toNat * sm (w * h).toNat F) (qu (w * h).toNat * sm (w * h).toNat F)) → Q σ') : wp_X1_low σ Q := by
  have n1 := B.2.1
  have tb := sm_bR B _ (Nat.le_refl _)
  have qb := qu_b B
  have db := DR_b B
  have qt := qT_b B
  have qp : 0 < qu (w * h).toNat * sm (w * h).toNat F := Int.mul_pos (by omega) (by omega)
  refine L_many G (fun x1 e1 => L_many G ?_)
  rw [jI_n, jI_n, jI_add, jI_divP (by omega) (by omega) (by omega) (by omega)] at e1
  rw [e1]
  refine L_driestTogether G B (fun σ1 f1 => ?_)
  have f1' : frK σ σ1 := ⟨fun a u _ => f1.1 a u, f1.2⟩
  refine L_total (gOK_K G f1') B ?_
  rw [jI_mul, show ((((w * h).toNat : Nat) : Int) + 3) / 4 = qu (w * h).toNat from rfl, jI_mul]
  refine L_set (by omega) (by omega) qp (by omega) (fun σ2 f2 _ a b => hQ σ2 (frK_t f1' f2) a b)
theorem L_even {σ : cdS} {w h : Int} {F : Nat → Int} (G : gOK σ w h F) (B : bR (w * h).toNat F) (hT : ¬ sm (w * h).toNat F = 0) {Q : cdS → Prop}
    (hQ : ∀ σ', frK σ σ' → σ'.1 7 0 = jI (rq (eA (w * h).toNat F) (eB (w * h).toNat F) (eA (w * h).toNat F)) → σ'.1 7 1 = jI (rq (eA (w * h).toNat F) (eB (w * h).toNat F) (eB (w * h).toNat F)) → Q σ') : wp_X1_even σ Q := by
  have n0 := B.1
  have n1 := B.2.1
  have tb := sm_bR B _ (Nat.le_refl _)
  have nt := nT_b B
  have ntp : 0 < ((w * h).toNat : Int) * sm (w * h).toNat F := Int.mul_pos (by omega) (by omega)
  intro P15 c15
  refine L_many G (L_total G B ?_)
  have key : ∀ (n i : Nat), i + n = (w * h).toNat → P15 (jI ((w * h).toNat : Nat)) (jI (sm (w * h).toNat F)) (jI (eO (w * h).toNat F i)) (jI i) σ := by
    intro n
    induction n with
    | zero =>
      intro i hi
      have ob := eO_b B i (by omega)
      refine c15 _ _ _ _ _ ⟨fun _ => ?_, fun k => absurd ((jI_le (by omega) (by omega) (by omega) (by omega)).mpr (by omega)) k⟩
      rw [jI_mul, jI_sub]
      rw [show i = (w * h).toNat by omega] at ob ⊢
      exact L_set (A := eA (w * h).toNat F) (B := eB (w * h).toNat F) (by unfold eA; omega) (by unfold eA; omega) (by unfold eB; omega) (by unfold eB; omega) (fun σ2 f2 _ a b => hQ σ2 f2 a b)
    | succ n ih =>
      intro i hi
      have ih := ih (i + 1) (by omega)
      have at' := ab_t B i (by omega)
      refine c15 _ _ _ _ _ ⟨fun k => absurd ((jI_le (by omega) (by omega) (by omega) (by omega)).mp k) (by omega), fun _ => ⟨(jI_in (by omega) (by omega)).mpr (by omega), fun x3 e3 x4 e4 => ?_⟩⟩
      rw [jI_cl (by omega) (by omega), show ((i : Int)).toNat = i by omega, gOK_at G (by omega), jI_mul, jI_sub] at e3
      rw [jI_n, jI_add] at e4
      have e5 : (if 0 ≤ jI (((w * h).toNat : Nat) * F i - sm (w * h).toNat F) then jI (((w * h).toNat : Nat) * F i - sm (w * h).toNat F) else 0 - jI (((w * h).toNat : Nat) * F i - sm (w * h).toNat F)) = jI (ab (((w * h).toNat : Nat) * F i - sm (w * h).toNat F)) := by
        rw [jI_n]
        unfold ab
        by_cases q : 0 ≤ ((w * h).toNat : Int) * F i - sm (w * h).toNat F
        · rw [if_pos ((jI_le (by omega) (by omega) (by omega) (by omega)).mpr q), if_pos q]
        · rw [if_neg (fun k => q ((jI_le (by omega) (by omega) (by omega) (by omega)).mp k)), if_neg q, jI_sub]
      rw [e5, jI_add] at e3
      rw [e3, e4]
      exact ih
  exact key (w * h).toNat 0 (by omega)
theorem L_gtell {σ : cdS} {w h : Int} {F : Nat → Int} (G : gOK σ w h F) (B : bR (w * h).toNat F) {q : Int} (q0 : 0 ≤ q) (q7 : q ≤ 7) {Q : Int32 → cdS → Prop} (hQ : ∀ σ', frK σ σ' → Q (jI (TL (w * h).toNat F q)) σ') : wp_X1_tell (jI q) σ Q := by
  have n0 := B.1
  have n1 := B.2.1
  have tb := sm_bR B _ (Nat.le_refl _)
  have hQ0 := hQ σ frK_rf
  unfold TL at hQ hQ0
  unfold wp_X1_tell
  simp only [jI_n, jI_neg, jI_add, jI_sub, jI_mul]
  rw [jI_eq (by omega) (by omega) (by omega) (by omega), jI_eq (by omega) (by omega) (by omega) (by omega), jI_eq (by omega) (by omega) (by omega) (by omega), jI_eq (by omega) (by omega) (by omega) (by omega), jI_eq (by omega) (by omega) (by omega) (by omega), jI_eq (by omega) (by omega) (by omega) (by omega), jI_eq (by omega) (by omega) (by omega) (by omega), jI_eq (by omega) (by omega) (by omega) (by omega)]
  refine ⟨fun e0 => ?_, fun e0 => ⟨fun e1 => ?_, fun e1 => ⟨fun e2 => ?_, fun e2 => ⟨fun e3 => ?_, fun e3 => ⟨fun e4 => ?_, fun e4 => ⟨fun e5 => ?_, fun e5 => ⟨fun e6 => ?_, fun e6 => ⟨fun e7 => ?_, fun e7 => absurd e7 (by omega)⟩⟩⟩⟩⟩⟩⟩⟩
  · rw [if_pos e0] at hQ0
    exact L_many G hQ0
  · rw [if_neg e0, if_pos e1] at hQ0
    exact L_total G B hQ0
  · rw [if_neg e0, if_neg e1, if_pos e2] at hQ0
    have hm := am_lt F n0
    refine L_driestPlace G B ⟨(jI_in (by omega) (by omega)).mpr (by omega), ?_⟩
    rw [jI_cl (by omega) (by omega), show ((am F (w * h).toNat : Nat) : Int).toNat = am F (w * h).toNat by omega, gOK_at G hm]
    exact hQ0
  · rw [if_neg e0, if_neg e1, if_neg e2, if_pos e3] at hQ0
    exact L_ggreatest G B hQ0
  · rw [if_neg e0, if_neg e1, if_neg e2, if_neg e3, if_pos e4] at hQ hQ0
    refine L_total G B ?_
    rw [jI_eq (by omega) (by omega) (by omega) (by omega)]
    refine ⟨fun k => ?_, fun k => ?_⟩
    · rw [if_neg k] at hQ
      refine L_even G B k (fun σ1 f1 a b => ?_)
      show Q (σ1.1 7 0) σ1
      rw [a]
      exact hQ σ1 f1
    · rw [if_pos k] at hQ0
      exact hQ0
  · rw [if_neg e0, if_neg e1, if_neg e2, if_neg e3, if_neg e4, if_pos e5] at hQ hQ0
    refine L_total G B ?_
    rw [jI_eq (by omega) (by omega) (by omega) (by omega)]
    refine ⟨fun k => ?_, fun k => ?_⟩
    · rw [if_neg k] at hQ
      refine L_even G B k (fun σ1 f1 a b => ?_)
      show Q (σ1.1 7 1) σ1
      rw [b]
      exact hQ σ1 f1
    · rw [if_pos k] at hQ0
      exact hQ0
  · rw [if_neg e0, if_neg e1, if_neg e2, if_neg e3, if_neg e4, if_neg e5, if_pos e6] at hQ hQ0
    refine L_total G B ?_
    rw [jI_eq (by omega) (by omega) (by omega) (by omega)]
    refine ⟨fun k => ?_, fun k => ?_⟩
    · rw [if_neg k] at hQ
      refine L_low G B k (fun σ1 f1 a b => ?_)
      show Q (σ1.1 7 0) σ1
      rw [a]
      exact hQ σ1 f1
    · rw [if_pos k] at hQ0
      exact hQ0
  · rw [if_neg e0, if_neg e1, if_neg e2, if_neg e3, if_neg e4, if_neg e5, if_neg e6] at hQ hQ0
    refine L_total G B ?_
    rw [jI_eq (by omega) (by omega) (by omega) (by omega)]
    refine ⟨fun k => ?_, fun k => ?_⟩
    · rw [if_neg k] at hQ
      refine L_low G B k (fun σ1 f1 a b => ?_)
      show Q (σ1.1 7 1) σ1
      rw [b]
      exact hQ σ1 f1
    · rw [if_pos k] at hQ0
      exact hQ0
